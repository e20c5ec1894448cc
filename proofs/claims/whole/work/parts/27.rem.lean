/-! ===== remembering, undoing ===== -/
theorem m_rem {M : MM} {cnt : Nat} (hc : cnt ≤ 20) (e4 : M.1 0 4 = nI cnt) : ∃ M2 : MM, FX8_remember M = some M2 ∧ M2.1 0 4 = nI (if cnt = 20 then 20 else cnt + 1) ∧ (M2.1 4 = pt (if cnt = 20 then pt (M.1 4) (fun k => M.1 4 (17 + k)) 0 323 else M.1 4) (M.1 3) (17 * (if cnt = 20 then 19 else cnt)) 17) ∧ (∀ a, a ≠ 0 → a ≠ 4 → M2.1 a = M.1 a) ∧ (∀ k, k ≠ 4 → M2.1 0 k = M.1 0 k) ∧ M2.2 = M.2 := by
  -- the ending, from any memory of n remembered
  have fin : ∀ (Ma : MM) (n : Nat), n < 20 → Ma.1 0 4 = nI n → Ma.1 3 = M.1 3 → ∃ M2 : MM, bo (FX8_copies 3 0 4 (17 * (Ma.1 0 4)) 17 Ma) (fun (M_2 : MM) => some (um M_2 0 4 ((M_2.1 0 4) + 1))) = some M2 ∧ M2.1 0 4 = nI (n + 1) ∧ M2.1 4 = pt (Ma.1 4) (M.1 3) (17 * n) 17 ∧ (∀ a, a ≠ 0 → a ≠ 4 → M2.1 a = Ma.1 a) ∧ (∀ k, k ≠ 4 → M2.1 0 k = Ma.1 0 k) ∧ M2.2 = Ma.2 := by
    intro Ma n hn h4 h3
    have e17 : (17 : Int32) * nI n = nI (17 * n) := mul_n 17 n
    have hcp := m_copies (M := Ma) (c0 := 3) (c2 := 4) (i := 0) (j := 17 * n) (n := 17) (by decide) (by decide) (show 17 * n + 17 ≤ 340 by omega) (by decide) (by decide)
    have ef : (fun k => Ma.1 3 (0 + k)) = M.1 3 := by funext k; rw [Nat.zero_add, h3]
    rw [ef] at hcp
    rw [h4, e17]
    have hcp2 : FX8_copies 3 0 4 (nI (17 * n)) 17 Ma = some (setR Ma 4 (pt (Ma.1 4) (M.1 3) (17 * n) 17)) := hcp
    rw [hcp2, bo_s]
    have s0 : (setR Ma 4 (pt (Ma.1 4) (M.1 3) (17 * n) 17)).1 0 = Ma.1 0 := setR_n _ _ (by decide)
    refine ⟨_, rfl, ?_, ?_, fun a h1 h2 => ?_, fun k hk => ?_, rfl⟩
    · rw [um_at, if_pos ⟨rfl, rfl⟩, s0, h4, nI_1]
    · rw [um_setR, setR_n _ _ (by decide), setR_c]
    · rw [um_setR, setR_n _ _ h1, setR_n _ _ h2]
    · rw [um_at, if_neg (fun z => hk z.2), s0]
  unfold FX8_remember
  rw [jn_s, e4]
  by_cases h : cnt = 20
  · subst h
    rw [if_pos (show nI 20 = 20 from rfl), if_pos rfl, if_pos rfl, if_pos rfl]
    have L : ∀ (K : MM → Option MM) (d v k : Nat), v + d = 323 → d < k → FX8_remember_L11 K k (nI v) (setR M 4 (pt (M.1 4) (fun k => M.1 4 (17 + k)) 0 v)) = K (setR M 4 (pt (M.1 4) (fun k => M.1 4 (17 + k)) 0 323)) := by
      intro K d
      induction d with
      | zero =>
        intro v k hv hk
        obtain ⟨k, rfl⟩ : ∃ z, k = z + 1 := ⟨k - 1, by omega⟩
        have e : v = 323 := by omega
        subst e
        rw [FX8_remember_L11, if_pos (by decide)]
      | succ d ih =>
        intro v k hv hk
        obtain ⟨k, rfl⟩ : ∃ z, k = z + 1 := ⟨k - 1, by omega⟩
        have e17 : nI v + 17 = nI (v + 17) := add_n v 17
        rw [FX8_remember_L11, if_neg (show ¬ (323 : Int32) ≤ nI v from nI_ge (b := 323) (by omega) (by decide)), e17, if_pos (inb_n (by omega) (by decide)), if_pos (inb_n (by omega) (by decide)), ix_n (by omega), ix_n (by omega), nI_1, um_setR, setR_setR, setR_c, pt_out (Or.inr (by omega))]
        have e := pt_s (M.1 4) (fun k => M.1 4 (17 + k)) 0 v (v := M.1 4 (v + 17)) (by rw [Nat.add_comm])
        rw [Nat.zero_add] at e
        rw [e]
        exact ih (v + 1) k (by omega) (by omega)
    have e1 := L (fun (M_4 : MM) => bo (FX8_copies 3 0 4 (17 * ((um M_4 0 4 ((M_4.1 0 4) - 1)).1 0 4)) 17 (um M_4 0 4 ((M_4.1 0 4) - 1))) (fun (M_2 : MM) => some (um M_2 0 4 ((M_2.1 0 4) + 1)))) 323 0 fuelN rfl (show 323 < 100000 by omega)
    rw [pt_0, setR_self] at e1
    obtain ⟨Mb, eMb⟩ : ∃ Mb, Mb = setR M 4 (pt (M.1 4) (fun k => M.1 4 (17 + k)) 0 323) := ⟨_, rfl⟩
    rw [← eMb] at e1
    have b0 : Mb.1 0 = M.1 0 := by rw [eMb]; exact setR_n _ _ (by decide)
    have b4 : Mb.1 4 = pt (M.1 4) (fun k => M.1 4 (17 + k)) 0 323 := by rw [eMb, setR_c]
    have c4 : (um Mb 0 4 (Mb.1 0 4 - 1)).1 0 4 = nI 19 := by rw [um_at, if_pos ⟨rfl, rfl⟩, b0, e4]; rfl
    obtain ⟨M2, f1, f2, f3, f4, f5, f6⟩ := fin (um Mb 0 4 (Mb.1 0 4 - 1)) 19 (by omega) c4 (by rw [um_setR, setR_n _ _ (by decide), eMb, setR_n _ _ (by decide)])
    refine ⟨M2, e1.trans f1, f2, ?_, fun a h1 h2 => ?_, fun k hk => ?_, ?_⟩
    · rw [f3, um_setR, setR_n _ _ (by decide), b4]
    · rw [f4 a h1 h2, um_setR, setR_n _ _ h1, eMb, setR_n _ _ h2]
    · rw [f5 k hk, um_at, if_neg (fun z => hk z.2), b0]
    · rw [f6, eMb]; rfl
  · rw [if_neg (show ¬ nI cnt = 20 from fun z => h ((nI_eq (by omega) (by decide)).mp (show nI cnt = nI 20 from z))), if_neg h, if_neg h, if_neg h]
    exact fin M cnt (by omega) e4 rfl
theorem rem_both {Mx : XM} {Mm : MM} {nf : Nat} (P : PastR Mx (Mm.1 4) (Mm.1 0 4) nf) (MX : MindX Mx 17 (Mm.1 3)) (MI : MindI (Mm.1 3) nf) : ∃ (Mx2 : XM) (Mm2 : MM), FX4_push 17 Mx = some Mx2 ∧ FX8_remember Mm = some Mm2 ∧ PastR Mx2 (Mm2.1 4) (Mm2.1 0 4) nf ∧ (∀ a, a ≠ 27 → a ≠ 29 → Mx2 a = Mx a) ∧ (∀ a, a ≠ 0 → a ≠ 4 → Mm2.1 a = Mm.1 a) ∧ (∀ k, k ≠ 4 → Mm2.1 0 k = Mm.1 0 k) ∧ Mm2.2 = Mm.2 := by
  obtain ⟨cnt, nx, hc, hn, x2, x1, m4, hE⟩ := P
  obtain ⟨Mx2, p1, p2, p3, p4, p5⟩ := x_push hc hn x2 x1
  obtain ⟨Mm2, r1, r2, r3, r4, r5, r6⟩ := m_rem hc m4
  refine ⟨Mx2, Mm2, p1, r1, ?_, p5, r4, r5, r6⟩
  have mf := mindX_iff.mp MX
  have congI : ∀ (u w : Nat → Int32), (∀ k, k < 17 → u k = w k) → MindI w nf → MindI u nf := by
    intro u w h I
    obtain ⟨i1, ⟨N, i2, i3, i4⟩, s, i5, i6⟩ := I
    exact ⟨fun o ho => by rw [h o (by omega)]; exact i1 o ho, ⟨N, i2, by rw [h 14 (by omega)]; exact i3, fun f hf => by rw [h (5 + f) (by omega)]; exact i4 f hf⟩, s, i5, by rw [h 13 (by omega)]; exact i6⟩
  refine ⟨if cnt = 20 then 20 else cnt + 1, (nx + 1) % 20, by split <;> omega, by omega, p3, p2, r2, ?_⟩
  intro i hi
  -- the entry in the reference's row
  have ent : (i = (if cnt = 20 then 19 else cnt) ∧ ∀ k, k < 17 → Mm2.1 4 (17 * i + k) = Mm.1 3 k) ∨ (i < (if cnt = 20 then 19 else cnt) ∧ ∀ k, k < 17 → Mm2.1 4 (17 * i + k) = Mm.1 4 (17 * (i + if cnt = 20 then 1 else 0) + k)) := by
    by_cases h : cnt = 20
    · rw [if_pos h] at hi r3 ⊢
      rw [if_pos h] at r3
      by_cases h2 : i = 19
      · exact Or.inl ⟨h2, fun k hk => by rw [r3, h2, pt_in hk]⟩
      · refine Or.inr ⟨by omega, fun k hk => ?_⟩
        rw [r3, pt_out (Or.inl (by omega)), show (if cnt = 20 then 1 else 0) = 1 from if_pos h]
        have := pt_in (g := Mm.1 4) (f := fun k => Mm.1 4 (17 + k)) (a := 0) (n := 323) (k := 17 * i + k) (by omega)
        rw [Nat.zero_add] at this
        rw [this]
        show Mm.1 4 (17 + (17 * i + k)) = Mm.1 4 (17 * (i + 1) + k)
        exact congrArg (Mm.1 4) (by omega)
    · rw [if_neg h] at hi r3 ⊢
      rw [if_neg h] at r3
      by_cases h2 : i = cnt
      · exact Or.inl ⟨h2, fun k hk => by rw [r3, h2, pt_in hk]⟩
      · refine Or.inr ⟨by omega, fun k hk => ?_⟩
        rw [r3, pt_out (Or.inl (by omega)), show (if cnt = 20 then 1 else 0) = 0 from if_neg h, Nat.add_zero]
  rcases ent with ⟨ei, ek⟩ | ⟨ei, ek⟩
  · refine ⟨congI _ (Mm.1 3) ek MI, fun k hk => ?_⟩
    have pl : ((nx + 1) % 20 + 20 - (if cnt = 20 then 20 else cnt + 1) + i) % 20 = nx := by
      by_cases h : cnt = 20
      · rw [if_pos h] at ei ⊢; omega
      · rw [if_neg h] at ei ⊢; omega
    rw [ek k hk, pl, p4, pt_in hk]
    exact (mf k hk).symm
  · obtain ⟨g1, g2⟩ := hE (i + if cnt = 20 then 1 else 0) (by by_cases h : cnt = 20 <;> simp only [h, if_true, if_false] at ei ⊢ <;> omega)
    refine ⟨congI _ _ ek g1, fun k hk => ?_⟩
    rw [ek k hk, g2 k hk]
    have pl : ((nx + 1) % 20 + 20 - (if cnt = 20 then 20 else cnt + 1) + i) % 20 = (nx + 20 - cnt + (i + if cnt = 20 then 1 else 0)) % 20 := by
      by_cases h : cnt = 20
      · rw [if_pos h, if_pos h]; omega
      · rw [if_neg h, if_neg h]; omega
    have pn : (nx + 20 - cnt + (i + if cnt = 20 then 1 else 0)) % 20 ≠ nx := by
      by_cases h : cnt = 20
      · rw [if_pos h] at ei ⊢; omega
      · rw [if_neg h] at ei ⊢; omega
    rw [pl, p4, pt_out]
    omega
