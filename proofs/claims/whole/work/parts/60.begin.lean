/-! ===== a new city's reader, on both sides ===== -/
def sSo (g : Nat → Int32) : Nat → Int32
  | 0 => 0
  | n + 1 => sSo g n ||| (if g (42 + n) = 0 then (1 : Int32) <<< (nI n &&& 31) else 0)
theorem sSo_I (g : Nat → Int32) : ∀ n, n ≤ 8 → ∃ s, s < 2 ^ n ∧ sSo g n = nI s := by
  intro n
  induction n with
  | zero => exact fun _ => ⟨0, by decide, rfl⟩
  | succ n ih =>
    intro hn
    obtain ⟨s, hs, es⟩ := ih (by omega)
    have p1 : 2 ^ n < 2 ^ (n + 1) := Nat.pow_lt_pow_right (by decide) (by omega)
    rw [sSo, es]
    by_cases h : g (42 + n) = 0
    · rw [if_pos h, shl1 n (by omega), or_n]; exact ⟨s ||| 2 ^ n, Nat.or_lt_two_pow (by omega) p1, rfl⟩
    · rw [if_neg h, or_0]; exact ⟨s, by omega, rfl⟩
/-- the mind that a new city begins with -/
def u0 (g : Nat → Int32) (nf : Nat) : Nat → Int32 := fun k => if k < 5 then g (5 + k) else if k = 13 then sSo g nf else if k = 16 then -1 else 0
theorem x_begin {M : XM} {g : Nat → Int32} {no nf : Nat} (hno : no ≤ 5) (hnf : nf ≤ 8) (h1 : M 3 1 = nI no) (h2 : M 3 2 = nI nf) (hb : ∀ o, o < no → M 4 o = g (5 + o)) (hz : ∀ o, o < 5 → no ≤ o → g (5 + o) = 0) (hc : ∀ f, f < nf → M 9 f = g (42 + f)) : ∃ M2, FX3_begin 17 3 M = some M2 ∧ MindX M2 17 (u0 g nf) ∧ FrX 17 M M2 := by
  have L2 : ∀ (d i k : Nat) (M1 : XM), i + d = 8 → d < k → FrX 17 M M1 → (∀ j, j < i → M1 19 j = 0) → (∀ j, j < 5 → M1 18 j = g (5 + j)) → M1 17 2 = sSo g (min i nf) → M1 17 3 = 0 → M1 17 4 = 0 → M1 17 5 = -1 → ∃ M2, FX3_begin_L63 17 3 (fun (M_2 : XM) => some M_2) k (nI i) M1 = some M2 ∧ MindX M2 17 (u0 g nf) ∧ FrX 17 M M2 := by
    intro d
    induction d with
    | zero =>
      intro i k M1 hi hk F r8 b5 q2 q3 q4 q5
      obtain ⟨k, rfl⟩ : ∃ z, k = z + 1 := ⟨k - 1, by omega⟩
      have e : i = 8 := by omega
      subst e
      refine ⟨M1, by rw [FX3_begin_L63, if_pos (show (8 : Int32) ≤ nI 8 by decide)], ⟨fun o ho => ?_, fun f hf => ?_, ?_, ?_, ?_, ?_⟩, F⟩
      · unfold u0; rw [if_pos ho]; exact b5 o ho
      · unfold u0; rw [if_neg (by omega), if_neg (by omega), if_neg (by omega)]; exact r8 f hf
      · rw [q2, show min 8 nf = nf by omega]; unfold u0; rw [if_neg (by decide), if_pos rfl]
      · unfold u0; rw [if_neg (by decide), if_neg (by decide), if_neg (by decide)]; exact q3
      · unfold u0; rw [if_neg (by decide), if_neg (by decide), if_neg (by decide)]; exact q4
      · unfold u0; rw [if_neg (by decide), if_neg (by decide), if_pos rfl]; exact q5
    | succ d ih =>
      intro i k M1 hi hk F r8 b5 q2 q3 q4 q5
      obtain ⟨k, rfl⟩ : ∃ z, k = z + 1 := ⟨k - 1, by omega⟩
      have ei := nI_toInt (n := i) (by omega)
      obtain ⟨Ma, ea⟩ : ∃ Ma, Ma = upd2 M1 19 i 0 := ⟨_, rfl⟩
      have Fa : FrX 17 M Ma := fun a z1 z2 z3 => by rw [ea, upd2_n _ _ _ (by omega)]; exact F a z1 z2 z3
      have a3 : Ma 3 2 = nI nf := by rw [Fa 3 (by decide) (by decide) (by decide)]; exact h2
      rw [FX3_begin_L63, if_neg (show ¬ (8 : Int32) ≤ nI i from nI_ge (b := 8) (by omega) (by decide)), put_ok (c := 17 + 2) (show i < 8 by omega), bo_s, ← ea, fact_x (nf := nf) a3 hnf, bo_s, jn_s, jn_s, nI_1]
      have fin : ∀ s : Int32, sSo g (min i nf) ||| s = sSo g (min (i + 1) nf) → ∃ M2, FX3_begin_L63 17 3 (fun (M_2 : XM) => some M_2) k (nI (i + 1)) (upd2 Ma 17 2 ((Ma 17 2) ||| s)) = some M2 ∧ MindX M2 17 (u0 g nf) ∧ FrX 17 M M2 := by
        intro s hs
        have a17 : ∀ j, Ma 17 j = M1 17 j := fun j => by rw [ea, upd2_at, if_neg (by omega)]
        refine ih (i + 1) k _ (by omega) (by omega) (fun a z1 z2 z3 => by rw [upd2_n _ _ _ z1]; exact Fa a z1 z2 z3) (fun j hj => ?_) (fun j hj => ?_) ?_ ?_ ?_ ?_
        · rw [upd2_at, if_neg (by omega), ea, upd2_at]
          by_cases hji : j = i
          · rw [if_pos ⟨rfl, hji⟩]
          · rw [if_neg (fun z => hji z.2)]; exact r8 j (by omega)
        · rw [upd2_at, if_neg (by omega), ea, upd2_at, if_neg (by omega)]; exact b5 j hj
        · rw [upd2_at, if_pos ⟨rfl, rfl⟩, a17, q2, hs]
        · rw [upd2_at, if_neg (by omega), a17]; exact q3
        · rw [upd2_at, if_neg (by omega), a17]; exact q4
        · rw [upd2_at, if_neg (by omega), a17]; exact q5
      by_cases hi2 : i < nf
      · have en : min (i + 1) nf = i + 1 := by omega
        have en2 : min i nf = i := by omega
        have a9 : Ma 9 i = g (42 + i) := by rw [Fa 9 (by decide) (by decide) (by decide)]; exact hc i hi2
        rw [if_pos (show 0 ≤ (nI i).toInt ∧ (nI i).toInt < nf by omega), if_neg (show ¬ (1 : Int32) = 0 by decide), at_ok (c := 3 + 6) (show i < 8 by omega), bo_s, show Ma (3 + 6) i = g (42 + i) from a9]
        by_cases hg : g (42 + i) = 0
        · rw [if_pos hg]
          exact fin _ (by rw [en, en2, sSo, if_pos hg])
        · rw [if_neg hg]
          exact fin _ (by rw [en, en2, sSo, if_neg hg])
      · rw [if_neg (show ¬ (0 ≤ (nI i).toInt ∧ (nI i).toInt < nf) by omega), if_pos rfl]
        exact fin _ (by rw [show min (i + 1) nf = nf by omega, show min i nf = nf by omega, or_0])
  have L1 : ∀ (d i k : Nat) (M1 : XM), i + d = 5 → d < k → FrX 17 M M1 → (∀ j, j < i → M1 18 j = g (5 + j)) → M1 17 2 = 0 → M1 17 3 = 0 → M1 17 4 = 0 → M1 17 5 = -1 → ∃ M2, FX3_begin_L22 17 3 (fun (M_1 : XM) => FX3_begin_L63 17 3 (fun (M_2 : XM) => some M_2) fuelN 0 M_1) k (nI i) M1 = some M2 ∧ MindX M2 17 (u0 g nf) ∧ FrX 17 M M2 := by
    intro d
    induction d with
    | zero =>
      intro i k M1 hi hk F b5 q2 q3 q4 q5
      obtain ⟨k, rfl⟩ : ∃ z, k = z + 1 := ⟨k - 1, by omega⟩
      have e : i = 5 := by omega
      subst e
      rw [FX3_begin_L22, if_pos (show (5 : Int32) ≤ nI 5 by decide)]
      exact L2 8 0 fuelN M1 (by omega) (show 8 < 100000 by decide) F (fun j hj => by omega) b5 (by rw [q2, show min 0 nf = 0 by omega]; rfl) q3 q4 q5
    | succ d ih =>
      intro i k M1 hi hk F b5 q2 q3 q4 q5
      obtain ⟨k, rfl⟩ : ∃ z, k = z + 1 := ⟨k - 1, by omega⟩
      have ei := nI_toInt (n := i) (by omega)
      have a3 : M1 3 1 = nI no := by rw [F 3 (by decide) (by decide) (by decide)]; exact h1
      rw [FX3_begin_L22, if_neg (show ¬ (5 : Int32) ≤ nI i from nI_ge (b := 5) (by omega) (by decide)), opin_x (no := no) a3 hno, bo_s, jn_s, nI_1]
      have fin : ∀ s : Int32, s = g (5 + i) → ∃ M2, bo (FX7_put (17 + 1) (nI i) s M1) (fun (M_17 : XM) => FX3_begin_L22 17 3 (fun (M_1 : XM) => FX3_begin_L63 17 3 (fun (M_2 : XM) => some M_2) fuelN 0 M_1) k (nI (i + 1)) M_17) = some M2 ∧ MindX M2 17 (u0 g nf) ∧ FrX 17 M M2 := by
        intro s hs
        rw [put_ok (c := 17 + 1) (show i < 5 by omega), bo_s]
        refine ih (i + 1) k _ (by omega) (by omega) (fun a z1 z2 z3 => by rw [upd2_n _ _ _ (by omega)]; exact F a z1 z2 z3) (fun j hj => ?_) ?_ ?_ ?_ ?_
        · rw [upd2_at]
          by_cases hji : j = i
          · rw [if_pos ⟨rfl, hji⟩, hji]; exact hs
          · rw [if_neg (fun z => hji z.2)]; exact b5 j (by omega)
        · rw [upd2_at, if_neg (by omega)]; exact q2
        · rw [upd2_at, if_neg (by omega)]; exact q3
        · rw [upd2_at, if_neg (by omega)]; exact q4
        · rw [upd2_at, if_neg (by omega)]; exact q5
      by_cases hi2 : i < no
      · have a4 : M1 4 i = g (5 + i) := by rw [F 4 (by decide) (by decide) (by decide)]; exact hb i hi2
        rw [if_pos (show 0 ≤ (nI i).toInt ∧ (nI i).toInt < no by omega), if_neg (show ¬ (1 : Int32) = 0 by decide), at_ok (c := 3 + 1) (show i < 5 by omega), bo_s]
        exact fin _ a4
      · rw [if_neg (show ¬ (0 ≤ (nI i).toInt ∧ (nI i).toInt < no) by omega), if_pos rfl]
        exact fin _ (hz i (by omega) (by omega)).symm
  exact L1 5 0 fuelN _ (by omega) (show 5 < 100000 by decide) (fun a z1 z2 z3 => by rw [upd2_n _ _ _ z1, upd2_n _ _ _ z1, upd2_n _ _ _ z1, upd2_n _ _ _ z1]) (fun j hj => by omega) (by rw [upd2_at, if_neg (by decide), upd2_at, if_neg (by decide), upd2_at, if_neg (by decide), upd2_at, if_pos ⟨rfl, rfl⟩]) (by rw [upd2_at, if_neg (by decide), upd2_at, if_neg (by decide), upd2_at, if_pos ⟨rfl, rfl⟩]) (by rw [upd2_at, if_neg (by decide), upd2_at, if_pos ⟨rfl, rfl⟩]) (by rw [upd2_at, if_pos ⟨rfl, rfl⟩])
theorem m_begins {M : MM} {nf : Nat} (hnf : nf ≤ 8) (h2 : M.1 1 2 = nI nf) : ∃ M2, FX8_begins M = some M2 ∧ (∀ k, k < 17 → M2.1 3 k = u0 (M.1 1) nf k) ∧ (∀ a, a ≠ 0 → a ≠ 3 → a ≠ 6 → M2.1 a = M.1 a) ∧ (∀ b, b ≠ 4 → b ≠ 12 → b ≠ 14 → M2.1 0 b = M.1 0 b) ∧ M2.1 0 4 = 0 ∧ M2.1 0 12 = 0 ∧ M2.1 0 14 = 0 ∧ M2.1 6 0 = 0 ∧ M2.1 6 1 = 0 ∧ M2.2 = M.2 := by
  obtain ⟨g, eg⟩ : ∃ g, g = M.1 1 := ⟨_, rfl⟩
  rw [← eg] at h2 ⊢
  have s1 : ∀ r, (setR M 3 r).1 1 = g := fun r => by rw [setR_n _ _ (by decide)]; exact eg.symm
  have L2 : ∀ (d i k : Nat) (r : Nat → Int32), i + d = nf → d < k → (∀ j, j < 17 → r j = if j < 5 then g (5 + j) else if j = 13 then sSo g i else 0) → ∃ M2, FX8_begins_L39 (fun (M_2 : MM) => some (um (um (um (um (um (um M_2 3 16 (-1)) 0 4 0) 0 12 0) 0 14 0) 6 0 0) 6 1 0)) k (nI i) (setR M 3 r) = some M2 ∧ (∀ k, k < 17 → M2.1 3 k = u0 g nf k) ∧ (∀ a, a ≠ 0 → a ≠ 3 → a ≠ 6 → M2.1 a = M.1 a) ∧ (∀ b, b ≠ 4 → b ≠ 12 → b ≠ 14 → M2.1 0 b = M.1 0 b) ∧ M2.1 0 4 = 0 ∧ M2.1 0 12 = 0 ∧ M2.1 0 14 = 0 ∧ M2.1 6 0 = 0 ∧ M2.1 6 1 = 0 ∧ M2.2 = M.2 := by
    intro d
    induction d with
    | zero =>
      intro i k r hi hk hr
      obtain ⟨k, rfl⟩ : ∃ z, k = z + 1 := ⟨k - 1, by omega⟩
      have e : i = nf := by omega
      subst e
      refine ⟨um (um (um (um (um (um (setR M 3 r) 3 16 (-1)) 0 4 0) 0 12 0) 0 14 0) 6 0 0) 6 1 0, by rw [FX8_begins_L39, s1, h2, if_pos (nI_le (by omega) (by omega))], fun j hj => ?_, fun a z1 z2 z3 => ?_, fun b z1 z2 z3 => ?_, ?_, ?_, ?_, ?_, ?_, rfl⟩
      · rw [um_at, if_neg (by omega), um_at, if_neg (by omega), um_at, if_neg (by omega), um_at, if_neg (by omega), um_at, if_neg (by omega), um_at, setR_c]
        unfold u0
        by_cases j16 : j = 16
        · rw [if_pos ⟨rfl, j16⟩, if_neg (by omega), if_neg (by omega), if_pos j16]
        · rw [if_neg (fun z => j16 z.2), hr j hj, if_neg j16]
      · funext j; rw [um_at, if_neg (by omega), um_at, if_neg (by omega), um_at, if_neg (by omega), um_at, if_neg (by omega), um_at, if_neg (by omega), um_at, if_neg (by omega), setR_n _ _ z2]
      · rw [um_at, if_neg (by omega), um_at, if_neg (by omega), um_at, if_neg (by omega), um_at, if_neg (by omega), um_at, if_neg (by omega), um_at, if_neg (by omega), setR_n _ _ (by decide)]
      · rw [um_at, if_neg (by decide), um_at, if_neg (by decide), um_at, if_neg (by decide), um_at, if_neg (by decide), um_at, if_pos ⟨rfl, rfl⟩]
      · rw [um_at, if_neg (by decide), um_at, if_neg (by decide), um_at, if_neg (by decide), um_at, if_pos ⟨rfl, rfl⟩]
      · rw [um_at, if_neg (by decide), um_at, if_neg (by decide), um_at, if_pos ⟨rfl, rfl⟩]
      · rw [um_at, if_neg (by decide), um_at, if_pos ⟨rfl, rfl⟩]
      · rw [um_at, if_pos ⟨rfl, rfl⟩]
    | succ d ih =>
      intro i k r hi hk hr
      obtain ⟨k, rfl⟩ : ∃ z, k = z + 1 := ⟨k - 1, by omega⟩
      rw [FX8_begins_L39, s1, h2, if_neg (nI_ge (by omega) (by omega)), show (42 : Int32) + nI i = nI (42 + i) from add_n 42 i, if_pos (inb_n (by omega) (by decide)), ix_n (by omega), jn_s, nI_1, setR_c]
      have fin : ∀ s : Int32, s = (if g (42 + i) = 0 then (1 : Int32) <<< (nI i &&& 31) else 0) → ∃ M2, FX8_begins_L39 (fun (M_2 : MM) => some (um (um (um (um (um (um M_2 3 16 (-1)) 0 4 0) 0 12 0) 0 14 0) 6 0 0) 6 1 0)) k (nI (i + 1)) (um (setR M 3 r) 3 13 (r 13 ||| s)) = some M2 ∧ (∀ k, k < 17 → M2.1 3 k = u0 g nf k) ∧ (∀ a, a ≠ 0 → a ≠ 3 → a ≠ 6 → M2.1 a = M.1 a) ∧ (∀ b, b ≠ 4 → b ≠ 12 → b ≠ 14 → M2.1 0 b = M.1 0 b) ∧ M2.1 0 4 = 0 ∧ M2.1 0 12 = 0 ∧ M2.1 0 14 = 0 ∧ M2.1 6 0 = 0 ∧ M2.1 6 1 = 0 ∧ M2.2 = M.2 := by
        intro s hs
        rw [um_setR, setR_setR, setR_c]
        refine ih (i + 1) k _ (by omega) (by omega) (fun j hj => ?_)
        rw [upd_at]
        by_cases j13 : j = 13
        · rw [if_pos j13, if_neg (by omega), if_pos j13, hr 13 (by decide), if_neg (by decide), if_pos rfl, sSo, hs]
        · rw [if_neg j13, hr j hj, if_neg j13, if_neg j13]
      by_cases hg : g (42 + i) = 0
      · rw [if_pos hg]; exact fin _ (by rw [if_pos hg])
      · rw [if_neg hg]; exact fin _ (by rw [if_neg hg])
  have L1 : ∀ (d i k : Nat) (r : Nat → Int32), i + d = 17 → d < k → (∀ j, j < i → r j = if j < 5 then g (5 + j) else 0) → ∃ M2, FX8_begins_L2 (fun (M_1 : MM) => FX8_begins_L39 (fun (M_2 : MM) => some (um (um (um (um (um (um M_2 3 16 (-1)) 0 4 0) 0 12 0) 0 14 0) 6 0 0) 6 1 0)) fuelN 0 M_1) k (nI i) (setR M 3 r) = some M2 ∧ (∀ k, k < 17 → M2.1 3 k = u0 g nf k) ∧ (∀ a, a ≠ 0 → a ≠ 3 → a ≠ 6 → M2.1 a = M.1 a) ∧ (∀ b, b ≠ 4 → b ≠ 12 → b ≠ 14 → M2.1 0 b = M.1 0 b) ∧ M2.1 0 4 = 0 ∧ M2.1 0 12 = 0 ∧ M2.1 0 14 = 0 ∧ M2.1 6 0 = 0 ∧ M2.1 6 1 = 0 ∧ M2.2 = M.2 := by
    intro d
    induction d with
    | zero =>
      intro i k r hi hk hr
      obtain ⟨k, rfl⟩ : ∃ z, k = z + 1 := ⟨k - 1, by omega⟩
      have e : i = 17 := by omega
      subst e
      rw [FX8_begins_L2, if_pos (show (17 : Int32) ≤ nI 17 by decide)]
      refine L2 nf 0 fuelN r (by omega) (show nf < 100000 by omega) (fun j hj => ?_)
      rw [hr j hj]
      by_cases j5 : j < 5
      · rw [if_pos j5, if_pos j5]
      · rw [if_neg j5, if_neg j5]
        by_cases j13 : j = 13
        · rw [if_pos j13]; rfl
        · rw [if_neg j13]
    | succ d ih =>
      intro i k r hi hk hr
      obtain ⟨k, rfl⟩ : ∃ z, k = z + 1 := ⟨k - 1, by omega⟩
      rw [FX8_begins_L2, if_neg (show ¬ (17 : Int32) ≤ nI i from nI_ge (b := 17) (by omega) (by decide)), jn_s, nI_1, s1, show (5 : Int32) + nI i = nI (5 + i) from add_n 5 i]
      have fin : ∀ s : Int32, s = (if i < 5 then g (5 + i) else 0) → ∃ M2, (if inb (nI i) 17 then FX8_begins_L2 (fun (M_1 : MM) => FX8_begins_L39 (fun (M_2 : MM) => some (um (um (um (um (um (um M_2 3 16 (-1)) 0 4 0) 0 12 0) 0 14 0) 6 0 0) 6 1 0)) fuelN 0 M_1) k (nI (i + 1)) (um (setR M 3 r) 3 (ix (nI i)) s) else none) = some M2 ∧ (∀ k, k < 17 → M2.1 3 k = u0 g nf k) ∧ (∀ a, a ≠ 0 → a ≠ 3 → a ≠ 6 → M2.1 a = M.1 a) ∧ (∀ b, b ≠ 4 → b ≠ 12 → b ≠ 14 → M2.1 0 b = M.1 0 b) ∧ M2.1 0 4 = 0 ∧ M2.1 0 12 = 0 ∧ M2.1 0 14 = 0 ∧ M2.1 6 0 = 0 ∧ M2.1 6 1 = 0 ∧ M2.2 = M.2 := by
        intro s hs
        rw [if_pos (inb_n (by omega) (by decide)), ix_n (by omega), um_setR, setR_setR, setR_c]
        refine ih (i + 1) k _ (by omega) (by omega) (fun j hj => ?_)
        rw [upd_at]
        by_cases hji : j = i
        · rw [if_pos hji, hji]; exact hs
        · rw [if_neg hji]; exact hr j (by omega)
      by_cases h5 : i < 5
      · rw [if_neg (show ¬ (5 : Int32) ≤ nI i from nI_ge (b := 5) h5 (by decide)), if_pos (inb_n (by omega) (by decide)), ix_n (n := 5 + i) (by omega)]
        exact fin _ (by rw [if_pos h5])
      · rw [if_pos (show (5 : Int32) ≤ nI i from nI_le (a := 5) (by omega) (by omega))]
        exact fin _ (by rw [if_neg h5])
  have h := L1 17 0 fuelN (M.1 3) (by omega) (show 17 < 100000 by decide) (fun j hj => by omega)
  rw [setR_self] at h
  exact h
