/-! ===== tries: what is behind a sheet, on both sides; thinks ===== -/
theorem sGo_congr {g by_ u w : Nat → Int32} {sheet v : Int32} {kk no nf hh : Nat} (C : CityI g kk no nf hh) (h : ∀ k, k < 17 → u k = w k) : ∀ n, n ≤ nf → (sGo g by_ sheet (v, u) n).1 = (sGo g by_ sheet (v, w) n).1 ∧ ∀ k, k < 17 → (sGo g by_ sheet (v, u) n).2 k = (sGo g by_ sheet (v, w) n).2 k := by
  intro n
  induction n with
  | zero => exact fun _ => ⟨rfl, h⟩
  | succ n ih =>
    intro hn
    obtain ⟨i1, i2⟩ := ih (by omega)
    obtain ⟨o, -, ho, h8, -, io⟩ := fact_o C (show n < nf by omega)
    have hp : g (26 + n) = 9 ∨ ix (g (26 + n)) < 5 := by
      obtain ⟨-, -, -, -, -, hno, hnf, -, -, hF⟩ := C
      obtain ⟨-, -, hp, -⟩ := hF n (by omega)
      rcases hp with z | ⟨p, p1, p2⟩
      · exact Or.inl z
      · exact Or.inr (by rw [p2, ix_n (by omega)]; omega)
    show (sStep g by_ sheet n (sGo g by_ sheet (v, u) n)).1 = (sStep g by_ sheet n (sGo g by_ sheet (v, w) n)).1 ∧ ∀ k, k < 17 → (sStep g by_ sheet n (sGo g by_ sheet (v, u) n)).2 k = (sStep g by_ sheet n (sGo g by_ sheet (v, w) n)).2 k
    have ea : sAfter g by_ (sGo g by_ sheet (v, u) n).2 n = sAfter g by_ (sGo g by_ sheet (v, w) n).2 n := by
      unfold sAfter
      rw [io, i2 o (by omega), i2 (5 + n) (by omega)]
      rcases hp with z | z
      · rw [if_pos (Or.inl z), if_pos (Or.inl z)]
      · rw [i2 _ (by omega)]
    have ec : sConv g by_ (sGo g by_ sheet (v, u) n).2 n = sConv g by_ (sGo g by_ sheet (v, w) n).2 n := by
      unfold sConv
      rw [io, i2 o (by omega), ea]
    unfold sStep
    by_cases hs : sHas sheet n
    · rw [if_pos hs, if_pos hs]
      refine ⟨by show (if _ then _ else _) = (if _ then _ else _); rw [ec, i1], fun k hk => ?_⟩
      show sRead g by_ _ n k = sRead g by_ _ n k
      unfold sRead
      rw [io, ea, upd_at, upd_at, upd_at, upd_at, i2 (5 + n) (by omega), i2 k hk]
    · rw [if_neg hs, if_neg hs]
      exact ⟨i1, i2⟩
/-- a copy of the mind c1 reads a sheet at c0 -/
theorem try_x {M : XM} {c0 c1 d : Nat} {g by_ u : Nat → Int32} {sheet : Int32} {kk no nf hh N : Nat} (h0 : x_is3 c0) (h1 : x_is3 c1) (hn : c0 ≠ c1) (hd : x_is1 d) (C : CityI g kk no nf hh) (X : CityX M d g nf by_) (B : BelX M c1 u) (Rx : RdX M c1 u) (R : RdI u N) (hN : N + 8 < 2 ^ 30) : ∃ M1 M2, FX3_copyFrom c0 c1 M = some M1 ∧ FX3_spendNight c0 d sheet M1 = some M2 ∧ BelX M2 c0 (sGo g by_ sheet (-1, u) nf).2 ∧ RdX M2 c0 (sGo g by_ sheet (-1, u) nf).2 ∧ M2 c0 5 = (sGo g by_ sheet (-1, u) nf).1 ∧ FrX c0 M M2 := by
  obtain ⟨M1, e1, mX, f1⟩ := x_copy (M := M) h0 h1 hn
  have b1 : BelX M1 c0 u := fun o ho => by
    rw [mX.1 o ho]
    unfold mindFn
    rw [if_pos ho]
    exact B o ho
  have r1 : RdX M1 c0 u := fun f hf => by
    rw [mX.2.1 f hf]
    unfold mindFn
    rw [if_neg (by omega), if_pos (by omega), Nat.add_sub_cancel_left]
    exact Rx f hf
  obtain ⟨M2, e2, s1, s2, s3, -, -, -, f2⟩ := x_spend (sheet := sheet) h0 hd C (CityX_fr h0 hd f1 X) b1 r1 R hN
  exact ⟨M1, M2, e1, e2, s1, s2, s3, fun a q1 q2 q3 => (f2 a q1 q2 q3).trans (f1 a q1 q2 q3)⟩
theorem try_m {M : MM} {c e : Nat} {u : Nat → Int32} {sheet : Int32} {kk no nf hh N : Nat} (hc : mRow c) (he : mRow e) (hce : c ≠ e) (C : CityI (M.1 1) kk no nf hh) (eu : ∀ k, k < 17 → M.1 c k = u k) (R : RdI u N) (hN : N + 8 < 2 ^ 30) : ∃ r0 r, FX8_copies c 0 e 0 17 M = some (setR M e r0) ∧ FX8_readsSheet e sheet (setR M e r0) = some ((sGo (M.1 1) (byG (M.1 1)) sheet (-1, u) nf).1, setR M e r) ∧ ∀ k, k < 17 → r k = (sGo (M.1 1) (byG (M.1 1)) sheet (-1, u) nf).2 k := by
  have e1 : (1 : Nat) ≠ e := by rcases he with rfl | rfl | rfl <;> decide
  have hcp := m_copies (M := M) (c0 := c) (c2 := e) (i := 0) (j := 0) (n := 17) hce (by rw [mlen hc]; omega) (by rw [mlen he]; omega) (by rw [mlen hc]; omega) (by rw [mlen he]; omega)
  obtain ⟨r0, er0⟩ : ∃ r0, r0 = pt (M.1 e) (fun k => M.1 c (0 + k)) 0 17 := ⟨_, rfl⟩
  have p0 : ∀ k, k < 17 → r0 k = u k := by
    intro k hk
    have := pt_in (g := M.1 e) (f := fun k => M.1 c (0 + k)) (a := 0) hk
    rw [Nat.zero_add] at this
    rw [er0, this]
    exact eu k hk
  have R0 : RdI r0 N := fun f hf => by rw [p0 (5 + f) (by omega)]; exact R f hf
  have s1 : (setR M e r0).1 1 = M.1 1 := setR_n _ _ e1
  have em := m_sheet (M := setR M e r0) (sheet := sheet) (c := e) he (by rw [s1]; exact C) (setR_c _ _ _) R0 hN
  rw [s1, setR_setR] at em
  obtain ⟨g1, g2⟩ := sGo_congr (by_ := byG (M.1 1)) (sheet := sheet) (v := -1) C p0 nf (Nat.le_refl _)
  rw [g1] at em
  rw [← er0] at hcp
  exact ⟨r0, _, hcp, em, g2⟩
theorem tonight_m {M : MM} {u : Nat → Int32} {sheet : Int32} {kk no nf hh N : Nat} (C : CityI (M.1 1) kk no nf hh) (eu : ∀ k, k < 17 → M.1 3 k = u k) (R : RdI u N) (hN : N + 8 < 2 ^ 30) : ∃ r, FX8_triesTonight sheet M = some ((sGo (M.1 1) (byG (M.1 1)) sheet (-1, u) nf).1, setR M 10 r) ∧ ∀ k, k < 17 → r k = (sGo (M.1 1) (byG (M.1 1)) sheet (-1, u) nf).2 k := by
  obtain ⟨r0, r, e1, e2, e3⟩ := try_m (sheet := sheet) (c := 3) (e := 10) (by decide) (by decide) (by decide) C eu R hN
  refine ⟨r, ?_, e3⟩
  unfold FX8_triesTonight
  rw [e1, bo_s, e2, bd_s]
theorem sim_thinks : Sim_thinks RR := by
  intro Mx Mm h a b
  obtain ⟨kk, no, nf, hh, H⟩ := h
  obtain ⟨a1, a2, a3, a4, a5, a6, a7, a8, a9, a10, a11⟩ := id H
  obtain ⟨c0, c1, c2, c3, c4, hno, hnf, -, -, hF⟩ := id a1
  obtain ⟨b0, b1, b2, b3, bF⟩ := id a2
  obtain ⟨N, hN, MN⟩ := mindN_of a4
  have p256 : 2 ^ nf ≤ 2 ^ 8 := Nat.pow_le_pow_right (by decide) hnf
  unfold FX7_thinks FX8_thinks
  rw [facts_x (n := nf) (by rw [b2]; exact c2) hnf, facts_m c2 hnf, bo_s, bo_s]
  by_cases qa : ¬ (0 ≤ a.toInt ∧ a.toInt < (2 ^ nf : Nat))
  · rw [if_neg qa, if_pos rfl, if_pos rfl]
    exact ⟨_, _, _, rfl, rfl, kk, no, nf, hh, H⟩
  replace qa := Classical.not_not.mp qa
  obtain ⟨j, hj, rfl⟩ := i_nat qa
  rw [if_pos qa, if_neg (show ¬ (1 : Int32) = 0 by decide), if_neg (show ¬ (1 : Int32) = 0 by decide), jn_s, jn_s, may_x (kk := kk) (no := no) (by rw [b0]; exact c0) (by rw [b1]; exact c1) a3.2.2.1 c4 hno (by omega), may_m c0 c1 c4 hno (by omega), bo_s, bo_s, opin_x (no := no) (by rw [b1]; exact c1) hno, opin_m c1 hno, bo_s, bo_s]
  obtain ⟨M1, M2, e1, e2, s1, s2, s3, f2⟩ := try_x (M := Mx) (sheet := nI j) (c0 := 20) (c1 := 17) (d := 3) (by decide) (by decide) (by decide) (by decide) a1 a2 a3.1 a3.2.1 MN.2.2.1 (by omega)
  obtain ⟨r, t1, t2⟩ := tonight_m (M := Mm) (sheet := nI j) a1 (fun _ _ => rfl) MN.2.2.1 (by omega)
  have scr : RRk M2 (setR Mm 10 r) kk no nf hh := RRk_scr (ScrX_fr (Or.inl rfl) f2) (ScrM_set _ _ (Or.inl (by decide))) H
  by_cases qm : ¬ sMay kk no (Mm.1 3 13) j
  · rw [if_neg qm, if_pos rfl, if_pos rfl]
    by_cases hb : b = -1
    · rw [if_pos hb, if_pos hb]
      exact ⟨_, _, _, rfl, rfl, kk, no, nf, hh, H⟩
    · rw [if_neg hb, if_neg hb]
      by_cases qo : 0 ≤ b.toInt ∧ b.toInt < no
      · rw [if_pos qo, if_neg (show ¬ (1 : Int32) = 0 by decide), if_neg (show ¬ (1 : Int32) = 0 by decide)]
        exact ⟨_, _, _, rfl, rfl, kk, no, nf, hh, H⟩
      · rw [if_neg qo, if_pos rfl, if_pos rfl]
        exact ⟨_, _, _, rfl, rfl, kk, no, nf, hh, H⟩
  replace qm := Classical.not_not.mp qm
  rw [if_pos qm, if_neg (show ¬ (1 : Int32) = 0 by decide), if_neg (show ¬ (1 : Int32) = 0 by decide), e1, bo_s, e2, bo_s, t1, bd_s]
  by_cases hb : b = -1
  · rw [if_pos hb, if_pos hb, if_pos hb, if_pos hb, s3]
    exact ⟨_, _, _, rfl, rfl, kk, no, nf, hh, scr⟩
  · rw [if_neg hb, if_neg hb, if_neg hb, if_neg hb]
    by_cases qo : 0 ≤ b.toInt ∧ b.toInt < no
    · obtain ⟨o, ho, rfl⟩ := i_nat qo
      rw [if_pos qo, if_neg (show ¬ (1 : Int32) = 0 by decide), if_neg (show ¬ (1 : Int32) = 0 by decide), at_ok (c := 21) (show o < 5 by omega), bo_s, if_pos (inb_n (by omega) (by decide)), ix_n (by omega), setR_c]
      exact ans (by rw [t2 o (by omega)]; exact (s1 o (by omega)).symm) ⟨kk, no, nf, hh, scr⟩
    · rw [if_neg qo, if_pos rfl, if_pos rfl]
      exact ⟨_, _, _, rfl, rfl, kk, no, nf, hh, H⟩
