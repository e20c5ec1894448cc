/-! ===== leftOut: the method ===== -/
theorem left_go {Mx : XM} {Mm : MM} {n : Nat} {kk no nf hh N : Nat} {b1 : Int32} (C : CityI (Mm.1 1) kk no nf hh) (X : CityX Mx 3 (Mm.1 1) nf (byG (Mm.1 1))) (hso : Mx 17 2 = Mm.1 3 13) (B : BelX Mx 17 (Mm.1 3)) (Rx : RdX Mx 17 (Mm.1 3)) (R : RdI (Mm.1 3) N) (hN : N + 8 < 2 ^ 30) (hn : n ≤ 6) (e2 : Mx 33 2 = nI n) (em : Mm.1 0 12 = nI n) (hE : ∀ i, i < n → (∃ o, o < no ∧ Mm.1 8 (2 * i) = nI o) ∧ Mx (33 + 1) i = Mm.1 8 (2 * i) ∧ Mx (33 + 2) i = Mm.1 8 (2 * i + 1)) : ∀ (d i k cnt : Nat) (Mx1 : XM) (r : Nat → Int32) (ax am v5 : Int32), i + d = 2 ^ nf → d < k → FrX 20 Mx Mx1 → cnt ≤ i → ((cnt = 0 ∧ ax = -1 ∧ am = Mm.1 3 13) ∨ (0 < cnt ∧ ax = am)) → ∃ (v : Int32) (Mx2 : XM) (r2 : Nat → Int32), FX7_leftOut_L10 b1 (fun (k2_1 : Int32) (k3_2 : Int32) (k4_3 : Int32) (M_4 : XM) => (if b1 = (-3) then some (((M_4 17 2) &&& (k4_3 ^^^ (-1))), M_4) else (if b1 = (-2) then (if k2_1 = 0 then some (0, M_4) else some (k3_2, M_4)) else (if b1 = (-1) then some (k2_1, M_4) else some ((-1), M_4))))) k (nI cnt) ax v5 (nI i) Mx1 = some (v, Mx2) ∧ FX8_leftOut_L19 b1 (fun (k2_1 : Int32) (k3_2 : Int32) (k4_3 : Int32) (k5_4 : Int32) (M_5 : MM) => (if b1 = (-1) then some (k2_1, M_5) else (if b1 = (-2) then (if k2_1 = 0 then some (0, M_5) else some (k4_3, M_5)) else (if b1 = (-3) then some (((M_5.1 3 13) &&& (k5_4 ^^^ (-1))), M_5) else some (k3_2, M_5))))) k (nI cnt) (-1) am v5 (nI i) (setR Mm 10 r) = some (v, setR Mm 10 r2) ∧ FrX 20 Mx Mx2 := by
  obtain ⟨g0, g1, g2, g3, hk, hno, hnf, -, -, hF⟩ := id C
  have p256 : 2 ^ nf ≤ 2 ^ 8 := Nat.pow_le_pow_right (by decide) hnf
  have s1 : ∀ r, (setR Mm 10 r).1 1 = Mm.1 1 := fun r => setR_n _ _ (by decide)
  have s3 : ∀ r, (setR Mm 10 r).1 3 = Mm.1 3 := fun r => setR_n _ _ (by decide)
  intro d
  induction d with
  | zero =>
    intro i k cnt Mx1 r ax am v5 hi hk2 F hc hcase
    obtain ⟨k, rfl⟩ : ∃ z, k = z + 1 := ⟨k - 1, by omega⟩
    have XC := CityX_fr (show x_is3 20 by decide) (show x_is1 3 by decide) F X
    rw [FX7_leftOut_L10, FX8_leftOut_L19, XC.2.2.1, s1, g2, shl1 nf (by omega), if_pos (nI_le (by omega) (by omega)), if_pos (nI_le (by omega) (by omega))]
    by_cases q1 : b1 = -1
    · subst q1
      rw [if_neg (by decide), if_neg (by decide), if_pos rfl, if_pos rfl]
      exact ⟨_, _, _, rfl, rfl, F⟩
    rw [if_neg q1, if_neg q1]
    by_cases q2 : b1 = -2
    · subst q2
      rw [if_neg (by decide), if_pos rfl, if_pos rfl]
      rcases hcase with ⟨z1, z2, z3⟩ | ⟨z1, z2⟩
      · subst z1
        rw [if_pos (show nI 0 = 0 from rfl), if_pos (show nI 0 = 0 from rfl)]
        exact ⟨_, _, _, rfl, rfl, F⟩
      · have nz : ¬ nI cnt = 0 := nI_ne0 z1 (by omega)
        rw [if_neg nz, if_neg nz, z2]
        exact ⟨_, _, _, rfl, rfl, F⟩
    rw [if_neg q2, if_neg q2]
    by_cases q3 : b1 = -3
    · rw [if_pos q3, if_pos q3, s3, show Mx1 17 2 = Mm.1 3 13 by rw [F 17 (by decide) (by decide) (by decide)]; exact hso]
      exact ⟨_, _, _, rfl, rfl, F⟩
    · rw [if_neg q3, if_neg q3]
      exact ⟨_, _, _, rfl, rfl, F⟩
  | succ d ih =>
    intro i k cnt Mx1 r ax am v5 hi hk2 F hc hcase
    obtain ⟨k, rfl⟩ : ∃ z, k = z + 1 := ⟨k - 1, by omega⟩
    have XC := CityX_fr (show x_is3 20 by decide) (show x_is1 3 by decide) F X
    have m17 : Mx1 17 2 = Mm.1 3 13 := by rw [F 17 (by decide) (by decide) (by decide)]; exact hso
    rw [FX7_leftOut_L10, FX8_leftOut_L19, XC.2.2.1, s1, g2, shl1 nf (by omega), if_neg (nI_ge (by omega) (by omega)), if_neg (nI_ge (by omega) (by omega)), s3, may_m (kk := kk) (no := no) (by rw [s1]; exact g0) (by rw [s1]; exact g1) hk hno (by omega), may_x (kk := kk) (no := no) (by rw [XC.1]; exact g0) (by rw [XC.2.1]; exact g1) m17 hk hno (by omega), bo_s, bo_s, jn_s, jn_s, nI_1]
    by_cases qm : ¬ sMay kk no (Mm.1 3 13) i
    · rw [if_neg qm, if_pos rfl, if_pos rfl]
      exact ih (i + 1) k cnt Mx1 r ax am v5 (by omega) (by omega) F (by omega) hcase
    replace qm := Classical.not_not.mp qm
    obtain ⟨r2, t1, t2⟩ := left_m C R hN hn em (fun i hi => (hE i hi).1) (j := i) r
    obtain ⟨M2, e4, F2⟩ := x_thinkB (M := Mx1) (d := 3) (n := n) (r8 := Mm.1 8) (sheet := nI i) (by decide) C XC (fun o ho => by rw [F _ (by decide) (by decide) (by decide)]; exact B o ho) (fun o ho => by rw [F _ (by decide) (by decide) (by decide)]; exact Rx o ho) R hN hn (by rw [F _ (by decide) (by decide) (by decide)]; exact e2) (fun i hi => by rw [F (33 + 1) (by decide) (by decide) (by decide), F (33 + 2) (by decide) (by decide) (by decide)]; exact hE i hi)
    have F3 : FrX 20 Mx M2 := fun a h1 h2 h3 => (F2 a h1 h2 h3).trans (F a h1 h2 h3)
    rw [if_pos qm, if_neg (show ¬ (1 : Int32) = 0 by decide), if_neg (show ¬ (1 : Int32) = 0 by decide), t1, bd_s, t2, bo_s, e4, bd_s]
    by_cases qt : ¬ sTh (Mm.1 1) (Mm.1 8) n nf (Mm.1 3) i
    · rw [if_neg qt, if_pos rfl, if_pos rfl]
      exact ih (i + 1) k cnt M2 r2 ax am v5 (by omega) (by omega) F3 (by omega) hcase
    replace qt := Classical.not_not.mp qt
    rw [if_pos qt, if_neg (show ¬ (1 : Int32) = 0 by decide), if_neg (show ¬ (1 : Int32) = 0 by decide), jn_s]
    by_cases qc : nI cnt = b1
    · rw [if_pos qc, if_pos qc]
      obtain ⟨r3, h3⟩ := left_rest C R hN hn em (fun i hi => (hE i hi).1) (q := cnt) (nI i) (fun (k2_1 : Int32) (k3_2 : Int32) (k4_3 : Int32) (k5_4 : Int32) (M_5 : MM) => (if b1 = (-1) then some (k2_1, M_5) else (if b1 = (-2) then (if k2_1 = 0 then some (0, M_5) else some (k4_3, M_5)) else (if b1 = (-3) then some (((M_5.1 3 13) &&& (k5_4 ^^^ (-1))), M_5) else some (k3_2, M_5))))) (fun a b c M => by
        have n1 : ∀ m : Int32, m.toInt < 0 → ¬ b1 = m := fun m hm z => by
          have e := nI_toInt (n := cnt) (by omega)
          rw [qc, z] at e
          omega
        rw [if_neg (n1 _ (by decide)), if_neg (n1 _ (by decide)), if_neg (n1 _ (by decide))]) d (i + 1) k (cnt + 1) r2 (am &&& nI i) (v5 ||| nI i) (by omega) (by omega) (by omega) (by omega)
      rw [qc, ← nI_1, qc] at h3
      exact ⟨_, _, _, rfl, by rw [← qc] at h3 ⊢; exact h3, F3⟩
    · rw [if_neg qc, if_neg qc, nI_1]
      refine ih (i + 1) k (cnt + 1) M2 r2 _ _ _ (by omega) (by omega) F3 (by omega) (Or.inr ⟨by omega, ?_⟩)
      rcases hcase with ⟨z1, z2, z3⟩ | ⟨z1, z2⟩
      · rw [z2, z3, so_and qm.2.1]
        exact so_and (a := nI i) (s := -1) (by rw [show ((-1 : Int32) ^^^ (-1)) = 0 by decide]; exact Int32.and_zero)
      · rw [z2]
theorem sim_leftOut : Sim_leftOut RR := by
  intro Mx Mm h a
  obtain ⟨kk, no, nf, hh, H⟩ := h
  obtain ⟨a1, a2, a3, a4, a5, a6, a7, a8, a9, a10, a11⟩ := id H
  obtain ⟨N, hN, MN⟩ := mindN_of a4
  obtain ⟨n, hn, e2, em, hE⟩ := id a7
  have p256 : 2 ^ nf ≤ 2 ^ 8 := Nat.pow_le_pow_right (by decide) a1.2.2.2.2.2.2.1
  obtain ⟨v, Mx2, r2, h1, h2, h3⟩ := left_go (b1 := a) a1 a2 a3.2.2.1 a3.1 a3.2.1 MN.2.2.1 (by omega) hn e2 em hE (2 ^ nf) 0 fuelN 0 Mx (Mm.1 10) (-1) (Mm.1 3 13) 0 (by omega) (show 2 ^ nf < 100000 by omega) (fun _ _ _ _ => rfl) (by omega) (Or.inl ⟨rfl, rfl, rfl⟩)
  rw [setR_self] at h2
  exact ⟨v, Mx2, _, h1, h2, kk, no, nf, hh, RRk_scr (ScrX_fr (Or.inl rfl) h3) (ScrM_set _ _ (Or.inl (by decide))) H⟩
