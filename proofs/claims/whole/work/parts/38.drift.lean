/-! ===== drift ===== -/
def sNx (sd : Nat) : Nat := (sd * 1103515245 + 12345) % 2 ^ 31
theorem sNx_lt (sd : Nat) : sNx sd < 2 ^ 31 := Nat.mod_lt _ (by decide)
theorem l_mask (n : Nat) : lN n &&& 2147483647 = lN (n % 2 ^ 31) := by
  apply Int64.toBitVec_inj.mp
  rw [Int64.toBitVec_and]
  show BitVec.ofNat 64 n &&& BitVec.ofNat 64 2147483647 = BitVec.ofNat 64 (n % 2 ^ 31)
  apply BitVec.eq_of_toNat_eq
  rw [BitVec.toNat_and, BitVec.toNat_ofNat, BitVec.toNat_ofNat, BitVec.toNat_ofNat]
  have e : (2147483647 % 2 ^ 64 : Nat) = 2 ^ 31 - 1 := by decide
  rw [e, Nat.and_two_pow_sub_one_eq_mod]
  omega
theorem nI_l64 {n : Nat} (h : n < 2 ^ 31) : (nI n).toInt64 = lN n := nI_l h
theorem upd2_upd2 (M : XM) (c k : Nat) (v w : Int32) : upd2 (upd2 M c k v) c k w = upd2 M c k w := by
  funext a b
  rw [upd2_at, upd2_at, upd2_at]
  by_cases h : a = c ∧ b = k
  · rw [if_pos h, if_pos h]
  · rw [if_neg h, if_neg h, if_neg h]
theorem draw_x {M : XM} {sd : Nat} (h : M 0 11 = nI sd) (hsd : sd < 2 ^ 31) : FX7_drawOf 3 M = some (nI (sNx sd / 65536 % 3), upd2 M 0 11 (nI (sNx sd))) := by
  have e : Int64.toInt32 (((((M 0 11).toInt64) * 1103515245) + 12345) &&& 2147483647) = nI (sNx sd) := by
    rw [h, nI_l64 hsd]
    have e1 : lN sd * 1103515245 + 12345 = lN (sd * 1103515245 + 12345) := by
      rw [show (1103515245 : Int64) = lN 1103515245 from rfl, show (12345 : Int64) = lN 12345 from rfl, lN_mul, lN_add]
    rw [e1, l_mask, lN_i]
    rfl
  have hs := sNx_lt sd
  unfold FX7_drawOf
  rw [if_neg (show ¬ (3 : Int32) ≤ 0 by decide), if_neg (show ¬ (3 : Int32) = 0 by decide), e]
  have e2 : upd2 M 0 11 (nI (sNx sd)) 0 11 = nI (sNx sd) := by rw [upd2_at, if_pos ⟨rfl, rfl⟩]
  rw [e2, show (65536 : Int32) = nI 65536 from rfl, pk_div hs (by decide) (by decide), show (3 : Int32) = nI 3 from rfl, pk_rem (by omega) (by decide) (by decide)]
theorem draw_m {M : MM} {sd : Nat} (h : M.2 = lN sd) (hsd : sd < 2 ^ 31) : FX8_draw 3 M = some (nI (sNx sd / 65536 % 3), us M (lN (sNx sd))) := by
  have e : ((M.2 * 1103515245) + 12345) - ((M.2 * 1103515245) + 12345) / 2147483648 * 2147483648 = lN (sNx sd) := by
    rw [h]
    have e1 : lN sd * 1103515245 + 12345 = lN (sd * 1103515245 + 12345) := by
      rw [show (1103515245 : Int64) = lN 1103515245 from rfl, show (12345 : Int64) = lN 12345 from rfl, lN_mul, lN_add]
    rw [e1, show (2147483648 : Int64) = lN 2147483648 from rfl, pk_lRem (by omega) (by decide) (by decide)]
    rfl
  have hs := sNx_lt sd
  unfold FX8_draw
  rw [if_neg (show ¬ (3 : Int32).toInt64 = 0 by decide), e, us_2, show ((3 : Int32).toInt64) = lN 3 from rfl, show (65536 : Int64) = lN 65536 from rfl, pk_lDiv (by omega) (by decide) (by decide), pk_lRem (by omega) (by decide) (by decide), lN_i]
/-- the sheet that is drawn, on both sides -/
theorem drawn_both {Mx : XM} {Mm : MM} {kk no nf hh : Nat} (C : CityI (Mm.1 1) kk no nf hh) (X : CityX Mx 3 (Mm.1 1) nf (byG (Mm.1 1))) (hso : Mx 17 2 = Mm.1 3 13) (b1 b2 : Int32) (Kx : Int32 → XM → Option (Int32 × XM)) (Km : Int32 → MM → Option (Int32 × MM)) : ∀ (d i k s sd : Nat), i + d = nf → d < k → s < 2 ^ i → sd < 2 ^ 31 → ∃ s2 sd2, s2 < 2 ^ nf ∧ sd2 < 2 ^ 31 ∧ FX7_drawnSheet_L6 Kx k (nI s) (nI (pc s)) (nI i) (upd2 Mx 0 11 (nI sd)) = Kx (nI s2) (upd2 Mx 0 11 (nI sd2)) ∧ FX8_drift_L58 b1 b2 Km k (nI s) (nI i) (us Mm (lN sd)) = Km (nI s2) (us Mm (lN sd2)) := by
  obtain ⟨c0, c1, c2, c3, hk, hno, hnf, -, -, hF⟩ := id C
  have p256 : 2 ^ nf ≤ 2 ^ 8 := Nat.pow_le_pow_right (by decide) hnf
  have x3 : ∀ sd j, upd2 Mx 0 11 (nI sd) 3 j = Mx 3 j := fun sd j => by rw [upd2_at, if_neg (by omega)]
  have x17 : ∀ sd, upd2 Mx 0 11 (nI sd) 17 2 = Mm.1 3 13 := fun sd => by rw [upd2_at, if_neg (by omega)]; exact hso
  intro d
  induction d with
  | zero =>
    intro i k s sd hi hk2 hs hsd
    obtain ⟨k, rfl⟩ : ∃ z, k = z + 1 := ⟨k - 1, by omega⟩
    have e : i = nf := by omega
    subst e
    refine ⟨s, sd, hs, hsd, ?_, ?_⟩
    · rw [FX7_drawnSheet_L6, x3, X.2.2.1, c2, if_pos (nI_le (by omega) (by omega))]
    · rw [FX8_drift_L58, us_1, c2, if_pos (nI_le (by omega) (by omega))]
  | succ d ih =>
    intro i k s sd hi hk2 hs hsd
    obtain ⟨k, rfl⟩ : ∃ z, k = z + 1 := ⟨k - 1, by omega⟩
    have pi : 2 ^ (i + 1) = 2 ^ i * 2 := Nat.pow_succ 2 i
    have pi2 : 2 ^ i ≤ 2 ^ 8 := Nat.pow_le_pow_right (by decide) (by omega)
    have p8 := pc_le s
    rw [FX7_drawnSheet_L6, FX8_drift_L58, x3, x3, X.2.2.1, us_1, c2, if_neg (nI_ge (by omega) (by omega)), if_neg (nI_ge (by omega) (by omega)), x17, has_x _ (by omega), has_m, bo_s, bo_s, jn_s, jn_s, nI_1]
    by_cases qh : ¬ sHas (Mm.1 3 13) i
    · rw [if_neg qh, if_pos rfl, if_pos rfl]
      exact ih (i + 1) k s sd (by omega) (by omega) (by omega) hsd
    replace qh := Classical.not_not.mp qh
    rw [if_pos qh, if_neg (show ¬ (1 : Int32) = 0 by decide), if_neg (show ¬ (1 : Int32) = 0 by decide), bc_m s (by omega), bo_s, X.1, c0]
    by_cases qk : kk ≤ pc s
    · rw [if_pos (nI_le qk (by omega)), if_pos (nI_le qk (by omega))]
      exact ih (i + 1) k s sd (by omega) (by omega) (by omega) hsd
    rw [if_neg (nI_ge (by omega) (by omega)), if_neg (nI_ge (by omega) (by omega)), draw_x (sd := sd) (by rw [upd2_at, if_pos ⟨rfl, rfl⟩]) hsd, draw_m (sd := sd) rfl hsd, bd_s, bd_s, jn_s, upd2_upd2, shl1 i (by omega)]
    have us2 : us (us Mm (lN sd)) (lN (sNx sd)) = us Mm (lN (sNx sd)) := rfl
    rw [us2]
    by_cases qr : nI (sNx sd / 65536 % 3) = 0
    · rw [if_pos qr, if_pos qr]
      obtain ⟨s2, sd2, w1, w2, w3, w4⟩ := ih (i + 1) k (s ||| 2 ^ i) (sNx sd) (by omega) (by omega) (Nat.or_lt_two_pow (by omega) (by omega)) (sNx_lt sd)
      rw [pc_or i (by omega) s (by omega) hs, ← or_n, ← nI_1 (pc s)] at w3
      rw [← or_n] at w4
      exact ⟨s2, sd2, w1, w2, w3, w4⟩
    · rw [if_neg qr, if_neg qr]
      obtain ⟨s2, sd2, w1, w2, w3, w4⟩ := ih (i + 1) k s (sNx sd) (by omega) (by omega) (by omega) (sNx_lt sd)
      rw [← or_0 (nI s)] at w4
      exact ⟨s2, sd2, w1, w2, w3, w4⟩
theorem drift_both {kk no nf hh N0 n : Nat} (hN0 : N0 ≤ 90000) (hn : n ≤ 60) : ∀ (d i k : Nat) (Mx : XM) (Mm : MM), i + d = n → d < k → RRk Mx Mm kk no nf hh → MindN (Mm.1 3) nf (N0 + i) → ∃ Mx2 Mm2, RRk Mx2 Mm2 kk no nf hh ∧ FX7_drift_L55 (nI n) (fun (M_6 : XM) => some ((M_6 17 3), M_6)) k (nI i) Mx = some (nI (N0 + n), Mx2) ∧ FX8_drift_L48 (nI n) (fun (M_6 : MM) => some ((M_6.1 3 14), M_6)) k (nI i) Mm = some (nI (N0 + n), Mm2) := by
  intro d
  induction d with
  | zero =>
    intro i k Mx Mm hi hk H MN
    obtain ⟨k, rfl⟩ : ∃ z, k = z + 1 := ⟨k - 1, by omega⟩
    have e : i = n := by omega
    subst e
    refine ⟨Mx, Mm, H, ?_, ?_⟩
    · rw [FX7_drift_L55, if_pos (nI_le (by omega) (by omega)), H.2.2.1.2.2.2.1, MN.2.1]
    · rw [FX8_drift_L48, if_pos (nI_le (by omega) (by omega)), MN.2.1]
  | succ d ih =>
    intro i k Mx Mm hi hk H MN
    obtain ⟨k, rfl⟩ : ∃ z, k = z + 1 := ⟨k - 1, by omega⟩
    obtain ⟨a1, a2, a3, a4, a5, a6, a7, a8, a9, a10, sd, hsd, s1, s2⟩ := id H
    have hnf : nf ≤ 8 := a1.2.2.2.2.2.2.1
    have ex : upd2 Mx 0 11 (nI sd) = Mx := by
      funext a b
      rw [upd2_at]
      by_cases h : a = 0 ∧ b = 11
      · rw [if_pos h, h.1, h.2, s1]
      · rw [if_neg h]
    have em : us Mm (lN sd) = Mm := by rw [← s2]; rfl
    obtain ⟨sh, sd2, h1, h2, h3, h4⟩ := drawn_both a1 a2 a3.2.2.1 (nI n) (nI i) (fun (k1_1 : Int32) (M_2 : XM) => some (k1_1, M_2)) (fun (k3_10 : Int32) (M_11 : MM) => bo (FX8_prints k3_10 M_11) (fun (M_12 : MM) => FX8_drift_L48 (nI n) (fun (M_6 : MM) => some ((M_6.1 3 14), M_6)) k (nI (i + 1)) M_12)) nf 0 fuelN 0 sd (by omega) (show nf < 100000 by omega) (by decide) hsd
    rw [ex] at h3
    rw [em] at h4
    obtain ⟨Mx3, r, g1, g2, g3, g4, g5⟩ := night_both (Mx := upd2 Mx 0 11 (nI sd2)) (Mm := us Mm (lN sd2)) (N := N0 + i) a1 (CityX_eq (fun i _ _ => upd2_n _ _ _ (by omega)) a2) (MindX_eq (fun i _ _ => upd2_n _ _ _ (by omega)) a3) MN (by omega) (nI sh)
    have H2 : RRk Mx3 (setR (us Mm (lN sd2)) 3 r) kk no nf hh := by
      refine RRk_mind H (fun i hi => by rw [g5 i (by omega) (by omega) (by omega), upd2_n _ _ _ (by omega)]) (by rw [g5 0 (by decide) (by decide) (by decide), upd2_at, if_neg (by decide)]) (fun i hi => by rw [setR_n _ _ (by omega)]; rfl) (by rw [setR_n _ _ (by decide)]; rfl) (by rw [setR_n _ _ (by decide)]; rfl) (by rw [setR_n _ _ (by decide)]; rfl) (by rw [setR_n _ _ (by decide)]; rfl) (by rw [setR_c]; exact g3) (by rw [setR_c]; exact mindI_of (by omega) g4) ?_ ?_
      · rw [setR_n _ _ (by decide), setR_n _ _ (by decide)]
        exact PastR_eq (by rw [g5 _ (by decide) (by decide) (by decide), upd2_n _ _ _ (by decide)]) (by rw [g5 _ (by decide) (by decide) (by decide), upd2_n _ _ _ (by decide)]) a5
      · exact ⟨sd2, h2, by rw [g5 0 (by decide) (by decide) (by decide), upd2_at, if_pos ⟨rfl, rfl⟩], rfl⟩
    obtain ⟨Mx4, Mm4, f1, f2, f3⟩ := ih (i + 1) k Mx3 _ (by omega) (by omega) H2 (by rw [setR_c]; exact g4)
    refine ⟨Mx4, Mm4, f1, ?_, ?_⟩
    · rw [FX7_drift_L55, if_neg (nI_ge (by omega) (by omega))]
      unfold FX7_drawnSheet
      have z0 : nI (pc 0) = 0 := by decide
      have z1 : nI 0 = 0 := rfl
      rw [z0, z1] at h3
      rw [h3, bd_s, g1, bo_s, nI_1]
      exact f2
    · rw [FX8_drift_L48, if_neg (nI_ge (by omega) (by omega)), nI_1]
      have z1 : nI 0 = 0 := rfl
      rw [z1] at h4
      rw [h4, g2, bo_s]
      exact f3
theorem sim_drift : Sim_drift RR := by
  intro Mx Mm h a
  obtain ⟨kk, no, nf, hh, H⟩ := h
  obtain ⟨a1, a2, a3, a4, a5, a6, a7, a8, a9, a10, a11⟩ := id H
  obtain ⟨c0, c1, c2, c3, c4, hno, hnf, -, -, hF⟩ := id a1
  obtain ⟨b0, b1, b2, b3, bF⟩ := id a2
  obtain ⟨N, hN, MN⟩ := mindN_of a4
  unfold FX7_drift FX8_drift
  rw [in_i (p := 1) (q := 60) rfl rfl, bo_s]
  have z1 : (1 : Int32).toInt = 1 := rfl
  have z2 : (60 : Int32).toInt = 60 := rfl
  by_cases q1 : a < 1
  · have := i_lt.mp q1
    rw [if_pos q1, if_neg (show ¬ (1 ≤ a.toInt ∧ a.toInt ≤ 60) by omega), if_pos rfl]
    exact ⟨_, _, _, rfl, rfl, kk, no, nf, hh, H⟩
  have q1' : ¬ a.toInt < 1 := fun z => q1 (i_lt.mpr (by rw [z1]; exact z))
  by_cases q2 : ¬ a ≤ 60
  · have q2' : ¬ a.toInt ≤ 60 := fun z => q2 (i_le.mpr (by rw [z2]; exact z))
    rw [if_neg q1, if_neg q2, if_neg (show ¬ (1 ≤ a.toInt ∧ a.toInt ≤ 60) by omega), if_pos rfl]
    exact ⟨_, _, _, rfl, rfl, kk, no, nf, hh, H⟩
  replace q2 := Classical.not_not.mp q2
  have q2' := i_le.mp q2
  obtain ⟨n, hn, rfl⟩ := i_nat (a := a) (n := 61) (by omega)
  rw [if_neg q1, if_pos q2, if_pos (show 1 ≤ (nI n).toInt ∧ (nI n).toInt ≤ 60 by omega), if_neg (show ¬ (1 : Int32) = 0 by decide), b1]
  by_cases q3 : Mm.1 1 1 = 0
  · rw [if_pos q3, if_pos q3]
    exact ⟨_, _, _, rfl, rfl, kk, no, nf, hh, H⟩
  rw [if_neg q3, if_neg q3, show Mx 17 3 = Mm.1 3 14 from a3.2.2.2.1, MN.2.1]
  by_cases qn : nI N ≤ 90000
  · have hN2 : N ≤ 90000 := (nI_leI (b := 90000) (by omega) (by decide)).mp qn
    rw [if_pos qn, if_pos qn]
    obtain ⟨Mx2, Mm2, e1, e2, P, fx, fm, f0, f2⟩ := rem_both a5 a3 a4
    have r3 : Mm2.1 3 = Mm.1 3 := fm 3 (by decide) (by decide)
    have H2 : RRk Mx2 Mm2 kk no nf hh := RRk_mind H (fun i hi => fx i (by omega) (by omega)) (by rw [fx 0 (by decide) (by decide)]) (fun i hi => fm i (by omega) (by omega)) (f0 9 (by decide)) (f0 10 (by decide)) (f0 12 (by decide)) (f0 14 (by decide)) (by rw [r3]; exact MindX_eq (fun i _ _ => fx i (by omega) (by omega)) a3) (by rw [r3]; exact a4) P (by rw [f2]; exact SeedR_eq (by rw [fx 0 (by decide) (by decide)]) a11)
    obtain ⟨Mx3, Mm3, H3, g1, g2⟩ := drift_both (n := n) hN2 (by omega) n 0 fuelN Mx2 Mm2 (by omega) (show n < 100000 by omega) H2 (by rw [r3]; exact MN)
    rw [e1, e2, bo_s, bo_s]
    exact ⟨_, _, _, g1, g2, kk, no, nf, hh, H3⟩
  · rw [if_neg qn, if_neg qn]
    exact ⟨_, _, _, rfl, rfl, kk, no, nf, hh, H⟩
