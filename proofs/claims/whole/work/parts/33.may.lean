/-! ===== sheets that may be ===== -/
def pc (a : Nat) : Nat := ((List.range 8).filter (fun i => a.testBit i)).length
theorem bc_x : ∀ a, a < 256 → FJ6_bitCount_0f7a4 (nI a) = some (nI (pc a)) := by decide +kernel
theorem bc_m : ∀ a, a < 256 → FX8_bits (nI a) = some (nI (pc a)) := by decide +kernel
theorem pc_le (a : Nat) : pc a ≤ 8 := Nat.le_trans (List.length_filter_le _ _) (by simp)
theorem pc_or : ∀ i, i < 8 → ∀ s, s < 256 → s < 2 ^ i → pc (s ||| 2 ^ i) = pc s + 1 := by decide +kernel
abbrev sMay (kk no : Nat) (so : Int32) (a : Nat) : Prop := 0 < no ∧ (nI a &&& (so ^^^ (-1))) = 0 ∧ pc a ≤ kk
theorem may_x {M : XM} {kk no a : Nat} {so : Int32} (h0 : M 3 0 = nI kk) (h1 : M 3 1 = nI no) (h2 : M 17 2 = so) (hk : kk ≤ 3) (hn : no ≤ 5) (ha : a < 256) : FX7_mayBe (nI a) M = some (if sMay kk no so a then 1 else 0) := by
  have p8 := pc_le a
  unfold FX7_mayBe FX1_fits
  rw [h1, bc_x a ha, bo_s, h0, h2]
  by_cases g1 : 0 < no
  · rw [if_neg (show ¬ nI no ≤ 0 from nI_nle g1 (by omega))]
    by_cases g3 : pc a ≤ kk
    · rw [if_neg (show ¬ nI kk < nI (pc a) from nI_nlt g3 (by omega)), bo_s, if_neg (by decide)]
      by_cases g2 : (nI a &&& (so ^^^ (-1))) = 0
      · rw [if_pos g2, if_pos ⟨g1, g2, g3⟩]
      · rw [if_neg g2, if_neg (fun z => g2 z.2.1)]
    · rw [if_pos (nI_lt (by omega) (by omega)), bo_s, if_pos rfl, if_neg (fun z => g3 z.2.2)]
  · have e : no = 0 := by omega
    rw [if_pos (by rw [e]; decide), if_neg (fun z => g1 z.1)]
theorem may_m {M : MM} {kk no a : Nat} {so : Int32} (h0 : M.1 1 0 = nI kk) (h1 : M.1 1 1 = nI no) (hk : kk ≤ 3) (hn : no ≤ 5) (ha : a < 256) : FX8_maySheet (nI a) so M = some (if sMay kk no so a then 1 else 0) := by
  have p8 := pc_le a
  unfold FX8_maySheet
  rw [h1, bc_m a ha, bo_s, h0]
  by_cases g1 : 0 < no
  · rw [if_neg (show ¬ nI no ≤ 0 from nI_nle g1 (by omega))]
    by_cases g2 : (nI a &&& (so ^^^ (-1))) = 0
    · rw [if_pos g2]
      by_cases g3 : pc a ≤ kk
      · rw [if_neg (show ¬ nI kk < nI (pc a) from nI_nlt g3 (by omega)), if_pos ⟨g1, g2, g3⟩]
      · rw [if_pos (nI_lt (by omega) (by omega)), if_neg (fun z => g3 z.2.2)]
    · rw [if_neg g2, if_neg (fun z => g2 z.2.1)]
  · have e : no = 0 := by omega
    rw [if_pos (by rw [e]; decide), if_neg (fun z => g1 z.1)]
theorem mask_bits : ∀ n, n ≤ 8 → ∀ i, i < 32 → (-((1 : Int32) <<< (nI n &&& 31))).toBitVec.getLsbD i = decide (n ≤ i) := by decide +kernel
theorem mask_ok {n : Nat} (hn : n ≤ 8) (a : Int32) : (a &&& (-((1 : Int32) <<< (nI n &&& 31)))) = 0 ↔ 0 ≤ a.toInt ∧ a.toInt < (2 ^ n : Nat) := by
  have p256 : 2 ^ n ≤ 2 ^ 8 := Nat.pow_le_pow_right (by decide) hn
  constructor
  · intro h
    have hb : a.toBitVec &&& (-((1 : Int32) <<< (nI n &&& 31))).toBitVec = 0#32 := by
      have := congrArg Int32.toBitVec h
      rw [Int32.toBitVec_and] at this
      exact this
    have hl : a.toBitVec.toNat < 2 ^ n := by
      refine Nat.lt_pow_two_of_testBit _ (fun i hi => ?_)
      rw [BitVec.testBit_toNat]
      rcases Nat.lt_or_ge i 32 with q | q
      · have z := congrArg (fun v => BitVec.getLsbD v i) hb
        simp only [BitVec.getLsbD_and, mask_bits n hn i q] at z
        rw [decide_eq_true hi, Bool.and_true] at z
        rw [z]
        simp
      · exact BitVec.getLsbD_of_ge _ _ q
    have e : a.toInt = (a.toBitVec.toNat : Int) := by
      show a.toBitVec.toInt = _
      rw [BitVec.toInt_eq_toNat_of_lt]
      omega
    omega
  · intro h
    obtain ⟨j, hj, rfl⟩ := i_nat h
    apply Int32.toBitVec_inj.1
    rw [Int32.toBitVec_and]
    apply BitVec.eq_of_getLsbD_eq
    intro i hi
    rw [BitVec.getLsbD_and, mask_bits n hn i hi]
    by_cases q : n ≤ i
    · have z : (nI j).toBitVec.getLsbD i = false := by
        show (BitVec.ofNat 32 j).getLsbD i = false
        rw [BitVec.getLsbD_ofNat]
        have : j.testBit i = false := Nat.testBit_lt_two_pow (Nat.lt_of_lt_of_le hj (Nat.pow_le_pow_right (by decide) q))
        rw [this]
        simp
      rw [z]
      simp
    · rw [decide_eq_false q]
      simp
theorem facts_x {M : XM} {c n : Nat} (h : M c 2 = nI n) (hn : n ≤ 8) (a : Int32) : FX1_hasFacts c a M = some (if 0 ≤ a.toInt ∧ a.toInt < (2 ^ n : Nat) then 1 else 0) := by
  unfold FX1_hasFacts
  rw [h]
  by_cases q : 0 ≤ a.toInt ∧ a.toInt < (2 ^ n : Nat)
  · rw [if_pos ((mask_ok hn a).mpr q), if_pos q]
  · rw [if_neg (fun z => q ((mask_ok hn a).mp z)), if_neg q]
theorem opins_x {M : XM} {c n : Nat} (h : M c 1 = nI n) (hn : n ≤ 8) (a : Int32) : FX1_hasOpinions c a M = some (if 0 ≤ a.toInt ∧ a.toInt < (2 ^ n : Nat) then 1 else 0) := by
  unfold FX1_hasOpinions
  rw [h]
  by_cases q : 0 ≤ a.toInt ∧ a.toInt < (2 ^ n : Nat)
  · rw [if_pos ((mask_ok hn a).mpr q), if_pos q]
  · rw [if_neg (fun z => q ((mask_ok hn a).mp z)), if_neg q]
theorem pw_in {n : Nat} (hn : n ≤ 8) (a : Int32) : FX8_in a.toInt64 0 ((((1 : Int32) <<< (nI n &&& 31)) - 1).toInt64) = some (if 0 ≤ a.toInt ∧ a.toInt < (2 ^ n : Nat) then 1 else 0) := by
  have p256 : 2 ^ n ≤ 2 ^ 8 := Nat.pow_le_pow_right (by decide) hn
  rw [in_i (p := 0) (q := ((2 ^ n : Nat) : Int) - 1) rfl (by rw [l_of, shl1 n (by omega)]; exact subI (b := 1) (by omega) (by decide))]
  by_cases q : 0 ≤ a.toInt ∧ a.toInt < (2 ^ n : Nat)
  · rw [if_pos (show 0 ≤ a.toInt ∧ a.toInt ≤ ((2 ^ n : Nat) : Int) - 1 by omega), if_pos q]
  · rw [if_neg (show ¬ (0 ≤ a.toInt ∧ a.toInt ≤ ((2 ^ n : Nat) : Int) - 1) by omega), if_neg q]
theorem facts_m {M : MM} {n : Nat} (h : M.1 1 2 = nI n) (hn : n ≤ 8) (a : Int32) : FX8_areFacts a M = some (if 0 ≤ a.toInt ∧ a.toInt < (2 ^ n : Nat) then 1 else 0) := by
  unfold FX8_areFacts
  rw [h, pw_in hn, bo_s]
  by_cases q : 0 ≤ a.toInt ∧ a.toInt < (2 ^ n : Nat)
  · rw [if_pos q]; rfl
  · rw [if_neg q]; rfl
theorem opins_m {M : MM} {n : Nat} (h : M.1 1 1 = nI n) (hn : n ≤ 8) (a : Int32) : FX8_areOpinions a M = some (if 0 ≤ a.toInt ∧ a.toInt < (2 ^ n : Nat) then 1 else 0) := by
  unfold FX8_areOpinions
  rw [h, pw_in hn, bo_s]
  by_cases q : 0 ≤ a.toInt ∧ a.toInt < (2 ^ n : Nat)
  · rw [if_pos q]; rfl
  · rw [if_neg q]; rfl
def MindN (u : Nat → Int32) (nf N : Nat) : Prop := BelI u ∧ u 14 = nI N ∧ RdI u (8 * N) ∧ ∃ s, s < 2 ^ nf ∧ u 13 = nI s
theorem mindN_of {u : Nat → Int32} {nf : Nat} (h : MindI u nf) : ∃ N, N ≤ 90060 ∧ MindN u nf N := by
  obtain ⟨i1, ⟨N, i2, i3, i4⟩, i5⟩ := h
  exact ⟨N, i2, i1, i3, i4, i5⟩
theorem mindI_of {u : Nat → Int32} {nf N : Nat} (hN : N ≤ 90060) (h : MindN u nf N) : MindI u nf := ⟨h.1, ⟨N, hN, h.2.1, h.2.2.1⟩, h.2.2.2⟩
theorem night_both {Mx : XM} {Mm : MM} {kk no nf hh N : Nat} (C : CityI (Mm.1 1) kk no nf hh) (X : CityX Mx 3 (Mm.1 1) nf (byG (Mm.1 1))) (MX : MindX Mx 17 (Mm.1 3)) (MN : MindN (Mm.1 3) nf N) (hN : N ≤ 90060) (sheet : Int32) : ∃ (Mx2 : XM) (r : Nat → Int32), FX3_spendNight 17 3 sheet Mx = some Mx2 ∧ FX8_prints sheet Mm = some (setR Mm 3 r) ∧ MindX Mx2 17 r ∧ MindN r nf (N + 1) ∧ FrX 17 Mx Mx2 := by
  obtain ⟨m1, m2, m3, m4, m5, m6⟩ := MX
  obtain ⟨i1, i2, i3, i4⟩ := MN
  have hnf : nf ≤ 8 := C.2.2.2.2.2.2.1
  obtain ⟨Mx2, e1, s1, s2, s3, s4, s5, s6, s7⟩ := x_spend (sheet := sheet) (c := 17) (d := 3) (by decide) (by decide) C X m1 m2 i3 (by omega)
  have em := m_sheet (M := Mm) (sheet := sheet) (c := 3) (by decide) C rfl i3 (by omega)
  obtain ⟨g1, g2, g3⟩ := sGo_inv (by_ := byG (Mm.1 1)) (sheet := sheet) (q := (-1, Mm.1 3)) C i3 nf (Nat.le_refl _)
  obtain ⟨q, eq⟩ : ∃ q, q = sGo (Mm.1 1) (byG (Mm.1 1)) sheet (-1, Mm.1 3) nf := ⟨_, rfl⟩
  rw [← eq] at s1 s2 s3 em g1 g2 g3
  have hi : ∀ k, 13 ≤ k → q.2 k = Mm.1 3 k := g3
  refine ⟨Mx2, upd (upd q.2 16 q.1) 14 (nI (N + 1)), e1, ?_, ?_, ?_, s7⟩
  · unfold FX8_prints
    rw [em, bd_s]
    have a14 : (um (setR Mm 3 q.2) 3 16 q.1).1 3 14 = nI N := by rw [um_at, if_neg (by decide), setR_c, hi 14 (by decide), i2]
    rw [a14, nI_1, um_setR, um_setR, setR_setR, setR_setR, setR_c, setR_c]
  · refine ⟨fun o ho => ?_, fun f hf => ?_, ?_, ?_, ?_, ?_⟩
    · rw [upd_at, if_neg (by omega), upd_at, if_neg (by omega)]; exact s1 o ho
    · rw [upd_at, if_neg (by omega), upd_at, if_neg (by omega)]; exact s2 f hf
    · rw [upd_at, if_neg (by omega), upd_at, if_neg (by omega), hi 13 (by decide), s4]; exact m3
    · rw [upd_at, if_pos rfl, s5, m4, i2, nI_1]
    · rw [upd_at, if_neg (by omega), upd_at, if_neg (by omega), hi 15 (by decide), s6]; exact m5
    · rw [upd_at, if_neg (by omega), upd_at, if_pos rfl]; exact s3
  · refine ⟨fun o ho => ?_, ?_, fun f hf => ?_, ?_⟩
    · rw [upd_at, if_neg (by omega), upd_at, if_neg (by omega)]; exact g2 i1 o ho
    · rw [upd_at, if_pos rfl]
    · rw [upd_at, if_neg (by omega), upd_at, if_neg (by omega)]
      obtain ⟨b, hb, eb⟩ := g1 f hf
      exact ⟨b, by omega, eb⟩
    · obtain ⟨s, hs, es⟩ := i4
      exact ⟨s, hs, by rw [upd_at, if_neg (by omega), upd_at, if_neg (by omega), hi 13 (by decide), es]⟩
theorem sim_night : Sim_night RR := by
  intro Mx Mm h a
  obtain ⟨kk, no, nf, hh, H⟩ := h
  obtain ⟨a1, a2, a3, a4, a5, a6, a7, a8, a9, a10, a11⟩ := id H
  obtain ⟨c0, c1, c2, c3, c4, hno, hnf, -, -, hF⟩ := id a1
  obtain ⟨b0, b1, b2, b3, bF⟩ := id a2
  obtain ⟨N, hN, MN⟩ := mindN_of a4
  have p256 : 2 ^ nf ≤ 2 ^ 8 := Nat.pow_le_pow_right (by decide) hnf
  unfold FX7_night FX8_night
  rw [facts_x (n := nf) (by rw [b2]; exact c2) hnf, facts_m c2 hnf, bo_s, bo_s]
  by_cases qa : ¬ (0 ≤ a.toInt ∧ a.toInt < (2 ^ nf : Nat))
  · rw [if_neg qa, if_pos rfl, if_pos rfl]
    exact ⟨_, _, _, rfl, rfl, kk, no, nf, hh, H⟩
  replace qa := Classical.not_not.mp qa
  obtain ⟨j, hj, rfl⟩ := i_nat qa
  rw [if_pos qa, if_neg (show ¬ (1 : Int32) = 0 by decide), if_neg (show ¬ (1 : Int32) = 0 by decide), may_x (kk := kk) (no := no) (by rw [b0]; exact c0) (by rw [b1]; exact c1) a3.2.2.1 c4 hno (by omega), may_m c0 c1 c4 hno (by omega), bo_s, bo_s]
  by_cases qm : ¬ sMay kk no (Mm.1 3 13) j
  · rw [if_neg qm, if_pos rfl, if_pos rfl]
    exact ⟨_, _, _, rfl, rfl, kk, no, nf, hh, H⟩
  replace qm := Classical.not_not.mp qm
  rw [if_pos qm, if_neg (show ¬ (1 : Int32) = 0 by decide), if_neg (show ¬ (1 : Int32) = 0 by decide), show Mx 17 3 = Mm.1 3 14 from a3.2.2.2.1, MN.2.1]
  by_cases qn : nI N ≤ 90000
  · have hN2 : N ≤ 90000 := (nI_leI (b := 90000) (by omega) (by decide)).mp qn
    rw [if_pos qn, if_pos qn]
    obtain ⟨Mx2, Mm2, e1, e2, P, fx, fm, f0, f2⟩ := rem_both a5 a3 a4
    have r3 : Mm2.1 3 = Mm.1 3 := fm 3 (by decide) (by decide)
    have r1 : Mm2.1 1 = Mm.1 1 := fm 1 (by decide) (by decide)
    obtain ⟨Mx3, r, g1, g2, g3, g4, g5⟩ := night_both (Mx := Mx2) (Mm := Mm2) (N := N) (by rw [r1]; exact a1) (by rw [r1]; exact CityX_eq (fun i _ _ => fx i (by omega) (by omega)) a2) (by rw [r3]; exact MindX_eq (fun i _ _ => fx i (by omega) (by omega)) a3) (by rw [r3]; exact MN) (by omega) (nI j)
    rw [e1, e2, bo_s, bo_s, g1, g2, bo_s, bo_s]
    refine ans ?_ ⟨kk, no, nf, hh, ?_⟩
    · rw [setR_c]; exact g3.2.2.2.2.2.symm
    refine RRk_mind H (fun i hi => by rw [g5 i (by omega) (by omega) (by omega), fx i (by omega) (by omega)]) (by rw [g5 0 (by decide) (by decide) (by decide), fx 0 (by decide) (by decide)]) (fun i hi => by rw [setR_n _ _ (by omega), fm i (by omega) (by omega)]) (by rw [setR_n _ _ (by decide), f0 9 (by decide)]) (by rw [setR_n _ _ (by decide), f0 10 (by decide)]) (by rw [setR_n _ _ (by decide), f0 12 (by decide)]) (by rw [setR_n _ _ (by decide), f0 14 (by decide)]) (by rw [setR_c]; exact g3) (by rw [setR_c]; exact mindI_of (by omega) g4) ?_ ?_
    · rw [setR_n _ _ (by decide), setR_n _ _ (by decide)]
      exact PastR_eq (g5 _ (by decide) (by decide) (by decide)) (g5 _ (by decide) (by decide) (by decide)) P
    · rw [setR_2, f2]
      exact SeedR_eq (by rw [g5 0 (by decide) (by decide) (by decide), fx 0 (by decide) (by decide)]) a11
  · rw [if_neg qn, if_neg qn]
    exact ⟨_, _, _, rfl, rfl, kk, no, nf, hh, H⟩
