/-! ===== leftOut ===== -/
theorem sF_eq {u w r : Nat → Int32} {n no : Nat} (hno : no ≤ 5) (hE : ∀ i, i < n → ∃ o, o < no ∧ r (2 * i) = nI o) (h : ∀ o, o < 5 → u o = w o) : ∀ d i, i + d ≤ n → sF u r d i = sF w r d i := by
  intro d
  induction d with
  | zero => exact fun _ _ => rfl
  | succ d ih =>
    intro i hi
    obtain ⟨o, ho, eo⟩ := hE i (by omega)
    rw [sF, sF, eo, ix_n (by omega), h o (by omega), ih (i + 1) (by omega)]
theorem x_thinkB {M : XM} {d n : Nat} {g by_ u r8 : Nat → Int32} {sheet : Int32} {kk no nf hh N : Nat} (hd : x_is1 d) (C : CityI g kk no nf hh) (X : CityX M d g nf by_) (B : BelX M 17 u) (Rx : RdX M 17 u) (R : RdI u N) (hN : N + 8 < 2 ^ 30) (hn : n ≤ 6) (e2 : M 33 2 = nI n) (hE : ∀ i, i < n → (∃ o, o < no ∧ r8 (2 * i) = nI o) ∧ M (33 + 1) i = r8 (2 * i) ∧ M (33 + 2) i = r8 (2 * i + 1)) : ∃ M2, FX7_thoughtBehind d sheet M = some ((if sF (sGo g by_ sheet (-1, u) nf).2 r8 n 0 = -1 then 1 else 0), M2) ∧ FrX 20 M M2 := by
  obtain ⟨M1, M2, e1, e3, s1, s2, s3, f2⟩ := try_x (M := M) (sheet := sheet) (c0 := 20) (c1 := 17) (d := d) (by decide) (by decide) (by decide) hd C X B Rx R hN
  have ef := x_first (M := M2) (c := 33) (c1 := 20) (n := n) (r := r8) (by decide) (by decide) C.2.2.2.2.2.1 s1 (show n ≤ 6 from hn) (by rw [f2 33 (by decide) (by decide) (by decide)]; exact e2) (fun i hi => by rw [f2 _ (by omega) (by omega) (by omega), f2 (33 + 2) (by omega) (by omega) (by omega)]; exact hE i hi)
  refine ⟨M2, ?_, f2⟩
  unfold FX7_thoughtBehind
  rw [e1, bo_s, e3, bo_s, ef, bo_s]
  by_cases q : sF (sGo g by_ sheet (-1, u) nf).2 r8 n 0 = -1
  · rw [if_pos q, if_pos q]
  · rw [if_neg q, if_neg q]
theorem m_isT {M : MM} {n no : Nat} (hno : no ≤ 5) (hn : n ≤ 6) (em : M.1 0 12 = nI n) (hE : ∀ i, i < n → ∃ o, o < no ∧ M.1 8 (2 * i) = nI o) : FX8_isThought M = some (if sF (M.1 10) (M.1 8) n 0 = -1 then 1 else 0) := by
  obtain ⟨K, eK⟩ : ∃ K : Int32 → Option Int32, K = (fun k1_1 => if bo01 k1_1 then some k1_1 else none) := ⟨_, rfl⟩
  have L0 : ∀ (d i k : Nat), i + d = n → d < k → FX8_isThought_L4 M K k 0 (nI i) = K 0 := by
    intro d
    induction d with
    | zero =>
      intro i k hi hk
      obtain ⟨k, rfl⟩ : ∃ z, k = z + 1 := ⟨k - 1, by omega⟩
      rw [FX8_isThought_L4, em, if_pos (nI_le (by omega) (by omega))]
    | succ d ih =>
      intro i k hi hk
      obtain ⟨k, rfl⟩ : ∃ z, k = z + 1 := ⟨k - 1, by omega⟩
      rw [FX8_isThought_L4, em, if_neg (nI_ge (by omega) (by omega)), jn_s, jn_s, if_pos rfl, nI_1]
      exact ih (i + 1) k (by omega) (by omega)
  have L1 : ∀ (d i k : Nat), i + d = n → d < k → FX8_isThought_L4 M K k 1 (nI i) = K (if sF (M.1 10) (M.1 8) d i = -1 then 1 else 0) := by
    intro d
    induction d with
    | zero =>
      intro i k hi hk
      obtain ⟨k, rfl⟩ : ∃ z, k = z + 1 := ⟨k - 1, by omega⟩
      rw [FX8_isThought_L4, em, if_pos (nI_le (by omega) (by omega)), sF, if_pos rfl]
    | succ d ih =>
      intro i k hi hk
      obtain ⟨k, rfl⟩ : ∃ z, k = z + 1 := ⟨k - 1, by omega⟩
      obtain ⟨o, ho, eo⟩ := hE i (by omega)
      rw [FX8_isThought_L4, em, if_neg (nI_ge (by omega) (by omega)), jn_s, jn_s, if_neg (show ¬ (1 : Int32) = 0 by decide), two_n, nI_1 (2 * i), if_pos (inb_n (by omega) (by decide)), ix_n (by omega), eo, if_pos (inb_n (by omega) (by decide)), if_pos (inb_n (by omega) (by decide)), ix_n (n := o) (by omega), ix_n (n := 2 * i + 1) (by omega), nI_1, sF, eo, ix_n (by omega)]
      by_cases h : M.1 10 o = M.1 8 (2 * i + 1)
      · rw [if_pos h, if_pos h]
        exact ih (i + 1) k (by omega) (by omega)
      · have ne : ¬ nI i = -1 := fun z => absurd (show (nI i).toInt = -1 by rw [z]; rfl) (by rw [nI_toInt (by omega)]; omega)
        rw [if_neg h, if_neg h, if_neg ne]
        exact L0 d (i + 1) k (by omega) (by omega)
  have h := L1 n 0 fuelN (by omega) (show n < 100000 by omega)
  unfold FX8_isThought
  rw [← eK]
  refine h.trans ?_
  rw [eK]
  by_cases q : sF (M.1 10) (M.1 8) n 0 = -1
  · rw [if_pos q]; rfl
  · rw [if_neg q]; rfl
theorem so_and {a s : Int32} (h : (a &&& (s ^^^ (-1))) = 0) : s &&& a = a := by
  have e1 : ∀ i, i < 32 → (-1 : Int32).toBitVec.getLsbD i = true := by decide
  have e0 : ∀ i, i < 32 → (0 : Int32).toBitVec.getLsbD i = false := by decide
  have hb := congrArg Int32.toBitVec h
  rw [Int32.toBitVec_and, Int32.toBitVec_xor] at hb
  apply Int32.toBitVec_inj.mp
  rw [Int32.toBitVec_and]
  apply BitVec.eq_of_getLsbD_eq
  intro i hi
  have z := congrArg (fun v => BitVec.getLsbD v i) hb
  simp only [BitVec.getLsbD_and, BitVec.getLsbD_xor, e1 i hi, e0 i hi] at z ⊢
  cases h1 : a.toBitVec.getLsbD i <;> cases h2 : s.toBitVec.getLsbD i <;> rw [h1, h2] at z <;> first | rfl | exact absurd z (by decide)
/-- is thought behind the sheet j -/
abbrev sTh (g r8 : Nat → Int32) (n nf : Nat) (u : Nat → Int32) (j : Nat) : Prop := sF (sT g nf j u).2 r8 n 0 = -1
theorem left_m {Mm : MM} {n : Nat} {kk no nf hh N : Nat} (C : CityI (Mm.1 1) kk no nf hh) (R : RdI (Mm.1 3) N) (hN : N + 8 < 2 ^ 30) (hn : n ≤ 6) (em : Mm.1 0 12 = nI n) (hE : ∀ i, i < n → ∃ o, o < no ∧ Mm.1 8 (2 * i) = nI o) {j : Nat} (r : Nat → Int32) : ∃ r2, FX8_triesTonight (nI j) (setR Mm 10 r) = some ((sT (Mm.1 1) nf j (Mm.1 3)).1, setR Mm 10 r2) ∧ FX8_isThought (setR Mm 10 r2) = some (if sTh (Mm.1 1) (Mm.1 8) n nf (Mm.1 3) j then 1 else 0) := by
  have s1 : ∀ r, (setR Mm 10 r).1 1 = Mm.1 1 := fun r => setR_n _ _ (by decide)
  have s3 : ∀ r, (setR Mm 10 r).1 3 = Mm.1 3 := fun r => setR_n _ _ (by decide)
  have s8 : ∀ r, (setR Mm 10 r).1 8 = Mm.1 8 := fun r => setR_n _ _ (by decide)
  have s0 : ∀ r, (setR Mm 10 r).1 0 = Mm.1 0 := fun r => setR_n _ _ (by decide)
  obtain ⟨r2, t1, t2⟩ := tonight_m (M := setR Mm 10 r) (u := Mm.1 3) (sheet := nI j) (by rw [s1]; exact C) (fun k _ => by rw [s3]) R hN
  rw [s1, setR_setR] at t1
  rw [s1] at t2
  refine ⟨r2, t1, ?_⟩
  rw [m_isT (n := n) C.2.2.2.2.2.1 hn (by rw [s0]; exact em) (by rw [s8]; exact hE), s8, setR_c, sF_eq C.2.2.2.2.2.1 hE (fun o ho => t2 o (by omega)) n 0 (by omega)]
theorem left_rest {Mm : MM} {n : Nat} {kk no nf hh N : Nat} (C : CityI (Mm.1 1) kk no nf hh) (R : RdI (Mm.1 3) N) (hN : N + 8 < 2 ^ 30) (hn : n ≤ 6) (em : Mm.1 0 12 = nI n) (hE : ∀ i, i < n → ∃ o, o < no ∧ Mm.1 8 (2 * i) = nI o) {q : Nat} (w : Int32) (K : Int32 → Int32 → Int32 → Int32 → MM → Option (Int32 × MM)) (hK : ∀ a b c M, K a w b c M = some (w, M)) : ∀ (d i k cnt : Nat) (r : Nat → Int32) (am v5 : Int32), i + d = 2 ^ nf → d < k → q < cnt → cnt ≤ i → ∃ r2, FX8_leftOut_L19 (nI q) K k (nI cnt) w am v5 (nI i) (setR Mm 10 r) = some (w, setR Mm 10 r2) := by
  obtain ⟨g0, g1, g2, g3, hk, hno, hnf, -, -, hF⟩ := id C
  have p256 : 2 ^ nf ≤ 2 ^ 8 := Nat.pow_le_pow_right (by decide) hnf
  have s1 : ∀ r, (setR Mm 10 r).1 1 = Mm.1 1 := fun r => setR_n _ _ (by decide)
  have s3 : ∀ r, (setR Mm 10 r).1 3 = Mm.1 3 := fun r => setR_n _ _ (by decide)
  intro d
  induction d with
  | zero =>
    intro i k cnt r am v5 hi hk2 hq hc
    obtain ⟨k, rfl⟩ : ∃ z, k = z + 1 := ⟨k - 1, by omega⟩
    refine ⟨r, ?_⟩
    rw [FX8_leftOut_L19, s1, g2, shl1 nf (by omega), if_pos (nI_le (by omega) (by omega)), hK]
  | succ d ih =>
    intro i k cnt r am v5 hi hk2 hq hc
    obtain ⟨k, rfl⟩ : ∃ z, k = z + 1 := ⟨k - 1, by omega⟩
    rw [FX8_leftOut_L19, s1, g2, shl1 nf (by omega), if_neg (nI_ge (by omega) (by omega)), s3, may_m (kk := kk) (no := no) (by rw [s1]; exact g0) (by rw [s1]; exact g1) hk hno (by omega), bo_s, jn_s, nI_1]
    by_cases qm : sMay kk no (Mm.1 3 13) i
    · obtain ⟨r2, t1, t2⟩ := left_m C R hN hn em hE (j := i) r
      rw [if_pos qm, if_neg (show ¬ (1 : Int32) = 0 by decide), t1, bd_s, t2, bo_s]
      by_cases qt : sTh (Mm.1 1) (Mm.1 8) n nf (Mm.1 3) i
      · have nq : ¬ nI cnt = nI q := fun z => by have := (nI_eq (by omega) (by omega)).mp z; omega
        rw [if_pos qt, if_neg (show ¬ (1 : Int32) = 0 by decide), jn_s, if_neg nq, nI_1]
        exact ih (i + 1) k (cnt + 1) r2 _ _ (by omega) (by omega) (by omega) (by omega)
      · rw [if_neg qt, if_pos rfl]
        exact ih (i + 1) k cnt r2 _ _ (by omega) (by omega) hq (by omega)
    · rw [if_neg qm, if_pos rfl]
      exact ih (i + 1) k cnt r _ _ (by omega) (by omega) hq (by omega)
