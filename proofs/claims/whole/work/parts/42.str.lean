/-! ===== strengths ===== -/
/-- a town is copied -/
def TwC (Mh M : XM) (c0 c1 a b : Nat) : Prop := (∀ j, j < 4 → M c0 j = Mh c1 j) ∧ (∀ j, j < a → M (c0 + 1) j = Mh (c1 + 1) j) ∧ (∀ j, j < b → M (c0 + 2) j = Mh (c1 + 2) j ∧ M (c0 + 3) j = Mh (c1 + 3) j ∧ M (c0 + 4) j = Mh (c1 + 4) j ∧ M (c0 + 5) j = Mh (c1 + 5) j ∧ M (c0 + 6) j = Mh (c1 + 6) j) ∧ ∀ e, e < c0 ∨ c0 + 6 < e → M e = Mh e
theorem x_town {Mh : XM} {c0 c1 : Nat} (h0 : x_is1 c0) (h1 : x_is1 c1) (hn : c0 ≠ c1) : ∃ M2, FX1_copyFrom c0 c1 Mh = some M2 ∧ TwC Mh M2 c0 c1 5 8 := by
  have ap : c0 + 6 < c1 ∨ c1 + 6 < c0 := by rcases h0 with rfl | rfl <;> rcases h1 with rfl | rfl <;> first | exact absurd rfl hn | decide
  have l1 : x_len (c0 + 1) = 5 ∧ x_len (c1 + 1) = 5 := by rcases h0 with rfl | rfl <;> rcases h1 with rfl | rfl <;> exact ⟨rfl, rfl⟩
  have k0 := len1 h0
  have k1 := len1 h1
  have L2 : ∀ (d i k : Nat) (M : XM), i + d = 8 → d < k → TwC Mh M c0 c1 5 i → ∃ M2, FX1_copyFrom_L63 c0 c1 (fun (M_2 : XM) => some M_2) k (nI i) M = some M2 ∧ TwC Mh M2 c0 c1 5 8 := by
    intro d
    induction d with
    | zero =>
      intro i k M hi hk T
      obtain ⟨k, rfl⟩ : ∃ z, k = z + 1 := ⟨k - 1, by omega⟩
      have e : i = 8 := by omega
      subst e
      exact ⟨M, by rw [FX1_copyFrom_L63, if_pos (show (8 : Int32) ≤ nI 8 by decide)], T⟩
    | succ d ih =>
      intro i k M hi hk T
      obtain ⟨k, rfl⟩ : ∃ z, k = z + 1 := ⟨k - 1, by omega⟩
      obtain ⟨t1, t2, t3, t4⟩ := T
      rw [FX1_copyFrom_L63, if_neg (show ¬ (8 : Int32) ≤ nI i from nI_ge (b := 8) (by omega) (by decide)), at_ok (by omega), bo_s, put_ok (by omega), bo_s, at_ok (by omega), bo_s, put_ok (by omega), bo_s, at_ok (by omega), bo_s, put_ok (by omega), bo_s, at_ok (by omega), bo_s, put_ok (by omega), bo_s, at_ok (by omega), bo_s, put_ok (by omega), bo_s, nI_1]
      refine ih (i + 1) k _ (by omega) (by omega) ⟨fun j hj => ?_, fun j hj => ?_, fun j hj => ?_, fun e he => ?_⟩
      · rw [upd2_n _ _ _ (by omega), upd2_n _ _ _ (by omega), upd2_n _ _ _ (by omega), upd2_n _ _ _ (by omega), upd2_n _ _ _ (by omega)]
        exact t1 j hj
      · rw [upd2_n _ _ _ (by omega), upd2_n _ _ _ (by omega), upd2_n _ _ _ (by omega), upd2_n _ _ _ (by omega), upd2_n _ _ _ (by omega)]
        exact t2 j hj
      · have u2 := t4 (c1 + 2) (by omega)
        have u3 := t4 (c1 + 3) (by omega)
        have u4 := t4 (c1 + 4) (by omega)
        have u5 := t4 (c1 + 5) (by omega)
        have u6 := t4 (c1 + 6) (by omega)
        by_cases hji : j = i
        · subst hji
          simp only [upd2_at, u2, u3, u4, u5, u6]
          refine ⟨?_, ?_, ?_, ?_, ?_⟩
          · rw [if_neg (by omega), if_neg (by omega), if_neg (by omega), if_neg (by omega), if_pos ⟨trivial, trivial⟩]
          · rw [if_neg (by omega), if_neg (by omega), if_neg (by omega), if_pos ⟨trivial, trivial⟩, if_neg (by omega)]
          · rw [if_neg (by omega), if_neg (by omega), if_pos ⟨trivial, trivial⟩, if_neg (by omega), if_neg (by omega)]
          · rw [if_neg (by omega), if_pos ⟨trivial, trivial⟩, if_neg (by omega), if_neg (by omega), if_neg (by omega)]
          · rw [if_pos ⟨trivial, trivial⟩, if_neg (by omega), if_neg (by omega), if_neg (by omega), if_neg (by omega)]
        · obtain ⟨w2, w3, w4, w5, w6⟩ := t3 j (by omega)
          have uj : ∀ (M : XM) (c : Nat) (v : Int32) (a : Nat), upd2 M c i v a j = M a j := fun M c v a => by rw [upd2_at, if_neg (fun z => hji z.2)]
          simp only [uj]
          exact ⟨w2, w3, w4, w5, w6⟩
      · rw [upd2_n _ _ _ (by omega), upd2_n _ _ _ (by omega), upd2_n _ _ _ (by omega), upd2_n _ _ _ (by omega), upd2_n _ _ _ (by omega)]
        exact t4 e he
  have L1 : ∀ (d i k : Nat) (M : XM), i + d = 5 → d < k → TwC Mh M c0 c1 i 0 → ∃ M2, FX1_copyFrom_L34 c0 c1 (fun (M_1 : XM) => FX1_copyFrom_L63 c0 c1 (fun (M_2 : XM) => some M_2) fuelN 0 M_1) k (nI i) M = some M2 ∧ TwC Mh M2 c0 c1 5 8 := by
    intro d
    induction d with
    | zero =>
      intro i k M hi hk T
      obtain ⟨k, rfl⟩ : ∃ z, k = z + 1 := ⟨k - 1, by omega⟩
      have e : i = 5 := by omega
      subst e
      rw [FX1_copyFrom_L34, if_pos (show (5 : Int32) ≤ nI 5 by decide)]
      exact L2 8 0 fuelN M (by omega) (show 8 < 100000 by omega) T
    | succ d ih =>
      intro i k M hi hk T
      obtain ⟨k, rfl⟩ : ∃ z, k = z + 1 := ⟨k - 1, by omega⟩
      obtain ⟨t1, t2, t3, t4⟩ := T
      rw [FX1_copyFrom_L34, if_neg (show ¬ (5 : Int32) ≤ nI i from nI_ge (b := 5) (by omega) (by decide)), at_ok (by omega), bo_s, put_ok (by omega), bo_s, nI_1]
      refine ih (i + 1) k _ (by omega) (by omega) ⟨fun j hj => ?_, fun j hj => ?_, fun j hj => by omega, fun e he => ?_⟩
      · rw [upd2_n _ _ _ (by omega)]; exact t1 j hj
      · rw [upd2_at, t4 (c1 + 1) (by omega)]
        by_cases hji : j = i
        · rw [if_pos ⟨rfl, hji⟩, hji]
        · rw [if_neg (fun z => hji z.2)]; exact t2 j (by omega)
      · rw [upd2_n _ _ _ (by omega)]; exact t4 e he
  unfold FX1_copyFrom
  refine L1 5 0 fuelN _ (by omega) (show 5 < 100000 by omega) ⟨fun j hj => ?_, fun j hj => by omega, fun j hj => by omega, fun e he => ?_⟩
  · have e4 : j = 0 ∨ j = 1 ∨ j = 2 ∨ j = 3 := by omega
    rcases e4 with rfl | rfl | rfl | rfl
    · rw [upd2_at, if_neg (by omega), upd2_at, if_neg (by omega), upd2_at, if_neg (by omega), upd2_at, if_pos ⟨rfl, rfl⟩]
    · rw [upd2_at, if_neg (by omega), upd2_at, if_neg (by omega), upd2_at, if_pos ⟨rfl, rfl⟩, upd2_at, if_neg (by omega)]
    · rw [upd2_at, if_neg (by omega), upd2_at, if_pos ⟨rfl, rfl⟩, upd2_at, if_neg (by omega), upd2_at, if_neg (by omega)]
    · rw [upd2_at, if_pos ⟨rfl, rfl⟩, upd2_at, if_neg (by omega), upd2_at, if_neg (by omega), upd2_at, if_neg (by omega)]
  · rw [upd2_n _ _ _ (by omega), upd2_n _ _ _ (by omega), upd2_n _ _ _ (by omega), upd2_n _ _ _ (by omega)]
/-- the town with another strength of one fact -/
abbrev byK (g : Nat → Int32) (f k : Nat) : Nat → Int32 := fun e => if e = f then nI k - 9 else byG g e
theorem st_m {Mm : MM} {n : Nat} {kk no nf hh N f s q : Nat} {b3 : Int32} (C : CityI (Mm.1 1) kk no nf hh) (R : RdI (Mm.1 3) N) (hN : N + 8 < 2 ^ 30) (hn : n ≤ 6) (em : Mm.1 0 12 = nI n) (hE : ∀ i, i < n → ∃ o, o < no ∧ Mm.1 8 (2 * i) = nI o) (hf : f < nf) (K : MM → Option (Int32 × MM)) (r : Nat → Int32) : ∃ r0 r2, FX8_copies 3 0 10 0 17 (setR Mm 10 r) = some (setR Mm 10 r0) ∧ FX8_strengths_L67 (nI f) (nI s) b3 (nI q) K fuelN 0 (setR Mm 10 r0) = K (setR Mm 10 r2) ∧ FX8_isThought (setR Mm 10 r2) = some (if sF (sGo (Mm.1 1) (byK (Mm.1 1) f q) (nI s) (-1, Mm.1 3) nf).2 (Mm.1 8) n 0 = -1 then 1 else 0) := by
  have hnf : nf ≤ 8 := C.2.2.2.2.2.2.1
  have c2 := C.2.2.1
  have s1 : ∀ r, (setR Mm 10 r).1 1 = Mm.1 1 := fun r => setR_n _ _ (by decide)
  have s3 : ∀ r, (setR Mm 10 r).1 3 = Mm.1 3 := fun r => setR_n _ _ (by decide)
  have s8 : ∀ r, (setR Mm 10 r).1 8 = Mm.1 8 := fun r => setR_n _ _ (by decide)
  have s0 : ∀ r, (setR Mm 10 r).1 0 = Mm.1 0 := fun r => setR_n _ _ (by decide)
  have hcp := m_copies (M := setR Mm 10 r) (c0 := 3) (c2 := 10) (i := 0) (j := 0) (n := 17) (by decide) (by decide) (by decide) (by decide) (by decide)
  obtain ⟨r0, er0⟩ : ∃ r0, r0 = pt ((setR Mm 10 r).1 10) (fun k => (setR Mm 10 r).1 3 (0 + k)) 0 17 := ⟨_, rfl⟩
  have p0 : ∀ k, k < 17 → r0 k = Mm.1 3 k := by
    intro k hk
    have := pt_in (g := (setR Mm 10 r).1 10) (f := fun k => (setR Mm 10 r).1 3 (0 + k)) (a := 0) hk
    rw [Nat.zero_add] at this
    rw [er0, this, s3]
  have R0 : RdI r0 N := fun f hf => by rw [p0 (5 + f) (by omega)]; exact R f hf
  rw [setR_setR, ← er0] at hcp
  have L : ∀ (d i k : Nat), i + d = nf → d < k → FX8_strengths_L67 (nI f) (nI s) b3 (nI q) K k (nI i) (setR Mm 10 (sGo (Mm.1 1) (byK (Mm.1 1) f q) (nI s) (-1, r0) i).2) = K (setR Mm 10 (sGo (Mm.1 1) (byK (Mm.1 1) f q) (nI s) (-1, r0) nf).2) := by
    intro d
    induction d with
    | zero =>
      intro i k hi hk
      obtain ⟨k, rfl⟩ : ∃ z, k = z + 1 := ⟨k - 1, by omega⟩
      have e : i = nf := by omega
      subst e
      rw [FX8_strengths_L67, s1, c2, if_pos (nI_le (by omega) (by omega))]
    | succ d ih =>
      intro i k hi hk
      obtain ⟨k, rfl⟩ : ∃ z, k = z + 1 := ⟨k - 1, by omega⟩
      have I := ih (i + 1) k (by omega) (by omega)
      have RI := (sGo_inv (by_ := byK (Mm.1 1) f q) (sheet := nI s) (q := (-1, r0)) C R0 i (by omega)).1
      obtain ⟨u, eu⟩ : ∃ u, u = (sGo (Mm.1 1) (byK (Mm.1 1) f q) (nI s) (-1, r0) i).2 := ⟨_, rfl⟩
      have est : (sGo (Mm.1 1) (byK (Mm.1 1) f q) (nI s) (-1, r0) (i + 1)).2 = if sHas (nI s) i then sRead (Mm.1 1) (byK (Mm.1 1) f q) u i else u := by
        show (sStep _ _ _ i (sGo (Mm.1 1) (byK (Mm.1 1) f q) (nI s) (-1, r0) i)).2 = _
        unfold sStep
        rw [eu]
        by_cases hs : sHas (nI s) i
        · rw [if_pos hs, if_pos hs]
        · rw [if_neg hs, if_neg hs]
      rw [est] at I
      rw [← eu] at RI ⊢
      rw [FX8_strengths_L67, s1, c2, if_neg (nI_ge (by omega) (by omega)), has_m, bo_s, jn_s, nI_1]
      by_cases hs : sHas (nI s) i
      · rw [if_pos hs] at I
        rw [if_pos hs, if_neg (show ¬ (1 : Int32) = 0 by decide), jn_s]
        have rd := m_reads (M := setR Mm 10 u) (c := 10) (by_ := byK (Mm.1 1) f q) (u := u) (f := i) (by decide) (by rw [s1]; exact C) (setR_c _ _ _) RI (by omega) (by omega)
        rw [s1, setR_setR] at rd
        have fin : ∀ s' : Int32, s' = byK (Mm.1 1) f q i → bd (FX8_reads 10 (nI i) s' (setR Mm 10 u)) (fun (r_25 : Int32) (M_26 : MM) => FX8_strengths_L67 (nI f) (nI s) b3 (nI q) K k (nI (i + 1)) M_26) = K (setR Mm 10 (sGo (Mm.1 1) (byK (Mm.1 1) f q) (nI s) (-1, r0) nf).2) := fun s' hs' => by rw [hs', rd, bd_s]; exact I
        by_cases hif : i = f
        · have eb : byK (Mm.1 1) f q i = nI q - 9 := by show (if i = f then nI q - 9 else byG (Mm.1 1) i) = _; rw [if_pos hif]
          rw [if_pos (by rw [hif])]
          exact fin _ eb.symm
        · have eb : byK (Mm.1 1) f q i = byG (Mm.1 1) i := by show (if i = f then nI q - 9 else byG (Mm.1 1) i) = _; rw [if_neg hif]
          have nif : ¬ nI i = nI f := fun z => hif ((nI_eq (by omega) (by omega)).mp z)
          rw [if_neg nif, by_m (by omega), bo_s, s1]
          exact fin _ eb.symm
      · rw [if_neg hs] at I
        rw [if_neg hs, if_pos rfl]
        exact I
  have hL := L nf 0 fuelN (by omega) (show nf < 100000 by omega)
  obtain ⟨-, g2⟩ := sGo_congr (by_ := byK (Mm.1 1) f q) (sheet := nI s) (v := -1) C p0 nf (Nat.le_refl _)
  refine ⟨r0, _, hcp, hL, ?_⟩
  rw [m_isT (n := n) C.2.2.2.2.2.1 hn (by rw [s0]; exact em) (by rw [s8]; exact hE), s8, setR_c, sF_eq C.2.2.2.2.2.1 hE (fun o ho => g2 o (by omega)) n 0 (by omega)]
