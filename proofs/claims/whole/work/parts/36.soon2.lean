/-! ===== soonest: two nights ===== -/
abbrev sP2 (g : Nat → Int32) (kk no nf : Nat) (so al nn : Int32) (u : Nat → Int32) (b : Nat) : Prop := sMay kk no so b ∧ ∃ j, j < 2 ^ nf ∧ sP g kk no nf so al nn (sT g nf b u).2 j
/-- the least second sheet -/
abbrev sL2 (g : Nat → Int32) (kk no nf : Nat) (so al nn : Int32) (u : Nat → Int32) (b j : Nat) : Prop := b < 2 ^ nf ∧ j < 2 ^ nf ∧ (∀ i, i < b → ¬ sP2 g kk no nf so al nn u i) ∧ sMay kk no so b ∧ sP g kk no nf so al nn (sT g nf b u).2 j ∧ ∀ i, i < j → ¬ sP g kk no nf so al nn (sT g nf b u).2 i
theorem x_two {M0 : XM} {g u : Nat → Int32} {so al nn : Int32} {kk no nf hh N : Nat} (C : CityI g kk no nf hh) (X : CityX M0 3 g nf (byG g)) (hso : M0 17 2 = so) (B : BelX M0 17 u) (Rx : RdX M0 17 u) (R : RdI u N) (hN : N + 16 < 2 ^ 30) : (∃ b j M2, sL2 g kk no nf so al nn u b j ∧ FX7_findTwoNights al nn M0 = some (1, M2) ∧ (∀ a, a < 20 ∨ 26 < a → M2 a = M0 a) ∧ M2 26 0 = 2 ∧ M2 26 1 = nI b ∧ M2 26 2 = nI j) ∨ ((∀ b, b < 2 ^ nf → ¬ sP2 g kk no nf so al nn u b) ∧ ∃ M2, FX7_findTwoNights al nn M0 = some (0, M2) ∧ ∀ a, a < 20 ∨ 26 < a → M2 a = M0 a) := by
  obtain ⟨g0, g1, g2, g3, hk, hno, hnf, -, -, hF⟩ := id C
  have p256 : 2 ^ nf ≤ 2 ^ 8 := Nat.pow_le_pow_right (by decide) hnf
  have L : ∀ (d i k : Nat) (M : XM), i + d = 2 ^ nf → d < k → (∀ a, a < 20 ∨ 26 < a → M a = M0 a) → (∀ j, j < i → ¬ sP2 g kk no nf so al nn u j) → (∃ b j M2, sL2 g kk no nf so al nn u b j ∧ FX7_findTwoNights_L2 al nn (fun (M_1 : XM) => some (0, M_1)) k (nI i) M = some (1, M2) ∧ (∀ a, a < 20 ∨ 26 < a → M2 a = M0 a) ∧ M2 26 0 = 2 ∧ M2 26 1 = nI b ∧ M2 26 2 = nI j) ∨ ((∀ b, b < 2 ^ nf → ¬ sP2 g kk no nf so al nn u b) ∧ ∃ M2, FX7_findTwoNights_L2 al nn (fun (M_1 : XM) => some (0, M_1)) k (nI i) M = some (0, M2) ∧ ∀ a, a < 20 ∨ 26 < a → M2 a = M0 a) := by
    intro d
    induction d with
    | zero =>
      intro i k M hi hk2 F hno2
      obtain ⟨k, rfl⟩ : ∃ z, k = z + 1 := ⟨k - 1, by omega⟩
      have XC := CityX_eq (M2 := M) (fun a _ _ => F a (by omega)) X
      refine Or.inr ⟨fun j hj => hno2 j (by omega), M, ?_, F⟩
      rw [FX7_findTwoNights_L2, XC.2.2.1, g2, shl1 nf (by omega), if_pos (nI_le (by omega) (by omega))]
    | succ d ih =>
      intro i k M hi hk2 F hno2
      obtain ⟨k, rfl⟩ : ∃ z, k = z + 1 := ⟨k - 1, by omega⟩
      have XC := CityX_eq (M2 := M) (fun a _ _ => F a (by omega)) X
      have m17 : M 17 2 = so := by rw [F 17 (by omega)]; exact hso
      rw [FX7_findTwoNights_L2, XC.2.2.1, g2, shl1 nf (by omega), if_neg (nI_ge (by omega) (by omega)), may_x (kk := kk) (no := no) (by rw [XC.1]; exact g0) (by rw [XC.2.1]; exact g1) m17 hk hno (by omega), bo_s, jn_s, nI_1]
      by_cases qm : sMay kk no so i
      · rw [if_pos qm, if_neg (show ¬ (1 : Int32) = 0 by decide)]
        obtain ⟨M1, M2, e1, e2, s1, s2, s3, f2⟩ := try_x (M := M) (sheet := nI i) (c0 := 20) (c1 := 17) (d := 3) (by decide) (by decide) (by decide) (by decide) C XC (fun o ho => by rw [F _ (by omega)]; exact B o ho) (fun o ho => by rw [F _ (by omega)]; exact Rx o ho) R (by omega)
        have F2 : ∀ a, a < 20 ∨ 26 < a → M2 a = M0 a := fun a q => (f2 a (by omega) (by omega) (by omega)).trans (F a q)
        have R2 := (sGo_inv (by_ := byG g) (sheet := nI i) (q := (-1, u)) C R nf (Nat.le_refl _)).1
        have ne1 : ¬ nI i = -1 := fun z => absurd (show (nI i).toInt = -1 by rw [z]; rfl) (by rw [nI_toInt (by omega)]; omega)
        rw [e1, bo_s, e2, bo_s]
        rcases x_one (M0 := M2) (c1 := 20) (c2 := 23) (so := so) (al := al) (nn := nn) (e := nI i) (by decide) (by decide) (by decide) (by decide) C (CityX_eq (fun a _ _ => F2 a (by omega)) X) (by rw [F2 17 (by omega)]; exact hso) s1 s2 R2 (by omega) with ⟨j, M3, z1, z2, z3, z4, z5, z6, z7, z8⟩ | ⟨z1, M3, z2, z3⟩
        · refine Or.inl ⟨i, j, M3, ⟨by omega, z1, hno2, qm, z2, z3⟩, by rw [z4, bd_s, if_neg (show ¬ (1 : Int32) = 0 by decide)], fun a q => (z5 a (by omega) (by omega) (by omega) (by omega)).trans (F2 a q), ?_, ?_, z8⟩
          · rw [z6, if_neg ne1]
          · rw [z7, if_neg ne1]
        · rw [z2, bd_s, if_pos rfl]
          refine ih (i + 1) k M3 (by omega) (by omega) (fun a q => (z3 a (by omega) (by omega) (by omega)).trans (F2 a q)) (fun j hj z => ?_)
          by_cases hji : j = i
          · subst hji
            obtain ⟨j2, w1, w2⟩ := z.2
            exact z1 j2 w1 w2
          · exact hno2 j (by omega) z
      · rw [if_neg qm, if_pos rfl]
        refine ih (i + 1) k M (by omega) (by omega) F (fun j hj z => ?_)
        by_cases hji : j = i
        · subst hji; exact qm z.1
        · exact hno2 j (by omega) z
  exact L (2 ^ nf) 0 fuelN M0 (by omega) (show 2 ^ nf < 100000 by omega) (fun _ _ => rfl) (fun j hj => by omega)
/-- only the rows of two nights differ -/
def FrM (M0 M : MM) : Prop := (∀ a, a ≠ 10 → a ≠ 11 → M.1 a = M0.1 a) ∧ M.2 = M0.2
theorem FrM_set {M0 M : MM} {c : Nat} (h : FrM M0 M) (hc : c = 10 ∨ c = 11) (r : Nat → Int32) : FrM M0 (setR M c r) := ⟨fun a h1 h2 => by rw [setR_n _ _ (by omega)]; exact h.1 a h1 h2, h.2⟩
theorem m_in {M0 : MM} {g u : Nat → Int32} {so al nn b4 : Int32} {kk no nf hh N : Nat} (eg : M0.1 1 = g) (C : CityI g kk no nf hh) (hso : M0.1 3 13 = so) (eu : ∀ k, k < 17 → M0.1 10 k = u k) (R : RdI u N) (hN : N + 8 < 2 ^ 30) (ha : ∃ a, a < 2 ^ no ∧ al = nI a) (K : MM → Option (Int32 × MM)) : (∃ j r, j < 2 ^ nf ∧ sP g kk no nf so al nn u j ∧ (∀ i, i < j → ¬ sP g kk no nf so al nn u i) ∧ FX8_layNights_L120 al nn (nI (2 ^ nf)) b4 K fuelN 0 M0 = some (2, um (um (setR M0 11 r) 0 23 b4) 0 24 (nI j))) ∨ ((∀ j, j < 2 ^ nf → ¬ sP g kk no nf so al nn u j) ∧ ∃ r, FX8_layNights_L120 al nn (nI (2 ^ nf)) b4 K fuelN 0 M0 = K (setR M0 11 r)) := by
  obtain ⟨g0, g1, g2, g3, hk, hno, hnf, -, -, hF⟩ := id C
  have p256 : 2 ^ nf ≤ 2 ^ 8 := Nat.pow_le_pow_right (by decide) hnf
  have s1 : ∀ r, (setR M0 11 r).1 1 = g := fun r => by rw [setR_n _ _ (by decide)]; exact eg
  have s3 : ∀ r, (setR M0 11 r).1 10 = M0.1 10 := fun r => setR_n _ _ (by decide)
  have L : ∀ (d i k : Nat) (r : Nat → Int32), i + d = 2 ^ nf → d < k → (∀ j, j < i → ¬ sP g kk no nf so al nn u j) → (∃ j r2, j < 2 ^ nf ∧ sP g kk no nf so al nn u j ∧ (∀ i, i < j → ¬ sP g kk no nf so al nn u i) ∧ FX8_layNights_L120 al nn (nI (2 ^ nf)) b4 K k (nI i) (setR M0 11 r) = some (2, um (um (setR M0 11 r2) 0 23 b4) 0 24 (nI j))) ∨ ((∀ j, j < 2 ^ nf → ¬ sP g kk no nf so al nn u j) ∧ ∃ r2, FX8_layNights_L120 al nn (nI (2 ^ nf)) b4 K k (nI i) (setR M0 11 r) = K (setR M0 11 r2)) := by
    intro d
    induction d with
    | zero =>
      intro i k r hi hk2 hno2
      obtain ⟨k, rfl⟩ : ∃ z, k = z + 1 := ⟨k - 1, by omega⟩
      refine Or.inr ⟨fun j hj => hno2 j (by omega), r, ?_⟩
      rw [FX8_layNights_L120, if_pos (nI_le (by omega) (by omega))]
    | succ d ih =>
      intro i k r hi hk2 hno2
      obtain ⟨k, rfl⟩ : ∃ z, k = z + 1 := ⟨k - 1, by omega⟩
      have m13 : (setR M0 11 r).1 3 13 = so := by rw [setR_n _ _ (by decide)]; exact hso
      rw [FX8_layNights_L120, if_neg (nI_ge (by omega) (by omega)), m13, may_m (kk := kk) (no := no) (by rw [s1]; exact g0) (by rw [s1]; exact g1) hk hno (by omega), bo_s, jn_s, nI_1]
      by_cases qm : sMay kk no so i
      · rw [if_pos qm, if_neg (show ¬ (1 : Int32) = 0 by decide)]
        obtain ⟨r0, r2, t0, t1, t2⟩ := try_m (M := setR M0 11 r) (c := 10) (e := 11) (u := u) (sheet := nI i) (by decide) (by decide) (by decide) (by rw [s1]; exact C) (fun k hk => by rw [s3]; exact eu k hk) R hN
        rw [s1, setR_setR, setR_setR] at t1
        rw [s1] at t2
        rw [setR_setR] at t0
        rw [t0, bo_s, t1, bd_s, m_want (c := 11) (by decide) (s1 r2) g1 hno (v := (sT g nf i u).2) (fun o ho => by rw [setR_c]; exact t2 o (by omega)) ha, bo_s]
        by_cases qw : sW g no al nn (sT g nf i u).2
        · rw [if_pos qw, if_neg (show ¬ (1 : Int32) = 0 by decide)]
          exact Or.inl ⟨i, r2, by omega, ⟨qm, qw⟩, hno2, rfl⟩
        · rw [if_neg qw, if_pos rfl]
          refine ih (i + 1) k r2 (by omega) (by omega) (fun j hj z => ?_)
          by_cases hji : j = i
          · subst hji; exact qw z.2
          · exact hno2 j (by omega) z
      · rw [if_neg qm, if_pos rfl]
        refine ih (i + 1) k r (by omega) (by omega) (fun j hj z => ?_)
        by_cases hji : j = i
        · subst hji; exact qm z.1
        · exact hno2 j (by omega) z
  have h := L (2 ^ nf) 0 fuelN (M0.1 11) (by omega) (show 2 ^ nf < 100000 by omega) (fun j hj => by omega)
  rw [setR_self] at h
  exact h
theorem m_two {M0 : MM} {g u : Nat → Int32} {so al nn : Int32} {kk no nf hh N : Nat} (eg : M0.1 1 = g) (C : CityI g kk no nf hh) (hso : M0.1 3 13 = so) (eu : M0.1 3 = u) (R : RdI u N) (hN : N + 16 < 2 ^ 30) (ha : ∃ a, a < 2 ^ no ∧ al = nI a) (K : MM → Option (Int32 × MM)) : (∃ b j M2, sL2 g kk no nf so al nn u b j ∧ FrM M0 M2 ∧ FX8_layNights_L87 al nn (nI (2 ^ nf)) K fuelN 0 M0 = some (2, um (um M2 0 23 (nI b)) 0 24 (nI j))) ∨ ((∀ j, j < 2 ^ nf → ¬ sP2 g kk no nf so al nn u j) ∧ ∃ M2, FrM M0 M2 ∧ FX8_layNights_L87 al nn (nI (2 ^ nf)) K fuelN 0 M0 = K M2) := by
  obtain ⟨g0, g1, g2, g3, hk, hno, hnf, -, -, hF⟩ := id C
  have p256 : 2 ^ nf ≤ 2 ^ 8 := Nat.pow_le_pow_right (by decide) hnf
  have L : ∀ (d i k : Nat) (M : MM), i + d = 2 ^ nf → d < k → FrM M0 M → (∀ j, j < i → ¬ sP2 g kk no nf so al nn u j) → (∃ b j M2, sL2 g kk no nf so al nn u b j ∧ FrM M0 M2 ∧ FX8_layNights_L87 al nn (nI (2 ^ nf)) K k (nI i) M = some (2, um (um M2 0 23 (nI b)) 0 24 (nI j))) ∨ ((∀ j, j < 2 ^ nf → ¬ sP2 g kk no nf so al nn u j) ∧ ∃ M2, FrM M0 M2 ∧ FX8_layNights_L87 al nn (nI (2 ^ nf)) K k (nI i) M = K M2) := by
    intro d
    induction d with
    | zero =>
      intro i k M hi hk2 F hno2
      obtain ⟨k, rfl⟩ : ∃ z, k = z + 1 := ⟨k - 1, by omega⟩
      refine Or.inr ⟨fun j hj => hno2 j (by omega), M, F, ?_⟩
      rw [FX8_layNights_L87, if_pos (nI_le (by omega) (by omega))]
    | succ d ih =>
      intro i k M hi hk2 F hno2
      obtain ⟨k, rfl⟩ : ∃ z, k = z + 1 := ⟨k - 1, by omega⟩
      have s1 : M.1 1 = g := (F.1 1 (by decide) (by decide)).trans eg
      have s3 : M.1 3 = u := (F.1 3 (by decide) (by decide)).trans eu
      have m13 : M.1 3 13 = so := by rw [s3, ← eu]; exact hso
      rw [FX8_layNights_L87, if_neg (nI_ge (by omega) (by omega)), m13, may_m (kk := kk) (no := no) (by rw [s1]; exact g0) (by rw [s1]; exact g1) hk hno (by omega), bo_s, jn_s, nI_1]
      by_cases qm : sMay kk no so i
      · rw [if_pos qm, if_neg (show ¬ (1 : Int32) = 0 by decide)]
        obtain ⟨r2, t1, t2⟩ := tonight_m (M := M) (u := u) (sheet := nI i) (by rw [s1]; exact C) (fun k _ => by rw [s3]) R (by omega)
        rw [s1] at t1 t2
        rw [t1, bd_s]
        have R2 := (sGo_inv (by_ := byG g) (sheet := nI i) (q := (-1, u)) C R nf (Nat.le_refl _)).1
        rcases m_in (M0 := setR M 10 r2) (g := g) (u := (sT g nf i u).2) (so := so) (al := al) (nn := nn) (b4 := nI i) (by rw [setR_n _ _ (by decide)]; exact s1) C (by rw [setR_n _ _ (by decide)]; exact m13) (fun k hk => by rw [setR_c]; exact t2 k hk) R2 (by omega) ha (fun M_13 => FX8_layNights_L87 al nn (nI (2 ^ nf)) K k (nI (i + 1)) M_13) with ⟨j, r, z1, z2, z3, z4⟩ | ⟨z1, r, z2⟩
        · exact Or.inl ⟨i, j, _, ⟨by omega, z1, hno2, qm, z2, z3⟩, FrM_set (FrM_set F (Or.inl rfl) r2) (Or.inr rfl) r, z4⟩
        · rw [z2]
          refine ih (i + 1) k _ (by omega) (by omega) (FrM_set (FrM_set F (Or.inl rfl) r2) (Or.inr rfl) r) (fun j hj z => ?_)
          by_cases hji : j = i
          · subst hji
            obtain ⟨j2, w1, w2⟩ := z.2
            exact z1 j2 w1 w2
          · exact hno2 j (by omega) z
      · rw [if_neg qm, if_pos rfl]
        refine ih (i + 1) k M (by omega) (by omega) F (fun j hj z => ?_)
        by_cases hji : j = i
        · subst hji; exact qm z.1
        · exact hno2 j (by omega) z
  exact L (2 ^ nf) 0 fuelN M0 (by omega) (show 2 ^ nf < 100000 by omega) ⟨fun _ _ _ => rfl, rfl⟩ (fun j hj => by omega)
theorem least_eq {p : Nat → Prop} {i j : Nat} (hi : p i) (hj : p j) (mi : ∀ k, k < i → ¬ p k) (mj : ∀ k, k < j → ¬ p k) : i = j := by
  rcases Nat.lt_trichotomy i j with h | h | h
  · exact absurd hi (mj i h)
  · exact h
  · exact absurd hj (mi j h)
theorem sL2_eq {g u : Nat → Int32} {kk no nf : Nat} {so al nn : Int32} {b j b2 j2 : Nat} (h : sL2 g kk no nf so al nn u b j) (h2 : sL2 g kk no nf so al nn u b2 j2) : b = b2 ∧ j = j2 := by
  have e : b = b2 := least_eq (p := sP2 g kk no nf so al nn u) ⟨h.2.2.2.1, j, h.2.1, h.2.2.2.2.1⟩ ⟨h2.2.2.2.1, j2, h2.2.1, h2.2.2.2.2.1⟩ h.2.2.1 h2.2.2.1
  subst e
  exact ⟨rfl, least_eq h.2.2.2.2.1 h2.2.2.2.2.1 h.2.2.2.2.2 h2.2.2.2.2.2⟩
