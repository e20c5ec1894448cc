/-! ===== soonest ===== -/
theorem sCv_I (g u : Nat → Int32) : ∀ n, n ≤ 5 → ∃ s, s < 2 ^ n ∧ sCv g u n = nI s := by
  intro n
  induction n with
  | zero => exact fun _ => ⟨0, by decide, rfl⟩
  | succ n ih =>
    intro hn
    obtain ⟨s, hs, es⟩ := ih (by omega)
    have p1 : 2 ^ n < 2 ^ (n + 1) := Nat.pow_lt_pow_right (by decide) (by omega)
    rw [sCv, es]
    by_cases h : u n < g 3
    · rw [if_pos h, or_0]; exact ⟨s, by omega, rfl⟩
    · rw [if_neg h, shl1 n (by omega), or_n]; exact ⟨s ||| 2 ^ n, Nat.or_lt_two_pow (by omega) p1, rfl⟩
theorem want_bits : ∀ s, s < 32 → ∀ a, a < 32 → ((nI s &&& nI a = nI a) ↔ (nI a &&& (nI s ^^^ (-1))) = 0) := by decide +kernel
abbrev sW (g : Nat → Int32) (no : Nat) (al nn : Int32) (v : Nat → Int32) : Prop := (sCv g v no &&& al) = al ∧ (sCv g v no &&& nn) = 0
theorem x_want {M : XM} {c no : Nat} {g v : Nat → Int32} (hc : x_is3 c) (h1 : M 3 1 = nI no) (h3 : M 3 3 = g 3) (hno : no ≤ 5) (B : BelX M c v) (al nn : Int32) : FX3_isConvinced c 3 al nn M = some (if sW g no al nn v then 1 else 0) := by
  unfold FX3_isConvinced
  rw [x_conv hc h1 h3 hno B, bo_s]
  by_cases q1 : (sCv g v no &&& al) = al
  · rw [if_pos q1]
    by_cases q2 : (sCv g v no &&& nn) = 0
    · rw [if_pos q2, if_pos ⟨q1, q2⟩]
    · rw [if_neg q2, if_neg (fun z => q2 z.2)]
  · rw [if_neg q1, if_neg (fun z => q1 z.1)]
theorem m_want {M : MM} {c no : Nat} {g v : Nat → Int32} {al nn : Int32} (hc : mRow c) (eg : M.1 1 = g) (h1 : g 1 = nI no) (hno : no ≤ 5) (ev : ∀ o, o < 5 → M.1 c o = v o) (ha : ∃ a, a < 2 ^ no ∧ al = nI a) : FX8_isWanted c al nn M = some (if sW g no al nn v then 1 else 0) := by
  subst eg
  unfold FX8_isWanted
  rw [m_conv hc h1 hno, bo_s, sCv_eq no (fun o ho => ev o (by omega))]
  obtain ⟨s, hs, es⟩ := sCv_I (M.1 1) v no hno
  obtain ⟨a, ha1, rfl⟩ := ha
  have p32 : 2 ^ no ≤ 2 ^ 5 := Nat.pow_le_pow_right (by decide) hno
  have w := want_bits s (by omega) a (by omega)
  rw [← es] at w
  by_cases q1 : (sCv (M.1 1) v no &&& nI a) = nI a
  · rw [if_pos (w.mp q1), Int32.and_comm nn]
    by_cases q2 : (sCv (M.1 1) v no &&& nn) = 0
    · rw [if_pos q2, if_pos ⟨q1, q2⟩]
    · rw [if_neg q2, if_neg (fun z => q2 z.2)]
  · rw [if_neg (fun z => q1 (w.mpr z)), if_neg (fun z => q1 z.1)]
abbrev sT (g : Nat → Int32) (nf j : Nat) (u : Nat → Int32) : Int32 × (Nat → Int32) := sGo g (byG g) (nI j) (-1, u) nf
/-- a sheet that may be, behind which all is as wanted -/
abbrev sP (g : Nat → Int32) (kk no nf : Nat) (so al nn : Int32) (u : Nat → Int32) (j : Nat) : Prop := sMay kk no so j ∧ sW g no al nn (sT g nf j u).2
theorem x_one {M0 : XM} {c1 c2 : Nat} {g u : Nat → Int32} {so al nn e : Int32} {kk no nf hh N : Nat} (h1 : x_is3 c1) (h2 : x_is3 c2) (hn : c1 ≠ c2) (h17 : c2 ≠ 17) (C : CityI g kk no nf hh) (X : CityX M0 3 g nf (byG g)) (hso : M0 17 2 = so) (B : BelX M0 c1 u) (Rx : RdX M0 c1 u) (R : RdI u N) (hN : N + 8 < 2 ^ 30) : (∃ j M2, j < 2 ^ nf ∧ sP g kk no nf so al nn u j ∧ (∀ i, i < j → ¬ sP g kk no nf so al nn u i) ∧ FX7_findOneNight c1 c2 al nn e M0 = some (1, M2) ∧ (∀ a, a ≠ c2 → a ≠ c2 + 1 → a ≠ c2 + 2 → a ≠ 26 → M2 a = M0 a) ∧ M2 26 0 = (if e = -1 then 1 else 2) ∧ M2 26 1 = (if e = -1 then nI j else e) ∧ M2 26 2 = nI j) ∨ ((∀ j, j < 2 ^ nf → ¬ sP g kk no nf so al nn u j) ∧ ∃ M2, FX7_findOneNight c1 c2 al nn e M0 = some (0, M2) ∧ FrX c2 M0 M2) := by
  obtain ⟨g0, g1, g2, g3, hk, hno, hnf, -, -, hF⟩ := id C
  have p256 : 2 ^ nf ≤ 2 ^ 8 := Nat.pow_le_pow_right (by decide) hnf
  have ap : c1 + 2 < c2 ∨ c2 + 2 < c1 := by
    rcases h1 with rfl | rfl | rfl <;> rcases h2 with rfl | rfl | rfl <;> first | exact absurd rfl hn | decide
  have ap2 : 19 < c2 ∧ c2 + 2 < 26 := by
    rcases h2 with rfl | rfl | rfl
    · exact absurd rfl h17
    · decide
    · decide
  have L : ∀ (d i k : Nat) (M : XM), i + d = 2 ^ nf → d < k → FrX c2 M0 M → (∀ j, j < i → ¬ sP g kk no nf so al nn u j) → (∃ j M2, j < 2 ^ nf ∧ sP g kk no nf so al nn u j ∧ (∀ i, i < j → ¬ sP g kk no nf so al nn u i) ∧ FX7_findOneNight_L3 c1 c2 al nn e (fun (M_1 : XM) => some (0, M_1)) k (nI i) M = some (1, M2) ∧ (∀ a, a ≠ c2 → a ≠ c2 + 1 → a ≠ c2 + 2 → a ≠ 26 → M2 a = M0 a) ∧ M2 26 0 = (if e = -1 then 1 else 2) ∧ M2 26 1 = (if e = -1 then nI j else e) ∧ M2 26 2 = nI j) ∨ ((∀ j, j < 2 ^ nf → ¬ sP g kk no nf so al nn u j) ∧ ∃ M2, FX7_findOneNight_L3 c1 c2 al nn e (fun (M_1 : XM) => some (0, M_1)) k (nI i) M = some (0, M2) ∧ FrX c2 M0 M2) := by
    intro d
    induction d with
    | zero =>
      intro i k M hi hk2 F hno2
      obtain ⟨k, rfl⟩ : ∃ z, k = z + 1 := ⟨k - 1, by omega⟩
      have XC := CityX_fr h2 (show x_is1 3 by decide) F X
      refine Or.inr ⟨fun j hj => hno2 j (by omega), M, ?_, F⟩
      rw [FX7_findOneNight_L3, XC.2.2.1, g2, shl1 nf (by omega), if_pos (nI_le (by omega) (by omega))]
    | succ d ih =>
      intro i k M hi hk2 F hno2
      obtain ⟨k, rfl⟩ : ∃ z, k = z + 1 := ⟨k - 1, by omega⟩
      have XC := CityX_fr h2 (show x_is1 3 by decide) F X
      have m17 : M 17 2 = so := by rw [F 17 (by omega) (by omega) (by omega)]; exact hso
      rw [FX7_findOneNight_L3, XC.2.2.1, g2, shl1 nf (by omega), if_neg (nI_ge (by omega) (by omega)), may_x (kk := kk) (no := no) (by rw [XC.1]; exact g0) (by rw [XC.2.1]; exact g1) m17 hk hno (by omega), bo_s, jn_s, nI_1]
      by_cases qm : sMay kk no so i
      · rw [if_pos qm, if_neg (show ¬ (1 : Int32) = 0 by decide)]
        obtain ⟨M1, M2, e1, e2, s1, s2, s3, f2⟩ := try_x (M := M) (sheet := nI i) (c0 := c2) (c1 := c1) (d := 3) h2 h1 (fun z => hn z.symm) (by decide) C XC (fun o ho => by rw [F _ (by omega) (by omega) (by omega)]; exact B o ho) (fun o ho => by rw [F _ (by omega) (by omega) (by omega)]; exact Rx o ho) R hN
        have F2 : FrX c2 M0 M2 := fun a q1 q2 q3 => (f2 a q1 q2 q3).trans (F a q1 q2 q3)
        have XC2 := CityX_fr h2 (show x_is1 3 by decide) F2 X
        rw [e1, bo_s, e2, bo_s, x_want h2 (by rw [XC2.2.1]; exact g1) XC2.2.2.2.1 hno s1, bo_s]
        by_cases qw : sW g no al nn (sT g nf i u).2
        · rw [if_pos qw, if_neg (show ¬ (1 : Int32) = 0 by decide), jn_s]
          have fin : ∀ s t : Int32, s = (if e = -1 then 1 else 2) → t = (if e = -1 then nI i else e) → ∃ j M3, j < 2 ^ nf ∧ sP g kk no nf so al nn u j ∧ (∀ i, i < j → ¬ sP g kk no nf so al nn u i) ∧ bo (FX5_become s t (nI i) M2) (fun (M_14 : XM) => some ((1 : Int32), M_14)) = some (1, M3) ∧ (∀ a, a ≠ c2 → a ≠ c2 + 1 → a ≠ c2 + 2 → a ≠ 26 → M3 a = M0 a) ∧ M3 26 0 = (if e = -1 then 1 else 2) ∧ M3 26 1 = (if e = -1 then nI j else e) ∧ M3 26 2 = nI j := by
            intro s t hs ht
            refine ⟨i, upd2 (upd2 (upd2 M2 26 0 s) 26 1 t) 26 2 (nI i), by omega, ⟨qm, qw⟩, hno2, rfl, fun a q1 q2 q3 q4 => ?_, ?_, ?_, ?_⟩
            · rw [upd2_n _ _ _ q4, upd2_n _ _ _ q4, upd2_n _ _ _ q4]; exact F2 a q1 q2 q3
            · rw [upd2_at, if_neg (by decide), upd2_at, if_neg (by decide), upd2_at, if_pos ⟨rfl, rfl⟩]; exact hs
            · rw [upd2_at, if_neg (by decide), upd2_at, if_pos ⟨rfl, rfl⟩]; exact ht
            · rw [upd2_at, if_pos ⟨rfl, rfl⟩]
          by_cases he : e = -1
          · obtain ⟨j, M3, z1, z2, z3, z4, z5⟩ := fin 1 (nI i) (by rw [if_pos he]) (by rw [if_pos he])
            exact Or.inl ⟨j, M3, z1, z2, z3, by simp only [if_pos he, jn_s]; exact z4, z5⟩
          · obtain ⟨j, M3, z1, z2, z3, z4, z5⟩ := fin 2 e (by rw [if_neg he]) (by rw [if_neg he])
            exact Or.inl ⟨j, M3, z1, z2, z3, by simp only [if_neg he, jn_s]; exact z4, z5⟩
        · rw [if_neg qw, if_pos rfl]
          refine ih (i + 1) k M2 (by omega) (by omega) F2 (fun j hj z => ?_)
          by_cases hji : j = i
          · subst hji; exact qw z.2
          · exact hno2 j (by omega) z
      · rw [if_neg qm, if_pos rfl]
        refine ih (i + 1) k M (by omega) (by omega) F (fun j hj z => ?_)
        by_cases hji : j = i
        · subst hji; exact qm z.1
        · exact hno2 j (by omega) z
  exact L (2 ^ nf) 0 fuelN M0 (by omega) (show 2 ^ nf < 100000 by omega) (fun _ _ _ _ => rfl) (fun j hj => by omega)
/-- the reference's first loop -/
theorem m_one {M0 : MM} {g u : Nat → Int32} {so al nn : Int32} {kk no nf hh N : Nat} (eg : M0.1 1 = g) (C : CityI g kk no nf hh) (hso : M0.1 3 13 = so) (eu : M0.1 3 = u) (R : RdI u N) (hN : N + 8 < 2 ^ 30) (ha : ∃ a, a < 2 ^ no ∧ al = nI a) (K : MM → Option (Int32 × MM)) : (∃ j r, j < 2 ^ nf ∧ sP g kk no nf so al nn u j ∧ (∀ i, i < j → ¬ sP g kk no nf so al nn u i) ∧ FX8_layNights_L27 al nn (nI (2 ^ nf)) K fuelN 0 M0 = some (1, um (setR M0 10 r) 0 23 (nI j))) ∨ ((∀ j, j < 2 ^ nf → ¬ sP g kk no nf so al nn u j) ∧ ∃ r, FX8_layNights_L27 al nn (nI (2 ^ nf)) K fuelN 0 M0 = K (setR M0 10 r)) := by
  obtain ⟨g0, g1, g2, g3, hk, hno, hnf, -, -, hF⟩ := id C
  have p256 : 2 ^ nf ≤ 2 ^ 8 := Nat.pow_le_pow_right (by decide) hnf
  have s1 : ∀ r, (setR M0 10 r).1 1 = g := fun r => by rw [setR_n _ _ (by decide)]; exact eg
  have s3 : ∀ r, (setR M0 10 r).1 3 = u := fun r => by rw [setR_n _ _ (by decide)]; exact eu
  have L : ∀ (d i k : Nat) (r : Nat → Int32), i + d = 2 ^ nf → d < k → (∀ j, j < i → ¬ sP g kk no nf so al nn u j) → (∃ j r2, j < 2 ^ nf ∧ sP g kk no nf so al nn u j ∧ (∀ i, i < j → ¬ sP g kk no nf so al nn u i) ∧ FX8_layNights_L27 al nn (nI (2 ^ nf)) K k (nI i) (setR M0 10 r) = some (1, um (setR M0 10 r2) 0 23 (nI j))) ∨ ((∀ j, j < 2 ^ nf → ¬ sP g kk no nf so al nn u j) ∧ ∃ r2, FX8_layNights_L27 al nn (nI (2 ^ nf)) K k (nI i) (setR M0 10 r) = K (setR M0 10 r2)) := by
    intro d
    induction d with
    | zero =>
      intro i k r hi hk2 hno2
      obtain ⟨k, rfl⟩ : ∃ z, k = z + 1 := ⟨k - 1, by omega⟩
      refine Or.inr ⟨fun j hj => hno2 j (by omega), r, ?_⟩
      rw [FX8_layNights_L27, if_pos (nI_le (by omega) (by omega))]
    | succ d ih =>
      intro i k r hi hk2 hno2
      obtain ⟨k, rfl⟩ : ∃ z, k = z + 1 := ⟨k - 1, by omega⟩
      have m13 : (setR M0 10 r).1 3 13 = so := by rw [setR_n _ _ (by decide)]; exact hso
      rw [FX8_layNights_L27, if_neg (nI_ge (by omega) (by omega)), m13, may_m (kk := kk) (no := no) (by rw [s1]; exact g0) (by rw [s1]; exact g1) hk hno (by omega), bo_s, jn_s, nI_1]
      by_cases qm : sMay kk no so i
      · rw [if_pos qm, if_neg (show ¬ (1 : Int32) = 0 by decide)]
        obtain ⟨r2, t1, t2⟩ := tonight_m (M := setR M0 10 r) (u := u) (sheet := nI i) (by rw [s1]; exact C) (fun k _ => by rw [s3]) R hN
        rw [s1, setR_setR] at t1
        rw [s1] at t2
        rw [t1, bd_s, m_want (c := 10) (by decide) (s1 r2) g1 hno (v := (sT g nf i u).2) (fun o ho => by rw [setR_c]; exact t2 o (by omega)) ha, bo_s]
        by_cases qw : sW g no al nn (sT g nf i u).2
        · rw [if_pos qw, if_neg (show ¬ (1 : Int32) = 0 by decide)]
          exact Or.inl ⟨i, r2, by omega, ⟨qm, qw⟩, hno2, rfl⟩
        · rw [if_neg qw, if_pos rfl]
          refine ih (i + 1) k r2 (by omega) (by omega) (fun j hj z => ?_)
          by_cases hji : j = i
          · subst hji; exact qw z.2
          · exact hno2 j (by omega) z
      · rw [if_neg qm, if_pos rfl]
        refine ih (i + 1) k r (by omega) (by omega) (fun j hj z => ?_)
        by_cases hji : j = i
        · subst hji; exact qm z.1
        · exact hno2 j (by omega) z
  have h := L (2 ^ nf) 0 fuelN (M0.1 10) (by omega) (show 2 ^ nf < 100000 by omega) (fun j hj => by omega)
  rw [setR_self] at h
  exact h
