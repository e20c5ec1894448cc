/-! ===== cannot ===== -/
def sOr (p : Nat → Prop) [DecidablePred p] (f : Nat → Int32) (a : Int32) : Nat → Int32
  | 0 => a
  | n + 1 => if p n then sOr p f a n ||| f n else sOr p f a n
theorem sOr_or (p : Nat → Prop) [DecidablePred p] (f : Nat → Int32) (a b : Int32) : ∀ n, sOr p f (a ||| b) n = a ||| sOr p f b n := by
  intro n
  induction n with
  | zero => rfl
  | succ n ih =>
    unfold sOr
    rw [ih]
    by_cases h : p n
    · rw [if_pos h, if_pos h, Int32.or_assoc]
    · rw [if_neg h, if_neg h]
def sIn (no : Nat) (a : Int32) : Prop := ∃ s, s < 2 ^ no ∧ a = nI s
theorem sIn_or {no : Nat} {a b : Int32} (ha : sIn no a) (hb : sIn no b) : sIn no (a ||| b) := by
  obtain ⟨s, hs, rfl⟩ := ha
  obtain ⟨t, ht, rfl⟩ := hb
  exact ⟨s ||| t, Nat.or_lt_two_pow hs ht, or_n s t⟩
theorem sIn_sOr {no : Nat} {p : Nat → Prop} [DecidablePred p] {f : Nat → Int32} {a : Int32} (ha : sIn no a) (hf : ∀ i, sIn no (f i)) : ∀ n, sIn no (sOr p f a n) := by
  intro n
  induction n with
  | zero => exact ha
  | succ n ih =>
    unfold sOr
    by_cases h : p n
    · rw [if_pos h]; exact sIn_or ih (hf n)
    · rw [if_neg h]; exact ih
theorem all_or : ∀ no, no < 6 → ∀ s, s < 32 → s < 2 ^ no → (nI (2 ^ no) - 1) ||| nI s = nI (2 ^ no) - 1 := by decide +kernel
theorem sOr_all {no : Nat} (hno : no ≤ 5) {p : Nat → Prop} [DecidablePred p] {f : Nat → Int32} {a : Int32} (hf : ∀ i, sIn no (f i)) {i : Nat} (h : sOr p f a i = nI (2 ^ no) - 1) : ∀ d, sOr p f a (i + d) = nI (2 ^ no) - 1 := by
  intro d
  induction d with
  | zero => exact h
  | succ d ih =>
    show (if p (i + d) then sOr p f a (i + d) ||| f (i + d) else sOr p f a (i + d)) = _
    rw [ih]
    by_cases q : p (i + d)
    · rw [if_pos q]
      obtain ⟨s, hs, es⟩ := hf (i + d)
      have p32 : 2 ^ no ≤ 2 ^ 5 := Nat.pow_le_pow_right (by decide) hno
      rw [es, all_or no (by omega) s (by omega) hs]
    · rw [if_neg q]
theorem sCv_In {no : Nat} (hno : no ≤ 5) (g u : Nat → Int32) : sIn no (sCv g u no) := sCv_I g u no hno
/-- what is reached behind a first sheet b -/
abbrev sO1 (g : Nat → Int32) (no nf : Nat) (u : Nat → Int32) (j : Nat) : Int32 := sCv g (sT g nf j u).2 no
abbrev sO2 (g : Nat → Int32) (kk no nf : Nat) (so : Int32) (u : Nat → Int32) (b : Nat) : Int32 := sOr (fun j => sMay kk no so j) (sO1 g no nf (sT g nf b u).2) (sO1 g no nf u b) (2 ^ nf)
theorem x_behind {M0 : XM} {g u : Nat → Int32} {so a : Int32} {kk no nf hh N : Nat} (C : CityI g kk no nf hh) (X : CityX M0 3 g nf (byG g)) (hso : M0 17 2 = so) (B : BelX M0 20 u) (Rx : RdX M0 20 u) (R : RdI u N) (hN : N + 8 < 2 ^ 30) (K : Int32 → XM → Option (Int32 × XM)) : ∃ M2, FrX 23 M0 M2 ∧ FX7_reachedBehind_L37 K fuelN a 0 M0 = K (sOr (fun j => sMay kk no so j) (sO1 g no nf u) a (2 ^ nf)) M2 := by
  obtain ⟨g0, g1, g2, g3, hk, hno, hnf, -, -, hF⟩ := id C
  have p256 : 2 ^ nf ≤ 2 ^ 8 := Nat.pow_le_pow_right (by decide) hnf
  have L : ∀ (d i k : Nat) (M : XM), i + d = 2 ^ nf → d < k → FrX 23 M0 M → ∃ M2, FrX 23 M0 M2 ∧ FX7_reachedBehind_L37 K k (sOr (fun j => sMay kk no so j) (sO1 g no nf u) a i) (nI i) M = K (sOr (fun j => sMay kk no so j) (sO1 g no nf u) a (2 ^ nf)) M2 := by
    intro d
    induction d with
    | zero =>
      intro i k M hi hk2 F
      obtain ⟨k, rfl⟩ : ∃ z, k = z + 1 := ⟨k - 1, by omega⟩
      have XC := CityX_fr (show x_is3 23 by decide) (show x_is1 3 by decide) F X
      have e : i = 2 ^ nf := by omega
      subst e
      refine ⟨M, F, ?_⟩
      rw [FX7_reachedBehind_L37, XC.2.2.1, g2, shl1 nf (by omega), if_pos (nI_le (by omega) (by omega))]
    | succ d ih =>
      intro i k M hi hk2 F
      obtain ⟨k, rfl⟩ : ∃ z, k = z + 1 := ⟨k - 1, by omega⟩
      have XC := CityX_fr (show x_is3 23 by decide) (show x_is1 3 by decide) F X
      have m17 : M 17 2 = so := by rw [F 17 (by omega) (by omega) (by omega)]; exact hso
      rw [FX7_reachedBehind_L37, XC.2.2.1, g2, shl1 nf (by omega), if_neg (nI_ge (by omega) (by omega)), may_x (kk := kk) (no := no) (by rw [XC.1]; exact g0) (by rw [XC.2.1]; exact g1) m17 hk hno (by omega), bo_s, jn_s, nI_1]
      by_cases qm : sMay kk no so i
      · rw [if_pos qm, if_neg (show ¬ (1 : Int32) = 0 by decide)]
        obtain ⟨M1, M2, e1, e2, s1, s2, s3, f2⟩ := try_x (M := M) (sheet := nI i) (c0 := 23) (c1 := 20) (d := 3) (by decide) (by decide) (by decide) (by decide) C XC (fun o ho => by rw [F _ (by omega) (by omega) (by omega)]; exact B o ho) (fun o ho => by rw [F _ (by omega) (by omega) (by omega)]; exact Rx o ho) R hN
        have F2 : FrX 23 M0 M2 := fun a q1 q2 q3 => (f2 a q1 q2 q3).trans (F a q1 q2 q3)
        have XC2 := CityX_fr (show x_is3 23 by decide) (show x_is1 3 by decide) F2 X
        obtain ⟨M3, y1, y2⟩ := ih (i + 1) k M2 (by omega) (by omega) F2
        rw [sOr, if_pos qm] at y2
        exact ⟨M3, y1, by rw [e1, bo_s, e2, bo_s, x_conv (c := 23) (by decide) (by rw [XC2.2.1]; exact g1) XC2.2.2.2.1 hno s1, bo_s]; exact y2⟩
      · rw [if_neg qm, if_pos rfl]
        obtain ⟨M3, y1, y2⟩ := ih (i + 1) k M (by omega) (by omega) F
        rw [sOr, if_neg qm] at y2
        exact ⟨M3, y1, y2⟩
  exact L (2 ^ nf) 0 fuelN M0 (by omega) (show 2 ^ nf < 100000 by omega) (fun _ _ _ _ => rfl)
theorem x_cannot {M0 : XM} {g u : Nat → Int32} {so a : Int32} {kk no nf hh N : Nat} (C : CityI g kk no nf hh) (X : CityX M0 3 g nf (byG g)) (hso : M0 17 2 = so) (B : BelX M0 17 u) (Rx : RdX M0 17 u) (R : RdI u N) (hN : N + 16 < 2 ^ 30) (K : Int32 → XM → Option (Int32 × XM)) : ∃ M2, ScrX M0 M2 ∧ FX7_cannot_L26 (nI (2 ^ no) - 1) K fuelN a 0 M0 = K (sOr (fun j => sMay kk no so j) (sO2 g kk no nf so u) a (2 ^ nf)) M2 := by
  obtain ⟨g0, g1, g2, g3, hk, hno, hnf, -, -, hF⟩ := id C
  have p256 : 2 ^ nf ≤ 2 ^ 8 := Nat.pow_le_pow_right (by decide) hnf
  have hin : ∀ b, sIn no (sO2 g kk no nf so u b) := fun b => sIn_sOr (sCv_In hno _ _) (fun i => sCv_In hno _ _) _
  have L : ∀ (d i k : Nat) (M : XM), i + d = 2 ^ nf → d < k → ScrX M0 M → ∃ M2, ScrX M0 M2 ∧ FX7_cannot_L26 (nI (2 ^ no) - 1) K k (sOr (fun j => sMay kk no so j) (sO2 g kk no nf so u) a i) (nI i) M = K (sOr (fun j => sMay kk no so j) (sO2 g kk no nf so u) a (2 ^ nf)) M2 := by
    intro d
    induction d with
    | zero =>
      intro i k M hi hk2 F
      obtain ⟨k, rfl⟩ : ∃ z, k = z + 1 := ⟨k - 1, by omega⟩
      have XC := CityX_eq (M2 := M) (fun a _ _ => F a (by omega)) X
      have e : i = 2 ^ nf := by omega
      subst e
      refine ⟨M, F, ?_⟩
      rw [FX7_cannot_L26, XC.2.2.1, g2, shl1 nf (by omega), if_pos (nI_le (by omega) (by omega))]
    | succ d ih =>
      intro i k M hi hk2 F
      obtain ⟨k, rfl⟩ : ∃ z, k = z + 1 := ⟨k - 1, by omega⟩
      have XC := CityX_eq (M2 := M) (fun a _ _ => F a (by omega)) X
      have m17 : M 17 2 = so := by rw [F 17 (by omega)]; exact hso
      rw [FX7_cannot_L26, XC.2.2.1, g2, shl1 nf (by omega), if_neg (nI_ge (by omega) (by omega))]
      by_cases qe : sOr (fun j => sMay kk no so j) (sO2 g kk no nf so u) a i = nI (2 ^ no) - 1
      · have h2 := sOr_all hno hin qe (d + 1)
        rw [hi] at h2
        exact ⟨M, F, by rw [if_pos qe, qe, h2]⟩
      rw [if_neg qe, may_x (kk := kk) (no := no) (by rw [XC.1]; exact g0) (by rw [XC.2.1]; exact g1) m17 hk hno (by omega), bo_s, jn_s, nI_1]
      by_cases qm : sMay kk no so i
      · rw [if_pos qm, if_neg (show ¬ (1 : Int32) = 0 by decide)]
        obtain ⟨M1, M2, e1, e2, s1, s2, s3, f2⟩ := try_x (M := M) (sheet := nI i) (c0 := 20) (c1 := 17) (d := 3) (by decide) (by decide) (by decide) (by decide) C XC (fun o ho => by rw [F _ (by omega)]; exact B o ho) (fun o ho => by rw [F _ (by omega)]; exact Rx o ho) R (by omega)
        have F2 : ScrX M0 M2 := ScrX_tr F (ScrX_fr (Or.inl rfl) f2)
        have XC2 := CityX_eq (M2 := M2) (fun a _ _ => F2 a (by omega)) X
        have R2 := (sGo_inv (by_ := byG g) (sheet := nI i) (q := (-1, u)) C R nf (Nat.le_refl _)).1
        obtain ⟨M3, z1, z2⟩ := x_behind (M0 := M2) (g := g) (u := (sT g nf i u).2) (so := so) (a := sO1 g no nf u i) C XC2 (by rw [F2 17 (by omega)]; exact hso) s1 s2 R2 (by omega) (fun (k2_4 : Int32) (M_5 : XM) => some (k2_4, M_5))
        have F3 : ScrX M0 M3 := ScrX_tr F2 (ScrX_fr (Or.inr rfl) z1)
        obtain ⟨M4, y1, y2⟩ := ih (i + 1) k M3 (by omega) (by omega) F3
        rw [sOr, if_pos qm] at y2
        refine ⟨M4, y1, ?_⟩
        have e4 : FX7_reachedBehind (nI i) M = some (sO2 g kk no nf so u i, M3) := by
          unfold FX7_reachedBehind
          rw [e1, bo_s, e2, bo_s, x_conv (c := 20) (by decide) (by rw [XC2.2.1]; exact g1) XC2.2.2.2.1 hno s1, bo_s]
          exact z2
        rw [e4, bd_s]
        exact y2
      · rw [if_neg qm, if_pos rfl]
        obtain ⟨M3, y1, y2⟩ := ih (i + 1) k M (by omega) (by omega) F
        rw [sOr, if_neg qm] at y2
        exact ⟨M3, y1, y2⟩
  exact L (2 ^ nf) 0 fuelN M0 (by omega) (show 2 ^ nf < 100000 by omega) (ScrX_rf _)
theorem m_behind {M0 : MM} {g u : Nat → Int32} {so a b3 : Int32} {kk no nf hh N : Nat} (eg : M0.1 1 = g) (C : CityI g kk no nf hh) (hso : M0.1 3 13 = so) (eu : ∀ k, k < 17 → M0.1 10 k = u k) (R : RdI u N) (hN : N + 8 < 2 ^ 30) (K : Int32 → MM → Option (Int32 × MM)) : ∃ r, FX8_cannot_L61 (nI (2 ^ nf)) b3 K fuelN a 0 M0 = K (sOr (fun j => sMay kk no so j) (sO1 g no nf u) a (2 ^ nf)) (setR M0 11 r) := by
  obtain ⟨g0, g1, g2, g3, hk, hno, hnf, -, -, hF⟩ := id C
  have p256 : 2 ^ nf ≤ 2 ^ 8 := Nat.pow_le_pow_right (by decide) hnf
  have s1 : ∀ r, (setR M0 11 r).1 1 = g := fun r => by rw [setR_n _ _ (by decide)]; exact eg
  have s3 : ∀ r, (setR M0 11 r).1 10 = M0.1 10 := fun r => setR_n _ _ (by decide)
  have L : ∀ (d i k : Nat) (r : Nat → Int32), i + d = 2 ^ nf → d < k → ∃ r2, FX8_cannot_L61 (nI (2 ^ nf)) b3 K k (sOr (fun j => sMay kk no so j) (sO1 g no nf u) a i) (nI i) (setR M0 11 r) = K (sOr (fun j => sMay kk no so j) (sO1 g no nf u) a (2 ^ nf)) (setR M0 11 r2) := by
    intro d
    induction d with
    | zero =>
      intro i k r hi hk2
      obtain ⟨k, rfl⟩ : ∃ z, k = z + 1 := ⟨k - 1, by omega⟩
      have e : i = 2 ^ nf := by omega
      subst e
      refine ⟨r, ?_⟩
      rw [FX8_cannot_L61, if_pos (nI_le (by omega) (by omega))]
    | succ d ih =>
      intro i k r hi hk2
      obtain ⟨k, rfl⟩ : ∃ z, k = z + 1 := ⟨k - 1, by omega⟩
      have m13 : (setR M0 11 r).1 3 13 = so := by rw [setR_n _ _ (by decide)]; exact hso
      rw [FX8_cannot_L61, if_neg (nI_ge (by omega) (by omega)), m13, may_m (kk := kk) (no := no) (by rw [s1]; exact g0) (by rw [s1]; exact g1) hk hno (by omega), bo_s, jn_s, nI_1]
      by_cases qm : sMay kk no so i
      · rw [if_pos qm, if_neg (show ¬ (1 : Int32) = 0 by decide)]
        obtain ⟨r0, r2, t0, t1, t2⟩ := try_m (M := setR M0 11 r) (c := 10) (e := 11) (u := u) (sheet := nI i) (by decide) (by decide) (by decide) (by rw [s1]; exact C) (fun k hk => by rw [s3]; exact eu k hk) R hN
        rw [s1, setR_setR, setR_setR] at t1
        rw [s1] at t2
        rw [setR_setR] at t0
        obtain ⟨r3, y2⟩ := ih (i + 1) k r2 (by omega) (by omega)
        rw [sOr, if_pos qm] at y2
        have e5 : sCv g r2 no = sO1 g no nf u i := sCv_eq no (fun o ho => t2 o (by omega))
        refine ⟨r3, ?_⟩
        rw [t0, bo_s, t1, bd_s, m_conv (c := 11) (by decide) (by rw [s1]; exact g1) hno, bo_s, s1, setR_c, e5]
        exact y2
      · rw [if_neg qm, if_pos rfl]
        obtain ⟨r3, y2⟩ := ih (i + 1) k r (by omega) (by omega)
        rw [sOr, if_neg qm] at y2
        exact ⟨r3, y2⟩
  obtain ⟨r, h⟩ := L (2 ^ nf) 0 fuelN (M0.1 11) (by omega) (show 2 ^ nf < 100000 by omega)
  rw [setR_self] at h
  exact ⟨r, h⟩
theorem m_cannot {M0 : MM} {g u : Nat → Int32} {so a : Int32} {kk no nf hh N : Nat} (eg : M0.1 1 = g) (C : CityI g kk no nf hh) (hso : M0.1 3 13 = so) (eu : M0.1 3 = u) (R : RdI u N) (hN : N + 16 < 2 ^ 30) (K : Int32 → MM → Option (Int32 × MM)) : ∃ M2, FrM M0 M2 ∧ FX8_cannot_L20 (nI (2 ^ nf)) K fuelN a 0 M0 = K (sOr (fun j => sMay kk no so j) (sO2 g kk no nf so u) a (2 ^ nf)) M2 := by
  obtain ⟨g0, g1, g2, g3, hk, hno, hnf, -, -, hF⟩ := id C
  have p256 : 2 ^ nf ≤ 2 ^ 8 := Nat.pow_le_pow_right (by decide) hnf
  have L : ∀ (d i k : Nat) (M : MM), i + d = 2 ^ nf → d < k → FrM M0 M → ∃ M2, FrM M0 M2 ∧ FX8_cannot_L20 (nI (2 ^ nf)) K k (sOr (fun j => sMay kk no so j) (sO2 g kk no nf so u) a i) (nI i) M = K (sOr (fun j => sMay kk no so j) (sO2 g kk no nf so u) a (2 ^ nf)) M2 := by
    intro d
    induction d with
    | zero =>
      intro i k M hi hk2 F
      obtain ⟨k, rfl⟩ : ∃ z, k = z + 1 := ⟨k - 1, by omega⟩
      have e : i = 2 ^ nf := by omega
      subst e
      refine ⟨M, F, ?_⟩
      rw [FX8_cannot_L20, if_pos (nI_le (by omega) (by omega))]
    | succ d ih =>
      intro i k M hi hk2 F
      obtain ⟨k, rfl⟩ : ∃ z, k = z + 1 := ⟨k - 1, by omega⟩
      have s1 : M.1 1 = g := (F.1 1 (by decide) (by decide)).trans eg
      have s3 : M.1 3 = u := (F.1 3 (by decide) (by decide)).trans eu
      have m13 : M.1 3 13 = so := by rw [s3, ← eu]; exact hso
      rw [FX8_cannot_L20, if_neg (nI_ge (by omega) (by omega)), m13, may_m (kk := kk) (no := no) (by rw [s1]; exact g0) (by rw [s1]; exact g1) hk hno (by omega), bo_s, jn_s, nI_1]
      by_cases qm : sMay kk no so i
      · rw [if_pos qm, if_neg (show ¬ (1 : Int32) = 0 by decide)]
        obtain ⟨r2, t1, t2⟩ := tonight_m (M := M) (u := u) (sheet := nI i) (by rw [s1]; exact C) (fun k _ => by rw [s3]) R (by omega)
        rw [s1] at t1 t2
        have R2 := (sGo_inv (by_ := byG g) (sheet := nI i) (q := (-1, u)) C R nf (Nat.le_refl _)).1
        have s1' : (setR M 10 r2).1 1 = g := by rw [setR_n _ _ (by decide)]; exact s1
        obtain ⟨r3, z⟩ := m_behind (M0 := setR M 10 r2) (g := g) (u := (sT g nf i u).2) (so := so) (a := sOr (fun j => sMay kk no so j) (sO2 g kk no nf so u) a i ||| sO1 g no nf u i) (b3 := nI i) s1' C (by rw [setR_n _ _ (by decide)]; exact m13) (fun k hk => by rw [setR_c]; exact t2 k hk) R2 (by omega) (fun (j1_9 : Int32) (M_10 : MM) => FX8_cannot_L20 (nI (2 ^ nf)) K k j1_9 (nI (i + 1)) M_10)
        obtain ⟨M4, y1, y2⟩ := ih (i + 1) k _ (by omega) (by omega) (FrM_set (FrM_set F (Or.inl rfl) r2) (Or.inr rfl) r3)
        rw [sOr, if_pos qm] at y2
        rw [sOr_or] at z
        have e5 : sCv g r2 no = sO1 g no nf u i := sCv_eq no (fun o ho => t2 o (by omega))
        refine ⟨M4, y1, ?_⟩
        rw [t1, bd_s, m_conv (c := 10) (by decide) (by rw [s1']; exact g1) hno, bo_s, s1', setR_c, e5]
        exact z.trans y2
      · rw [if_neg qm, if_pos rfl]
        obtain ⟨M4, y1, y2⟩ := ih (i + 1) k M (by omega) (by omega) F
        rw [sOr, if_neg qm] at y2
        exact ⟨M4, y1, y2⟩
  exact L (2 ^ nf) 0 fuelN M0 (by omega) (show 2 ^ nf < 100000 by omega) ⟨fun _ _ _ => rfl, rfl⟩
theorem sim_cannot : Sim_cannot RR := by
  intro Mx Mm h
  obtain ⟨kk, no, nf, hh, H⟩ := h
  obtain ⟨a1, a2, a3, a4, a5, a6, a7, a8, a9, a10, a11⟩ := id H
  obtain ⟨c0, c1, c2, c3, c4, hno, hnf, -, -, hF⟩ := id a1
  obtain ⟨b0, b1, b2, b3, bF⟩ := id a2
  obtain ⟨N, hN, MN⟩ := mindN_of a4
  unfold FX7_cannot FX8_cannot
  rw [x_conv (c := 17) (g := Mm.1 1) (by decide) (by rw [b1]; exact c1) b3 hno a3.1, m_conv (c := 3) (by decide) c1 hno, bo_s, bo_s, b1, c1, c2, shl1 nf (by omega), shl1 no (by omega)]
  obtain ⟨M2, y1, y2⟩ := x_cannot (M0 := Mx) (so := Mm.1 3 13) (a := sCv (Mm.1 1) (Mm.1 3) no) a1 a2 a3.2.2.1 a3.1 a3.2.1 MN.2.2.1 (by omega) (fun (k2_2 : Int32) (M_3 : XM) => some (((nI (2 ^ no) - 1) &&& (k2_2 ^^^ (-1))), M_3))
  obtain ⟨M4, z1, z2⟩ := m_cannot (M0 := Mm) (a := sCv (Mm.1 1) (Mm.1 3) no) rfl a1 rfl rfl MN.2.2.1 (by omega) (fun (k1_2 : Int32) (M_3 : MM) => some ((((1 <<< ((M_3.1 1 1) &&& 31)) - 1) &&& (k1_2 ^^^ (-1))), M_3))
  refine ⟨_, _, _, y2, z2.trans ?_, kk, no, nf, hh, RRk_scr y1 (ScrM_fr z1) H⟩
  show some (((1 : Int32) <<< (M4.1 1 1 &&& 31) - 1) &&& _, M4) = _
  rw [z1.1 1 (by decide) (by decide), c1, shl1 no (by omega)]
