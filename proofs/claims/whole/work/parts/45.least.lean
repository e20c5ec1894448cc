/-! ===== least ===== -/
/-- the best of a set of missing sets: the least cost, then the least number; v3 its cost, v4 itself -/
def Best (S : Nat → Prop) (c : Nat → Nat) (v3 v4 : Int32) : Prop := (v3 = -1 ∧ v4 = -1 ∧ ∀ t, ¬ S t) ∨ ∃ t, S t ∧ t < 256 ∧ c t ≤ 72 ∧ v4 = nI t ∧ v3 = nI (c t) ∧ ∀ t', S t' → c t < c t' ∨ (c t = c t' ∧ t ≤ t')
theorem nI_m1n {n : Nat} (h : n < 2 ^ 31) : ¬ nI n = -1 := fun z => absurd (show (nI n).toInt = -1 by rw [z]; rfl) (by rw [nI_toInt h]; omega)
/-- convinces of o within kk facts -/
abbrev sK (g : Nat → Int32) (kk nf o : Nat) (u : Nat → Int32) (s : Nat) : Prop := pc s ≤ kk ∧ ¬ (sT g nf s u).2 o < g 3
theorem x_convOf {M : XM} {g u : Nat → Int32} {kk no nf hh N o s : Nat} (C : CityI g kk no nf hh) (X : CityX M 3 g nf (byG g)) (B : BelX M 17 u) (Rx : RdX M 17 u) (R : RdI u N) (hN : N + 8 < 2 ^ 30) (ho : o < no) : ∃ M2, FX7_convincesOf (nI s) (nI o) M = some ((if ¬ (sT g nf s u).2 o < g 3 then 1 else 0), M2) ∧ FrX 20 M M2 := by
  obtain ⟨g0, g1, g2, g3, hk, hno, hnf, -, -, hF⟩ := id C
  obtain ⟨M1, M2, e1, e2, s1, s2, s3, f2⟩ := try_x (M := M) (sheet := nI s) (c0 := 20) (c1 := 17) (d := 3) (by decide) (by decide) (by decide) (by decide) C X B Rx R hN
  have XC := CityX_fr (show x_is3 20 by decide) (show x_is1 3 by decide) f2 X
  refine ⟨M2, ?_, f2⟩
  unfold FX7_convincesOf
  rw [e1, bo_s, e2, bo_s, x_conv (c := 20) (by decide) (by rw [XC.2.1]; exact g1) XC.2.2.2.1 hno s1, bo_s, has_x _ (by omega), bo_s]
  by_cases h : ¬ (sT g nf s u).2 o < g 3
  · rw [if_pos h, if_pos ((sCv_has hno ho).mpr h), if_pos (show bo01 1 from Or.inr rfl)]
  · rw [if_neg h, if_neg (fun z => h ((sCv_has hno ho).mp z)), if_pos (show bo01 0 from Or.inl rfl)]
theorem x_least {M0 : XM} {g u : Nat → Int32} {kk no nf hh N o so : Nat} (C : CityI g kk no nf hh) (X : CityX M0 3 g nf (byG g)) (hso : M0 17 2 = nI so) (hs : so < 256) (B : BelX M0 17 u) (Rx : RdX M0 17 u) (R : RdI u N) (hN : N + 8 < 2 ^ 30) (ho : o < no) (b2 : Int32) (K : Int32 → Int32 → XM → Option (Int32 × XM)) : ∃ (v3 v4 : Int32) (M2 : XM), Best (fun t => ∃ s, s < 2 ^ nf ∧ sK g kk nf o u s ∧ t = mN so s) (fun t => sC (cfG g) t nf) v3 v4 ∧ FrX 20 M0 M2 ∧ FX7_least_L34 (nI o) b2 K fuelN (-1) (-1) 0 M0 = K v3 v4 M2 := by
  obtain ⟨g0, g1, g2, g3, hk, hno, hnf, -, -, hF⟩ := id C
  have p256 : 2 ^ nf ≤ 2 ^ 8 := Nat.pow_le_pow_right (by decide) hnf
  have c72 : ∀ t, sC (cfG g) t nf ≤ 72 := fun t => by
    have := sC_le (t := t) (fun f hf => (cfG_ok C hf).2) nf (Nat.le_refl _)
    omega
  have L : ∀ (d i k : Nat) (M : XM) (v3 v4 : Int32), i + d = 2 ^ nf → d < k → FrX 20 M0 M → Best (fun t => ∃ s, s < i ∧ sK g kk nf o u s ∧ t = mN so s) (fun t => sC (cfG g) t nf) v3 v4 → ∃ (w3 w4 : Int32) (M2 : XM), Best (fun t => ∃ s, s < 2 ^ nf ∧ sK g kk nf o u s ∧ t = mN so s) (fun t => sC (cfG g) t nf) w3 w4 ∧ FrX 20 M0 M2 ∧ FX7_least_L34 (nI o) b2 K k v3 v4 (nI i) M = K w3 w4 M2 := by
    intro d
    induction d with
    | zero =>
      intro i k M v3 v4 hi hk2 F hb
      obtain ⟨k, rfl⟩ : ∃ z, k = z + 1 := ⟨k - 1, by omega⟩
      have XC := CityX_fr (show x_is3 20 by decide) (show x_is1 3 by decide) F X
      have e : i = 2 ^ nf := by omega
      subst e
      refine ⟨v3, v4, M, hb, F, ?_⟩
      rw [FX7_least_L34, XC.2.2.1, g2, shl1 nf (by omega), if_pos (nI_le (by omega) (by omega))]
    | succ d ih =>
      intro i k M v3 v4 hi hk2 F hb
      obtain ⟨k, rfl⟩ : ∃ z, k = z + 1 := ⟨k - 1, by omega⟩
      have XC := CityX_fr (show x_is3 20 by decide) (show x_is1 3 by decide) F X
      have m17 : M 17 2 = nI so := by rw [F 17 (by decide) (by decide) (by decide)]; exact hso
      have hm : mN so i < 256 := by have := mN_le so i; omega
      obtain ⟨Bd, eB⟩ : ∃ Bd : Int32 → Option (Int32 × XM), Bd = fun s_15 => (if s_15 = 0 then FX7_least_L34 (nI o) b2 K k v3 v4 (nI i + 1) M else bo (FX1_fits 3 (nI i) M) (fun (r_20 : Int32) => (if r_20 = 0 then FX7_least_L34 (nI o) b2 K k v3 v4 (nI i + 1) M else bd (FX7_convincesOf (nI i) (nI o) M) (fun (r_22 : Int32) (M_23 : XM) => (if r_22 = 0 then FX7_least_L34 (nI o) b2 K k v3 v4 (nI i + 1) M_23 else FX7_least_L34 (nI o) b2 K k (nI (sC (cfG g) (mN so i) nf)) (nI (mN so i)) (nI i + 1) M_23))))) := ⟨_, rfl⟩
      have hB : FX7_least_L34 (nI o) b2 K (k + 1) v3 v4 (nI i) M = (if v3 = (-1) then Bd 1 else if nI (sC (cfG g) (mN so i) nf) < v3 then Bd 1 else if nI (sC (cfG g) (mN so i) nf) = v3 then (if v4 ≤ nI (mN so i) then Bd 0 else Bd 1) else Bd 0) := by
        rw [FX7_least_L34, XC.2.2.1, g2, shl1 nf (by omega), if_neg (nI_ge (by omega) (by omega)), m17, and_not (by omega) hs, cost_x C XC hm, bo_s, eB]
        rfl
      have cm := c72 (mN so i)
      have hst : ∀ v, (∃ w3 w4 M2, Best (fun t => ∃ s, s < 2 ^ nf ∧ sK g kk nf o u s ∧ t = mN so s) (fun t => sC (cfG g) t nf) w3 w4 ∧ FrX 20 M0 M2 ∧ Bd v = K w3 w4 M2) → FX7_least_L34 (nI o) b2 K (k + 1) v3 v4 (nI i) M = Bd v → ∃ w3 w4 M2, Best (fun t => ∃ s, s < 2 ^ nf ∧ sK g kk nf o u s ∧ t = mN so s) (fun t => sC (cfG g) t nf) w3 w4 ∧ FrX 20 M0 M2 ∧ FX7_least_L34 (nI o) b2 K (k + 1) v3 v4 (nI i) M = K w3 w4 M2 := by
        intro v ⟨w3, w4, M2, y1, y2, y3⟩ h
        exact ⟨w3, w4, M2, y1, y2, h.trans y3⟩
      -- not better: nothing changes
      have stay : (¬ sK g kk nf o u i ∨ ∃ t, (∃ s, s < i ∧ sK g kk nf o u s ∧ t = mN so s) ∧ v4 = nI t ∧ v3 = nI (sC (cfG g) t nf) ∧ t < 256 ∧ (sC (cfG g) t nf < sC (cfG g) (mN so i) nf ∨ (sC (cfG g) t nf = sC (cfG g) (mN so i) nf ∧ t ≤ mN so i))) → Best (fun t => ∃ s, s < i + 1 ∧ sK g kk nf o u s ∧ t = mN so s) (fun t => sC (cfG g) t nf) v3 v4 := by
        intro hcase
        rcases hb with ⟨z1, z2, z3⟩ | ⟨t, ⟨s, t1, t2, t3⟩, t4, t5, t6, t7, t8⟩
        · rcases hcase with hn | ⟨t, ht, e4, e3, -⟩
          · refine Or.inl ⟨z1, z2, fun t ⟨s, q1, q2, q3⟩ => ?_⟩
            by_cases hsi : s = i
            · subst hsi; exact hn q2
            · exact z3 t ⟨s, by omega, q2, q3⟩
          · exact absurd ht (z3 t)
        · refine Or.inr ⟨t, ⟨s, by omega, t2, t3⟩, t4, t5, t6, t7, fun t' ⟨s', q1, q2, q3⟩ => ?_⟩
          by_cases hsi : s' = i
          · subst hsi
            rcases hcase with hn | ⟨t0, ht, e4, e3, h256, hle⟩
            · exact absurd q2 hn
            · have e : t0 = t := (nI_eq (by omega) (by omega)).mp (e4.symm.trans t6)
              subst e
              rw [q3]
              exact hle
          · exact t8 t' ⟨s', by omega, q2, q3⟩
      -- better
      have take2 : sK g kk nf o u i → (∀ t, (∃ s, s < i ∧ sK g kk nf o u s ∧ t = mN so s) → sC (cfG g) (mN so i) nf < sC (cfG g) t nf ∨ (sC (cfG g) (mN so i) nf = sC (cfG g) t nf ∧ mN so i ≤ t)) → Best (fun t => ∃ s, s < i + 1 ∧ sK g kk nf o u s ∧ t = mN so s) (fun t => sC (cfG g) t nf) (nI (sC (cfG g) (mN so i) nf)) (nI (mN so i)) := by
        intro hK hall
        refine Or.inr ⟨mN so i, ⟨i, by omega, hK, rfl⟩, hm, cm, rfl, rfl, fun t' ⟨s', q1, q2, q3⟩ => ?_⟩
        by_cases hsi : s' = i
        · subst hsi; rw [q3]; exact Or.inr ⟨rfl, Nat.le_refl _⟩
        · exact hall t' ⟨s', by omega, q2, q3⟩
      have B0 : Best (fun t => ∃ s, s < i + 1 ∧ sK g kk nf o u s ∧ t = mN so s) (fun t => sC (cfG g) t nf) v3 v4 → ∃ w3 w4 M2, Best (fun t => ∃ s, s < 2 ^ nf ∧ sK g kk nf o u s ∧ t = mN so s) (fun t => sC (cfG g) t nf) w3 w4 ∧ FrX 20 M0 M2 ∧ Bd 0 = K w3 w4 M2 := by
        intro hb2
        rw [eB]
        show ∃ w3 w4 M2, _ ∧ _ ∧ (if (0 : Int32) = 0 then _ else _) = _
        rw [if_pos rfl, nI_1]
        exact ih (i + 1) k M v3 v4 (by omega) (by omega) F hb2
      have B1 : (sK g kk nf o u i → Best (fun t => ∃ s, s < i + 1 ∧ sK g kk nf o u s ∧ t = mN so s) (fun t => sC (cfG g) t nf) (nI (sC (cfG g) (mN so i) nf)) (nI (mN so i))) → ∃ w3 w4 M2, Best (fun t => ∃ s, s < 2 ^ nf ∧ sK g kk nf o u s ∧ t = mN so s) (fun t => sC (cfG g) t nf) w3 w4 ∧ FrX 20 M0 M2 ∧ Bd 1 = K w3 w4 M2 := by
        intro hb2
        rw [eB]
        show ∃ w3 w4 M2, _ ∧ _ ∧ (if (1 : Int32) = 0 then _ else _) = _
        have p8 := pc_le i
        rw [if_neg (show ¬ (1 : Int32) = 0 by decide), nI_1]
        unfold FX1_fits
        rw [bc_x i (by omega), bo_s, XC.1, g0]
        by_cases hf : pc i ≤ kk
        · obtain ⟨M2, e4, F2⟩ := x_convOf (M := M) (s := i) C XC (fun o ho => by rw [F _ (by decide) (by decide) (by decide)]; exact B o ho) (fun o ho => by rw [F _ (by decide) (by decide) (by decide)]; exact Rx o ho) R hN ho
          have F3 : FrX 20 M0 M2 := fun a h1 h2 h3 => (F2 a h1 h2 h3).trans (F a h1 h2 h3)
          rw [if_neg (show ¬ nI kk < nI (pc i) from nI_nlt hf (by omega)), bo_s, if_neg (show ¬ (1 : Int32) = 0 by decide), e4, bd_s]
          by_cases hc : ¬ (sT g nf i u).2 o < g 3
          · rw [if_pos hc, if_neg (show ¬ (1 : Int32) = 0 by decide)]
            exact ih (i + 1) k M2 _ _ (by omega) (by omega) F3 (hb2 ⟨hf, hc⟩)
          · rw [if_neg hc, if_pos rfl]
            exact ih (i + 1) k M2 _ _ (by omega) (by omega) F3 (stay (Or.inl (fun z => hc z.2)))
        · rw [if_pos (nI_lt (by omega) (by omega)), bo_s, if_pos rfl]
          exact ih (i + 1) k M _ _ (by omega) (by omega) F (stay (Or.inl (fun z => hf z.1)))
      rcases id hb with ⟨z1, z2, z3⟩ | ⟨t, ht, t4, t5_, t6, t7_, t8_⟩
      · refine hst 1 (B1 (fun hK => take2 hK (fun t ht => absurd ht (z3 t)))) ?_
        rw [hB, if_pos z1]
      · have t5 : sC (cfG g) t nf ≤ 72 := t5_
        have t7 : v3 = nI (sC (cfG g) t nf) := t7_
        have t8 : ∀ t', (∃ s, s < i ∧ sK g kk nf o u s ∧ t' = mN so s) → sC (cfG g) t nf < sC (cfG g) t' nf ∨ (sC (cfG g) t nf = sC (cfG g) t' nf ∧ t ≤ t') := t8_
        have n1 : ¬ v3 = -1 := by rw [t7]; exact nI_m1n (by omega)
        by_cases q1 : sC (cfG g) (mN so i) nf < sC (cfG g) t nf
        · refine hst 1 (B1 (fun hK => take2 hK (fun t' ht' => ?_))) ?_
          · have := t8 t' ht'
            omega
          · rw [hB, if_neg n1, t7, if_pos (nI_lt q1 (by omega))]
        · by_cases q2 : sC (cfG g) (mN so i) nf = sC (cfG g) t nf
          · by_cases q3 : t ≤ mN so i
            · refine hst 0 (B0 (stay (Or.inr ⟨t, ht, t6, t7, t4, Or.inr ⟨q2.symm, q3⟩⟩))) ?_
              rw [hB, if_neg n1, t7, if_neg (nI_nlt (by omega) (by omega)), if_pos (by rw [q2]), t6, if_pos (nI_le q3 (by omega))]
            · refine hst 1 (B1 (fun hK => take2 hK (fun t' ht' => ?_))) ?_
              · have := t8 t' ht'
                omega
              · rw [hB, if_neg n1, t7, if_neg (nI_nlt (by omega) (by omega)), if_pos (by rw [q2]), t6, if_neg (nI_ge (by omega) (by omega))]
          · refine hst 0 (B0 (stay (Or.inr ⟨t, ht, t6, t7, t4, Or.inl (by omega)⟩))) ?_
            rw [hB, if_neg n1, t7, if_neg (nI_nlt (by omega) (by omega)), if_neg (fun z => q2 ((nI_eq (by omega) (by omega)).mp z))]
  exact L (2 ^ nf) 0 fuelN M0 (-1) (-1) (by omega) (show 2 ^ nf < 100000 by omega) (fun _ _ _ _ => rfl) (Or.inl ⟨rfl, rfl, fun t ⟨s, q1, _⟩ => by omega⟩)
