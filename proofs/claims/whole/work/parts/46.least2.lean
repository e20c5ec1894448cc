/-! ===== least: the method ===== -/
theorem best_eq {A B : Nat → Prop} {c : Nat → Nat} {a b a' b' : Int32} (hAB : ∀ t, A t → B t) (hBA : ∀ t, B t → ∃ m, A m ∧ c m ≤ c t ∧ m ≤ t) (h : Best A c a b) (h' : Best B c a' b') : a = a' ∧ b = b' := by
  rcases h with ⟨z1, z2, z3⟩ | ⟨t, t1, t2, t3, t4, t5, t6⟩
  · rcases h' with ⟨y1, y2, y3⟩ | ⟨s, s1, s2, s3, s4, s5, s6⟩
    · exact ⟨z1.trans y1.symm, z2.trans y2.symm⟩
    · obtain ⟨m, hm, -⟩ := hBA s s1
      exact absurd hm (z3 m)
  · rcases h' with ⟨y1, y2, y3⟩ | ⟨s, s1, s2, s3, s4, s5, s6⟩
    · exact absurd (hAB t t1) (y3 t)
    · obtain ⟨m, hm, hm2, hm3⟩ := hBA s s1
      have p1 := t6 m hm
      have p2 := s6 t (hAB t t1)
      have e : t = s := by omega
      subst e
      exact ⟨t5.trans s5.symm, t4.trans s4.symm⟩
abbrev sKB (g : Nat → Int32) (kk no nf o so : Nat) (u : Nat → Int32) (t : Nat) : Prop := ∃ s, s < 2 ^ nf ∧ sMay kk no (nI (so ||| t)) s ∧ ¬ (sT g nf s u).2 o < g 3
theorem m_convs {Mm : MM} {kk no nf hh N o so t : Nat} (C : CityI (Mm.1 1) kk no nf hh) (R : RdI (Mm.1 3) N) (hN : N + 8 < 2 ^ 30) (ho : o < no) (r : Nat → Int32) : (∃ r2, FX8_convinces (nI o) (nI (so ||| t)) (setR Mm 10 r) = some (1, setR Mm 10 r2) ∧ sKB (Mm.1 1) kk no nf o so (Mm.1 3) t) ∨ (∃ r2, FX8_convinces (nI o) (nI (so ||| t)) (setR Mm 10 r) = some (0, setR Mm 10 r2) ∧ ¬ sKB (Mm.1 1) kk no nf o so (Mm.1 3) t) := by
  obtain ⟨g0, g1, g2, g3, hk, hno, hnf, -, -, hF⟩ := id C
  have p256 : 2 ^ nf ≤ 2 ^ 8 := Nat.pow_le_pow_right (by decide) hnf
  have s1 : ∀ r, (setR Mm 10 r).1 1 = Mm.1 1 := fun r => setR_n _ _ (by decide)
  have s3 : ∀ r, (setR Mm 10 r).1 3 = Mm.1 3 := fun r => setR_n _ _ (by decide)
  have L : ∀ (d i k : Nat) (r : Nat → Int32), i + d = 2 ^ nf → d < k → (∀ s, s < i → ¬ (sMay kk no (nI (so ||| t)) s ∧ ¬ (sT (Mm.1 1) nf s (Mm.1 3)).2 o < Mm.1 1 3)) → (∃ r2, FX8_convinces_L2 (nI o) (nI (so ||| t)) (fun (M_1 : MM) => some (0, M_1)) k (nI i) (setR Mm 10 r) = some (1, setR Mm 10 r2) ∧ sKB (Mm.1 1) kk no nf o so (Mm.1 3) t) ∨ (∃ r2, FX8_convinces_L2 (nI o) (nI (so ||| t)) (fun (M_1 : MM) => some (0, M_1)) k (nI i) (setR Mm 10 r) = some (0, setR Mm 10 r2) ∧ ¬ sKB (Mm.1 1) kk no nf o so (Mm.1 3) t) := by
    intro d
    induction d with
    | zero =>
      intro i k r hi hk2 hno2
      obtain ⟨k, rfl⟩ : ∃ z, k = z + 1 := ⟨k - 1, by omega⟩
      refine Or.inr ⟨r, ?_, fun ⟨s, q1, q2⟩ => hno2 s (by omega) q2⟩
      rw [FX8_convinces_L2, s1, g2, shl1 nf (by omega), if_pos (nI_le (by omega) (by omega))]
    | succ d ih =>
      intro i k r hi hk2 hno2
      obtain ⟨k, rfl⟩ : ∃ z, k = z + 1 := ⟨k - 1, by omega⟩
      rw [FX8_convinces_L2, s1, g2, shl1 nf (by omega), if_neg (nI_ge (by omega) (by omega)), may_m (kk := kk) (no := no) (by rw [s1]; exact g0) (by rw [s1]; exact g1) hk hno (by omega), bo_s, jn_s, nI_1]
      by_cases qm : sMay kk no (nI (so ||| t)) i
      · obtain ⟨r2, t1, t2⟩ := tonight_m (M := setR Mm 10 r) (u := Mm.1 3) (sheet := nI i) (by rw [s1]; exact C) (fun k _ => by rw [s3]) R hN
        rw [s1, setR_setR] at t1
        rw [s1] at t2
        rw [if_pos qm, if_neg (show ¬ (1 : Int32) = 0 by decide), t1, bd_s, if_pos (inb_n (by omega) (by decide)), ix_n (by omega), setR_c, s1, t2 o (by omega)]
        by_cases qc : (sT (Mm.1 1) nf i (Mm.1 3)).2 o < Mm.1 1 3
        · rw [if_pos qc]
          refine ih (i + 1) k r2 (by omega) (by omega) (fun s hs => ?_)
          by_cases hsi : s = i
          · subst hsi; exact fun z => z.2 qc
          · exact hno2 s (by omega)
        · rw [if_neg qc]
          exact Or.inl ⟨r2, rfl, i, by omega, qm, qc⟩
      · rw [if_neg qm, if_pos rfl]
        refine ih (i + 1) k r (by omega) (by omega) (fun s hs => ?_)
        by_cases hsi : s = i
        · subst hsi; exact fun z => qm z.1
        · exact hno2 s (by omega)
  exact L (2 ^ nf) 0 fuelN r (by omega) (show 2 ^ nf < 100000 by omega) (fun s hs => by omega)
theorem m_least {Mm : MM} {kk no nf hh N o so : Nat} (C : CityI (Mm.1 1) kk no nf hh) (hso : Mm.1 3 13 = nI so) (hs : so < 256) (R : RdI (Mm.1 3) N) (hN : N + 8 < 2 ^ 30) (ho : o < no) (b2 : Int32) (K : Int32 → MM → Option (Int32 × MM)) : ∃ (w v : Int32) (r2 : Nat → Int32), Best (fun t => t < 2 ^ nf ∧ t &&& so = 0 ∧ sKB (Mm.1 1) kk no nf o so (Mm.1 3) t) (fun t => sC (cfG (Mm.1 1)) t nf) w v ∧ FX8_least_L29 (nI o) b2 K fuelN (-1) 0 Mm = K v (setR Mm 10 r2) := by
  obtain ⟨g0, g1, g2, g3, hk, hno, hnf, -, -, hF⟩ := id C
  have p256 : 2 ^ nf ≤ 2 ^ 8 := Nat.pow_le_pow_right (by decide) hnf
  have c72 : ∀ t, sC (cfG (Mm.1 1)) t nf ≤ 72 := fun t => by
    have := sC_le (t := t) (fun f hf => (cfG_ok C hf).2) nf (Nat.le_refl _)
    omega
  have s1 : ∀ r, (setR Mm 10 r).1 1 = Mm.1 1 := fun r => setR_n _ _ (by decide)
  have s3 : ∀ r, (setR Mm 10 r).1 3 = Mm.1 3 := fun r => setR_n _ _ (by decide)
  have cst : ∀ r t, t < 256 → FX8_costOf (nI t) (setR Mm 10 r) = some (nI (sC (cfG (Mm.1 1)) t nf)) := fun r t ht => by
    have := cost_m (M := setR Mm 10 r) (t := t) (by rw [s1]; exact C) ht
    rw [s1] at this
    exact this
  have L : ∀ (d i k : Nat) (r : Nat → Int32) (w v : Int32), i + d = 2 ^ nf → d < k → Best (fun t => t < i ∧ t &&& so = 0 ∧ sKB (Mm.1 1) kk no nf o so (Mm.1 3) t) (fun t => sC (cfG (Mm.1 1)) t nf) w v → ∃ (w2 v2 : Int32) (r2 : Nat → Int32), Best (fun t => t < 2 ^ nf ∧ t &&& so = 0 ∧ sKB (Mm.1 1) kk no nf o so (Mm.1 3) t) (fun t => sC (cfG (Mm.1 1)) t nf) w2 v2 ∧ FX8_least_L29 (nI o) b2 K k v (nI i) (setR Mm 10 r) = K v2 (setR Mm 10 r2) := by
    intro d
    induction d with
    | zero =>
      intro i k r w v hi hk2 hb
      obtain ⟨k, rfl⟩ : ∃ z, k = z + 1 := ⟨k - 1, by omega⟩
      have e : i = 2 ^ nf := by omega
      subst e
      refine ⟨w, v, r, hb, ?_⟩
      rw [FX8_least_L29, s1, g2, shl1 nf (by omega), if_pos (nI_le (by omega) (by omega))]
    | succ d ih =>
      intro i k r w v hi hk2 hb
      obtain ⟨k, rfl⟩ : ∃ z, k = z + 1 := ⟨k - 1, by omega⟩
      obtain ⟨Bd, eB⟩ : ∃ Bd : Int32 → Option (Int32 × MM), Bd = fun s_14 => (if s_14 = 0 then FX8_least_L29 (nI o) b2 K k v (nI i + 1) (setR Mm 10 r) else bd (FX8_convinces (nI o) (nI (so ||| i)) (setR Mm 10 r)) (fun (r_19 : Int32) (M_20 : MM) => (if r_19 = 0 then FX8_least_L29 (nI o) b2 K k v (nI i + 1) M_20 else FX8_least_L29 (nI o) b2 K k (nI i) (nI i + 1) M_20))) := ⟨_, rfl⟩
      have hB : FX8_least_L29 (nI o) b2 K (k + 1) v (nI i) (setR Mm 10 r) = (if nI (i &&& so) = 0 then (if v = (-1) then Bd 1 else bo (FX8_costOf (nI i) (setR Mm 10 r)) (fun (r_24 : Int32) => bo (FX8_costOf v (setR Mm 10 r)) (fun (r_25 : Int32) => (if r_25 ≤ r_24 then Bd 0 else Bd 1)))) else Bd 0) := by
        rw [FX8_least_L29, s1, g2, shl1 nf (by omega), if_neg (nI_ge (by omega) (by omega)), s3, hso, or_n, and_n, eB]
        rfl
      have and_i : i &&& so ≤ i := Nat.and_le_left
      have hst : ∀ z, (∃ w2 v2 r2, Best (fun t => t < 2 ^ nf ∧ t &&& so = 0 ∧ sKB (Mm.1 1) kk no nf o so (Mm.1 3) t) (fun t => sC (cfG (Mm.1 1)) t nf) w2 v2 ∧ Bd z = K v2 (setR Mm 10 r2)) → FX8_least_L29 (nI o) b2 K (k + 1) v (nI i) (setR Mm 10 r) = Bd z → ∃ w2 v2 r2, Best (fun t => t < 2 ^ nf ∧ t &&& so = 0 ∧ sKB (Mm.1 1) kk no nf o so (Mm.1 3) t) (fun t => sC (cfG (Mm.1 1)) t nf) w2 v2 ∧ FX8_least_L29 (nI o) b2 K (k + 1) v (nI i) (setR Mm 10 r) = K v2 (setR Mm 10 r2) := by
        intro z ⟨w2, v2, r2, y1, y2⟩ h
        exact ⟨w2, v2, r2, y1, h.trans y2⟩
      have stay : (¬ (i &&& so = 0 ∧ sKB (Mm.1 1) kk no nf o so (Mm.1 3) i) ∨ ∃ t, t < i ∧ t &&& so = 0 ∧ sKB (Mm.1 1) kk no nf o so (Mm.1 3) t ∧ v = nI t ∧ sC (cfG (Mm.1 1)) t nf ≤ sC (cfG (Mm.1 1)) i nf) → Best (fun t => t < i + 1 ∧ t &&& so = 0 ∧ sKB (Mm.1 1) kk no nf o so (Mm.1 3) t) (fun t => sC (cfG (Mm.1 1)) t nf) w v := by
        intro hcase
        rcases hb with ⟨z1, z2, z3⟩ | ⟨t, ⟨q1, q2, q3⟩, t4, t5, t6, t7, t8⟩
        · rcases hcase with hn | ⟨t, h1, h2, h3, -⟩
          · refine Or.inl ⟨z1, z2, fun t ⟨p1, p2⟩ => ?_⟩
            by_cases hti : t = i
            · subst hti; exact hn p2
            · exact z3 t ⟨by omega, p2⟩
          · exact absurd ⟨h1, h2, h3⟩ (z3 t)
        · refine Or.inr ⟨t, ⟨by omega, q2, q3⟩, t4, t5, t6, t7, fun t' ⟨p1, p2⟩ => ?_⟩
          by_cases hti : t' = i
          · subst hti
            rcases hcase with hn | ⟨t0, h1, h2, h3, h4, h5⟩
            · exact absurd p2 hn
            · have e : t0 = t := (nI_eq (by omega) (by omega)).mp (h4.symm.trans t6)
              subst e
              show sC _ _ _ < sC _ _ _ ∨ sC _ _ _ = sC _ _ _ ∧ _
              omega
          · exact t8 t' ⟨by omega, p2⟩
      have take2 : i &&& so = 0 ∧ sKB (Mm.1 1) kk no nf o so (Mm.1 3) i → (∀ t, t < i ∧ t &&& so = 0 ∧ sKB (Mm.1 1) kk no nf o so (Mm.1 3) t → sC (cfG (Mm.1 1)) i nf < sC (cfG (Mm.1 1)) t nf) → Best (fun t => t < i + 1 ∧ t &&& so = 0 ∧ sKB (Mm.1 1) kk no nf o so (Mm.1 3) t) (fun t => sC (cfG (Mm.1 1)) t nf) (nI (sC (cfG (Mm.1 1)) i nf)) (nI i) := by
        intro hK hall
        refine Or.inr ⟨i, ⟨by omega, hK⟩, by omega, c72 i, rfl, rfl, fun t' ⟨p1, p2⟩ => ?_⟩
        by_cases hti : t' = i
        · subst hti; exact Or.inr ⟨rfl, Nat.le_refl _⟩
        · exact Or.inl (hall t' ⟨by omega, p2⟩)
      have B0 : Best (fun t => t < i + 1 ∧ t &&& so = 0 ∧ sKB (Mm.1 1) kk no nf o so (Mm.1 3) t) (fun t => sC (cfG (Mm.1 1)) t nf) w v → ∃ w2 v2 r2, Best (fun t => t < 2 ^ nf ∧ t &&& so = 0 ∧ sKB (Mm.1 1) kk no nf o so (Mm.1 3) t) (fun t => sC (cfG (Mm.1 1)) t nf) w2 v2 ∧ Bd 0 = K v2 (setR Mm 10 r2) := by
        intro hb2
        rw [eB]
        show ∃ w2 v2 r2, _ ∧ (if (0 : Int32) = 0 then _ else _) = _
        rw [if_pos rfl, nI_1]
        exact ih (i + 1) k r w v (by omega) (by omega) hb2
      have B1 : i &&& so = 0 → (sKB (Mm.1 1) kk no nf o so (Mm.1 3) i → Best (fun t => t < i + 1 ∧ t &&& so = 0 ∧ sKB (Mm.1 1) kk no nf o so (Mm.1 3) t) (fun t => sC (cfG (Mm.1 1)) t nf) (nI (sC (cfG (Mm.1 1)) i nf)) (nI i)) → ∃ w2 v2 r2, Best (fun t => t < 2 ^ nf ∧ t &&& so = 0 ∧ sKB (Mm.1 1) kk no nf o so (Mm.1 3) t) (fun t => sC (cfG (Mm.1 1)) t nf) w2 v2 ∧ Bd 1 = K v2 (setR Mm 10 r2) := by
        intro hz hb2
        rw [eB]
        show ∃ w2 v2 r2, _ ∧ (if (1 : Int32) = 0 then _ else _) = _
        rw [if_neg (show ¬ (1 : Int32) = 0 by decide), nI_1]
        rcases m_convs (so := so) (t := i) C R hN ho r with ⟨r2, e4, hq⟩ | ⟨r2, e4, hq⟩
        · rw [e4, bd_s, if_neg (show ¬ (1 : Int32) = 0 by decide)]
          exact ih (i + 1) k r2 _ _ (by omega) (by omega) (hb2 hq)
        · rw [e4, bd_s, if_pos rfl]
          exact ih (i + 1) k r2 w v (by omega) (by omega) (stay (Or.inl (fun z => hq z.2)))
      by_cases qz : ¬ i &&& so = 0
      · refine hst 0 (B0 (stay (Or.inl (fun z => qz z.1)))) ?_
        have nz : ¬ nI (i &&& so) = 0 := nI_ne0 (by omega) (by omega)
        rw [hB, if_neg nz]
      replace qz := Classical.not_not.mp qz
      have ez : nI (i &&& so) = 0 := by rw [qz]; rfl
      rcases id hb with ⟨z1, z2, z3⟩ | ⟨t, ⟨q1, q2, q3⟩, t4, t5_, t6, t7, t8_⟩
      · refine hst 1 (B1 qz (fun hK => take2 ⟨qz, hK⟩ (fun t ht => absurd ht (z3 t)))) ?_
        rw [hB, if_pos ez, if_pos z2]
      · have t5 : sC (cfG (Mm.1 1)) t nf ≤ 72 := t5_
        have t8 : ∀ t', t' < i ∧ t' &&& so = 0 ∧ sKB (Mm.1 1) kk no nf o so (Mm.1 3) t' → sC (cfG (Mm.1 1)) t nf < sC (cfG (Mm.1 1)) t' nf ∨ (sC (cfG (Mm.1 1)) t nf = sC (cfG (Mm.1 1)) t' nf ∧ t ≤ t') := t8_
        have n1 : ¬ v = -1 := by rw [t6]; exact nI_m1n (by omega)
        have ci := c72 i
        by_cases qc : sC (cfG (Mm.1 1)) t nf ≤ sC (cfG (Mm.1 1)) i nf
        · refine hst 0 (B0 (stay (Or.inr ⟨t, q1, q2, q3, t6, qc⟩))) ?_
          rw [hB, if_pos ez, if_neg n1, cst r i (by omega), bo_s, t6, cst r t t4, bo_s, if_pos (nI_le qc (by omega))]
        · refine hst 1 (B1 qz (fun hK => take2 ⟨qz, hK⟩ (fun t' ht' => ?_))) ?_
          · have := t8 t' ht'
            omega
          · rw [hB, if_pos ez, if_neg n1, cst r i (by omega), bo_s, t6, cst r t t4, bo_s, if_neg (nI_ge (by omega) (by omega))]
  have h := L (2 ^ nf) 0 fuelN (Mm.1 10) (-1) (-1) (by omega) (show 2 ^ nf < 100000 by omega) (Or.inl ⟨rfl, rfl, fun t ⟨q1, _⟩ => by omega⟩)
  rw [setR_self] at h
  exact h
theorem sim_least : Sim_least RR := by
  intro Mx Mm h a b
  obtain ⟨kk, no, nf, hh, H⟩ := h
  obtain ⟨a1, a2, a3, a4, a5, a6, a7, a8, a9, a10, a11⟩ := id H
  obtain ⟨c0, c1, c2, c3, c4, hno, hnf, -, -, hF⟩ := id a1
  obtain ⟨b0, b1, b2, b3, bF⟩ := id a2
  obtain ⟨N, hN, MN⟩ := mindN_of a4
  obtain ⟨so, hso, eso⟩ := MN.2.2.2
  have p256 : 2 ^ nf ≤ 2 ^ 8 := Nat.pow_le_pow_right (by decide) hnf
  unfold FX7_least FX8_least
  rw [opin_x (no := no) (by rw [b1]; exact c1) hno, opin_m c1 hno, bo_s, bo_s]
  by_cases qa : ¬ (0 ≤ a.toInt ∧ a.toInt < no)
  · rw [if_neg qa, if_pos rfl, if_pos rfl]
    exact ⟨_, _, _, rfl, rfl, kk, no, nf, hh, H⟩
  replace qa := Classical.not_not.mp qa
  obtain ⟨o, ho, rfl⟩ := i_nat qa
  rw [if_pos qa, if_neg (show ¬ (1 : Int32) = 0 by decide), if_neg (show ¬ (1 : Int32) = 0 by decide), in_i (p := 0) (q := 1) rfl rfl, bo_s]
  have z0 : (0 : Int32).toInt = 0 := rfl
  have z1 : (1 : Int32).toInt = 1 := rfl
  by_cases q1 : b < 0
  · have := i_lt.mp q1
    rw [if_pos q1, if_neg (show ¬ (0 ≤ b.toInt ∧ b.toInt ≤ 1) by omega), if_pos rfl]
    exact ⟨_, _, _, rfl, rfl, kk, no, nf, hh, H⟩
  have q1' : ¬ b.toInt < 0 := fun z => q1 (i_lt.mpr (by rw [z0]; exact z))
  by_cases q2 : ¬ b ≤ 1
  · have q2' : ¬ b.toInt ≤ 1 := fun z => q2 (i_le.mpr (by rw [z1]; exact z))
    rw [if_neg q1, if_neg q2, if_neg (show ¬ (0 ≤ b.toInt ∧ b.toInt ≤ 1) by omega), if_pos rfl]
    exact ⟨_, _, _, rfl, rfl, kk, no, nf, hh, H⟩
  replace q2 := Classical.not_not.mp q2
  have q2' := i_le.mp q2
  obtain ⟨j, hj, rfl⟩ := i_nat (a := b) (n := 2) (by omega)
  rw [if_neg q1, if_pos q2, if_pos (show 0 ≤ (nI j).toInt ∧ (nI j).toInt ≤ 1 by omega), if_neg (show ¬ (1 : Int32) = 0 by decide)]
  obtain ⟨v3, v4, M2, y1, y2, y3⟩ := x_least (M0 := Mx) (so := so) a1 a2 (a3.2.2.1.trans eso) (by omega) a3.1 a3.2.1 MN.2.2.1 (by omega) ho (nI j) (fun (k3_5 : Int32) (k4_6 : Int32) (M_7 : XM) => (if nI j = 0 then some (k3_5, M_7) else some (k4_6, M_7)))
  obtain ⟨w, v, r2, x1, x2⟩ := m_least (Mm := Mm) (so := so) a1 eso (by omega) MN.2.2.1 (by omega) ho (nI j) (fun (k3_5 : Int32) (M_6 : MM) => (if k3_5 = (-1) then some (k3_5, M_6) else (if nI j = 1 then some (k3_5, M_6) else bo (FX8_costOf k3_5 M_6) (fun (r_9 : Int32) => some (r_9, M_6)))))
  have hno0 : 0 < no := by omega
  obtain ⟨e1, e2⟩ := best_eq (fun t ⟨s, q1, q2, q3⟩ => by
      have h256 : s < 256 := by omega
      have hle := mN_le so s
      refine ⟨by omega, by rw [q3]; exact mN_dis h256, s, q1, ⟨hno0, ?_, q2.1⟩, q2.2⟩
      rw [q3, and_not h256 (Nat.or_lt_two_pow (n := 8) (by omega) (by omega)), mN_in h256]
      rfl) (fun t ⟨q1, q2, s, q3, q4, q5⟩ => by
      have h256 : s < 256 := by omega
      have hz : mN (so ||| t) s = 0 := by
        have h1 := q4.2.1
        rw [and_not h256 (Nat.or_lt_two_pow (n := 8) (by omega) (by omega))] at h1
        have hle := mN_le (so ||| t) s
        exact (nI_eq (a := mN (so ||| t) s) (b := 0) (by omega) (by decide)).mp h1
      have hsub := mN_sub h256 hz
      exact ⟨mN so s, ⟨s, q3, ⟨q4.2.2, q5⟩, rfl⟩, sC_mono hsub nf, sub_le hsub⟩) y1 x1
  subst e1
  subst e2
  refine ⟨if nI j = 0 then v3 else v4, M2, setR Mm 10 r2, y3.trans ?_, x2.trans ?_, kk, no, nf, hh, RRk_scr (ScrX_fr (Or.inl rfl) y2) (ScrM_set _ _ (Or.inl (by decide))) H⟩
  · by_cases q : nI j = 0
    · rw [if_pos q, if_pos q]
    · rw [if_neg q, if_neg q]
  · show (if v4 = -1 then _ else _) = _
    have ej : j = 0 ∨ j = 1 := by omega
    rcases x1 with ⟨g1, g2, -⟩ | ⟨t, t1, t2, t3, t4, t5, -⟩
    · rw [if_pos g2, g1, g2]
      by_cases q : nI j = 0
      · rw [if_pos q]
      · rw [if_neg q]
    · rw [if_neg (show ¬ v4 = -1 by rw [t4]; exact nI_m1n (by omega))]
      rcases ej with rfl | rfl
      · have cm := cost_m (M := setR Mm 10 r2) (t := t) (by rw [setR_n _ _ (by decide)]; exact a1) t2
        rw [if_neg (show ¬ nI 0 = 1 by decide), if_pos (show nI 0 = 0 from rfl), t4, cm, bo_s, t5, setR_n _ _ (by decide)]
      · rw [if_pos (show nI 1 = 1 from rfl), if_neg (show ¬ nI 1 = 0 by decide)]
