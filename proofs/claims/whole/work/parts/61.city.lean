/-! ===== city ===== -/
theorem m_zero {K : MM → Option (Int32 × MM)} (M : MM) : FX8_city_L2 K fuelN 0 M = K (setR M 2 (pt (M.1 2) (fun _ => 0) 0 50)) := by
  have L : ∀ (d i k : Nat), i + d = 50 → d < k → FX8_city_L2 K k (nI i) (setR M 2 (pt (M.1 2) (fun _ => 0) 0 i)) = K (setR M 2 (pt (M.1 2) (fun _ => 0) 0 50)) := by
    intro d
    induction d with
    | zero =>
      intro i k hi hk
      obtain ⟨k, rfl⟩ : ∃ z, k = z + 1 := ⟨k - 1, by omega⟩
      have e : i = 50 := by omega
      subst e
      rw [FX8_city_L2, if_pos (show (50 : Int32) ≤ nI 50 by decide)]
    | succ d ih =>
      intro i k hi hk
      obtain ⟨k, rfl⟩ : ∃ z, k = z + 1 := ⟨k - 1, by omega⟩
      have h := pt_s (M.1 2) (fun _ => (0 : Int32)) 0 i (v := 0) rfl
      rw [Nat.zero_add] at h
      rw [FX8_city_L2, if_neg (show ¬ (50 : Int32) ≤ nI i from nI_ge (b := 50) (by omega) (by decide)), if_pos (inb_n (by omega) (by decide)), ix_n (by omega), nI_1, um_setR, setR_setR, setR_c, h]
      exact ih (i + 1) k (by omega) (by omega)
  have h := L 50 0 fuelN (by omega) (show 50 < 100000 by decide)
  rw [pt_0, setR_self] at h
  exact h
theorem m_copy50 {K : MM → Option (Int32 × MM)} (M : MM) : FX8_city_L99 K fuelN 0 M = K (setR M 1 (pt (M.1 1) (M.1 2) 0 50)) := by
  have L : ∀ (d i k : Nat), i + d = 50 → d < k → FX8_city_L99 K k (nI i) (setR M 1 (pt (M.1 1) (M.1 2) 0 i)) = K (setR M 1 (pt (M.1 1) (M.1 2) 0 50)) := by
    intro d
    induction d with
    | zero =>
      intro i k hi hk
      obtain ⟨k, rfl⟩ : ∃ z, k = z + 1 := ⟨k - 1, by omega⟩
      have e : i = 50 := by omega
      subst e
      rw [FX8_city_L99, if_pos (show (50 : Int32) ≤ nI 50 by decide)]
    | succ d ih =>
      intro i k hi hk
      obtain ⟨k, rfl⟩ : ∃ z, k = z + 1 := ⟨k - 1, by omega⟩
      have h := pt_s (M.1 1) (M.1 2) 0 i (v := M.1 2 i) rfl
      rw [Nat.zero_add] at h
      have hi50 : inb (nI i) 50 := inb_n (by omega) (by decide)
      rw [FX8_city_L99, if_neg (show ¬ (50 : Int32) ≤ nI i from nI_ge (b := 50) (by omega) (by decide)), if_pos hi50, if_pos hi50, ix_n (by omega), nI_1, setR_n _ _ (show (2 : Nat) ≠ 1 by decide), um_setR, setR_setR, setR_c, h]
      exact ih (i + 1) k (by omega) (by omega)
  have h := L 50 0 fuelN (by omega) (show 50 < 100000 by decide)
  rw [pt_0, setR_self] at h
  exact h
theorem CityI_eq {g s : Nat → Int32} {kk no nf hh : Nat} (h : ∀ k, k < 50 → g k = s k) (C : CityI s kk no nf hh) : CityI g kk no nf hh := by
  obtain ⟨g0, g1, g2, g3, hk, hn5, hn8, hh20, hz, hF⟩ := C
  refine ⟨(h 0 (by omega)).trans g0, (h 1 (by omega)).trans g1, (h 2 (by omega)).trans g2, (h 3 (by omega)).trans g3, hk, hn5, hn8, hh20, hz, fun f hf => ?_⟩
  unfold FactI
  rw [h (10 + f) (by omega), h (18 + f) (by omega), h (26 + f) (by omega), h (34 + f) (by omega), h (42 + f) (by omega)]
  exact hF f hf
theorem u0_I {g : Nat → Int32} {no nf : Nat} (hnf : nf ≤ 8) (h : ∀ o, o < no → ∃ b, b ≤ 20 ∧ g (5 + o) = nI b) (hz : ∀ o, o < 5 → no ≤ o → g (5 + o) = 0) : MindI (u0 g nf) nf := by
  refine ⟨fun o ho => ?_, ⟨0, by omega, ?_, fun f hf => ⟨0, by omega, ?_⟩⟩, ?_⟩
  · unfold u0
    rw [if_pos ho]
    by_cases q : o < no
    · exact h o q
    · exact ⟨0, by omega, hz o ho (by omega)⟩
  · unfold u0; rw [if_neg (by decide), if_neg (by decide), if_neg (by decide)]; rfl
  · unfold u0; rw [if_neg (by omega), if_neg (by omega), if_neg (by omega)]; rfl
  · obtain ⟨s, hs, es⟩ := sSo_I g nf hnf
    exact ⟨s, hs, by unfold u0; rw [if_neg (by decide), if_pos rfl]; exact es⟩
theorem sim_city : Sim_city RR := by
  intro Mx Mm h
  obtain ⟨kk, no, nf, hh, H⟩ := h
  obtain ⟨a1, a2, a3, a4, ⟨cnt, nx, p1, p2, p3, p4, p5, p6⟩, a6, a7, a8, ⟨n, n1, n2, n3, n4⟩, a10, a11⟩ := id H
  obtain ⟨r, er⟩ : ∃ r, r = Mm.1 7 := ⟨_, rfl⟩
  rw [← er] at n4
  have T : TX Mx r n := ⟨n2, n1, n4⟩
  have Tm : TM Mm r n := ⟨n3, n1, er.symm⟩
  -- before the first token
  unfold FX8_city
  rw [m_zero]
  obtain ⟨Ma, eMa⟩ : ∃ Ma, Ma = um (um (um (setR Mm 2 (pt (Mm.1 2) (fun _ => 0) 0 50)) 2 3 10) 0 15 0) 0 10 (-1) := ⟨_, rfl⟩
  rw [← eMa]
  have ma : ∀ a, a ≠ 0 → a ≠ 2 → Ma.1 a = Mm.1 a := fun a h1 h2 => by
    funext j
    rw [eMa, um_at, if_neg (by omega), um_at, if_neg (by omega), um_at, if_neg (by omega), setR_n _ _ h2]
  have ma0 : ∀ b, b ≠ 15 → b ≠ 10 → Ma.1 0 b = Mm.1 0 b := fun b h1 h2 => by
    rw [eMa, um_at, if_neg (by omega), um_at, if_neg (by omega), um_at, if_neg (by omega), setR_n _ _ (by decide)]
  have ma10 : Ma.1 0 10 = -1 := by rw [eMa, um_at, if_pos ⟨rfl, rfl⟩]
  have ma2 : ∀ k, k < 50 → Ma.1 2 k = if k = 3 then 10 else 0 := fun k hk => by
    rw [eMa, um_at, if_neg (by omega), um_at, if_neg (by omega), um_at, setR_c]
    by_cases q : k = 3
    · rw [if_pos ⟨rfl, q⟩, if_pos q]
    · have := pt_in (g := Mm.1 2) (f := fun _ => (0 : Int32)) (a := 0) hk
      rw [Nat.zero_add] at this
      rw [if_neg (fun z => q z.2), if_neg q, this]
  have Tma : TM Ma r n := ⟨by rw [ma0 9 (by decide) (by decide)]; exact n3, n1, by rw [ma 7 (by decide) (by decide)]; exact er.symm⟩
  obtain ⟨M2, s1, s2, s3⟩ := m_step (p := 0) Tma (fun i hi => (n4 i hi).2) (by rw [eMa, um_at, if_neg (by decide), um_at, if_pos ⟨rfl, rfl⟩]; rfl) (Nat.zero_le n)
  obtain ⟨k1, k2, k3⟩ := SK_ok (r := r) (n := n) n 0 (by omega)
  obtain ⟨Xb, eXb⟩ : ∃ Xb, Xb = upd2 (upd2 (upd2 (upd2 (upd2 (upd2 (upd2 (upd2 Mx 10 0 0) 10 1 0) 10 2 0) 10 3 10) 1 2 0) 1 4 0) 1 5 (-1)) 1 6 0 := ⟨_, rfl⟩
  have FXb : FrC Mx Xb := by rw [eXb]; exact FrC_upd (FrC_upd (FrC_upd (FrC_upd (FrC_upd (FrC_upd (FrC_upd (FrC_upd (FrC_rf Mx) (by omega)) (by omega)) (by omega)) (by omega)) (by omega)) (by omega)) (by omega)) (by omega)
  have xb2 : Xb 1 2 = nI 0 := by rw [eXb, upd2_at, if_neg (by decide), upd2_at, if_neg (by decide), upd2_at, if_neg (by decide), upd2_at, if_pos ⟨rfl, rfl⟩]; rfl
  have xb4 : Xb 1 4 = 0 := by rw [eXb, upd2_at, if_neg (by decide), upd2_at, if_neg (by decide), upd2_at, if_pos ⟨rfl, rfl⟩]
  have xb5 : Xb 1 5 = -1 := by rw [eXb, upd2_at, if_neg (by decide), upd2_at, if_pos ⟨rfl, rfl⟩]
  have xb6 : Xb 1 6 = 0 := by rw [eXb, upd2_at, if_pos ⟨rfl, rfl⟩]
  have xb10 : Xb 10 0 = 0 ∧ Xb 10 1 = 0 ∧ Xb 10 2 = 0 ∧ Xb 10 3 = 10 := by
    rw [eXb]
    refine ⟨?_, ?_, ?_, ?_⟩
    · rw [upd2_n _ _ _ (by decide), upd2_n _ _ _ (by decide), upd2_n _ _ _ (by decide), upd2_n _ _ _ (by decide), upd2_at, if_neg (by decide), upd2_at, if_neg (by decide), upd2_at, if_neg (by decide), upd2_at, if_pos ⟨rfl, rfl⟩]
    · rw [upd2_n _ _ _ (by decide), upd2_n _ _ _ (by decide), upd2_n _ _ _ (by decide), upd2_n _ _ _ (by decide), upd2_at, if_neg (by decide), upd2_at, if_neg (by decide), upd2_at, if_pos ⟨rfl, rfl⟩]
    · rw [upd2_n _ _ _ (by decide), upd2_n _ _ _ (by decide), upd2_n _ _ _ (by decide), upd2_n _ _ _ (by decide), upd2_at, if_neg (by decide), upd2_at, if_pos ⟨rfl, rfl⟩]
    · rw [upd2_n _ _ _ (by decide), upd2_n _ _ _ (by decide), upd2_n _ _ _ (by decide), upd2_n _ _ _ (by decide), upd2_at, if_pos ⟨rfl, rfl⟩]
  obtain ⟨Xc, eXc⟩ : ∃ Xc, Xc = upd2 Xb 1 2 (nI (SK r n 0)) := ⟨_, rfl⟩
  have FXc : FrC Mx Xc := by rw [eXc]; exact FrC_upd FXb (by omega)
  have D0 : Dr Xc (M2.1 2) 0 0 0 10 := by
    rw [s2.1 2 (by decide)]
    have xc : ∀ a b, ¬ (a = 1 ∧ b = 2) → Xc a b = Xb a b := fun a b hab => by rw [eXc, upd2_at, if_neg hab]
    refine ⟨⟨by rw [ma2 0 (by omega)]; rfl, by rw [ma2 1 (by omega)]; rfl, by rw [ma2 2 (by omega)]; rfl, by rw [ma2 3 (by omega)]; rfl, by omega, by omega, by omega, by omega, fun _ => rfl, fun f hf => by omega⟩, ⟨by rw [ma2 0 (by omega), xc _ _ (by decide)]; exact xb10.1, by rw [ma2 1 (by omega), xc _ _ (by decide)]; exact xb10.2.1, by rw [ma2 2 (by omega), xc _ _ (by decide)]; exact xb10.2.2.1, by rw [ma2 3 (by omega), xc _ _ (by decide)]; exact xb10.2.2.2, fun f hf => by omega⟩, fun o ho => by omega, fun o ho _ => by rw [ma2 (5 + o) (by omega), if_neg (by omega)], by rw [ma2 4 (by omega), xc _ _ (by decide)]; exact xb6, by rw [ma2 4 (by omega)]; exact Or.inl rfl⟩
  rw [s1, bo_s]
  obtain ⟨fu, efu⟩ : ∃ z, z = fuelN := ⟨_, rfl⟩
  have lfu : 1000 ≤ fu := by rw [efu]; exact (show 1000 ≤ 100000 by decide)
  obtain ⟨Km, eKm⟩ : ∃ Km : Int32 → MM → Option (Int32 × MM), Km = fun (k1_3 : Int32) (M_4 : MM) => (if k1_3 = 0 then some (((-10) - ((um (um M_4 0 9 0) 0 10 ((um M_4 0 9 0).1 0 16)).1 0 20)), um (um M_4 0 9 0) 0 10 ((um M_4 0 9 0).1 0 16)) else FX8_city_L99 (fun (M_6 : MM) => bo (FX8_begins M_6) (fun (M_7 : MM) => some ((M_7.1 1 2), M_7))) fuelN 0 (um M_4 0 9 0)) := ⟨_, rfl⟩
  rw [← eKm]
  obtain ⟨Mx2, Mm2, y1, y2, y3, y4⟩ := text_both (fun (M_3 : XM) => some ((M_3 1 4), M_3)) Km (n - SK r n 0) (SK r n 0) 0 fu fu 0 0 0 10 Xc M2 (by omega) (by omega) (by omega) (Nat.zero_le _) (TX_FrC T FXc) (TM_F5 Tma s2) (by rw [eXc, upd2_at, if_pos ⟨rfl, rfl⟩]) (by rw [eXc, upd2_at, if_neg (by decide)]; exact xb4) s3 D0
  rw [efu] at y3 y4
  have hread : FX2_readInto 10 Mx = some (Mx2 1 4, Mx2) := by
    unfold FX2_readInto FX1_clear
    rw [bo_s, ← eXb, x_skip (TX_FrC T FXb) xb2 (Nat.zero_le n), bo_s, ← eXc]
    exact y3
  have F2 : FrC Mx Mx2 := FrC_tr FXc y1
  have G2 : ∀ a, a ≠ 0 → a ≠ 2 → Mm2.1 a = Mm.1 a := fun a h1 h2 => (y2.1 a h1 h2).trans ((s2.1 a h1).trans (ma a h1 h2))
  have G0 : ∀ b, b < 10 ∨ 10 < b ∧ b < 15 → Mm2.1 0 b = Mm.1 0 b := fun b hb => (y2.2.1 b (by omega)).trans ((s2.2.1 b (by omega)).trans (ma0 b (by omega) (by omega)))
  have G10 : Mm2.1 0 10 = -1 := (y2.2.1 10 (by omega)).trans ((s2.2.1 10 (by omega)).trans ma10)
  have Gs : Mm2.2 = Mm.2 := y2.2.2.trans (s2.2.2.trans (by rw [eMa]; rfl))
  unfold FX7_city
  rw [hread, bd_s]
  rcases y4 with ⟨z1, z2, z3, kk2, no2, nf2, hh2, D⟩ | ⟨z1, q, E, c, b1, b2, b3, b4, b5, b6, b7⟩
  · -- a city
    obtain ⟨d1, d2, d3, d4, d5, d6⟩ := D
    have hnf := d1.2.2.2.2.2.2.1
    have hno := d1.2.2.2.2.2.1
    have one0 : ¬ (1 : Int32) = 0 := by decide
    obtain ⟨Mt, eMt⟩ : ∃ Mt, Mt = upd2 Mx2 1 1 0 := ⟨_, rfl⟩
    obtain ⟨Mc, ec, t1, t2, t3, t4⟩ := x_town (Mh := Mt) (c0 := 3) (c1 := 10) (by decide) (by decide) (by decide)
    obtain ⟨Mz, eMz⟩ : ∃ Mz, Mz = setR (um Mm2 0 9 0) 1 (pt ((um Mm2 0 9 0).1 1) ((um Mm2 0 9 0).1 2) 0 50) := ⟨_, rfl⟩
    have gz : ∀ k, k < 50 → Mz.1 1 k = Mm2.1 2 k := fun k hk => by
      have := pt_in (g := (um Mm2 0 9 0).1 1) (f := (um Mm2 0 9 0).1 2) (a := 0) hk
      rw [Nat.zero_add] at this
      rw [eMz, setR_c, this, um_at, if_neg (by omega)]
    have C2 : CityI (Mz.1 1) kk2 no2 nf2 hh2 := CityI_eq gz d1
    obtain ⟨M7, w0, w1, w2, w3, w4, w5, w6, w7, w8, w9⟩ := m_begins (M := Mz) hnf C2.2.2.1
    have mt10 : ∀ a b, 10 ≤ a → Mt a b = Mx2 a b := fun a b ha => by rw [eMt, upd2_at, if_neg (by omega)]
    obtain ⟨x0, x1, x2, x3, xF⟩ := d2
    obtain ⟨Md, v0, v1, v2⟩ := x_begin (M := Mc) (g := Mz.1 1) hno hnf (by rw [t1 1 (by decide), mt10 _ _ (by omega), x1]; exact d1.2.1) (by rw [t1 2 (by decide), mt10 _ _ (by omega), x2]; exact d1.2.2.1) (fun o ho => by rw [gz (5 + o) (by omega), show Mc 4 o = Mt 11 o from t2 o (by omega), mt10 _ _ (by omega)]; exact (d3 o ho).1) (fun o ho hn => by rw [gz (5 + o) (by omega)]; exact d4 o ho hn) (fun f hf => by rw [gz (42 + f) (by omega), show Mc 9 f = Mt 16 f from (t3 f (by omega)).2.2.2.2, mt10 _ _ (by omega)]; exact (xF f hf).2.2.2.2)
    obtain ⟨Mf, eMf⟩ : ∃ Mf, Mf = upd2 (upd2 (upd2 (upd2 Md 27 2 0) 33 2 0) 36 2 0) 0 10 0 := ⟨_, rfl⟩
    have hx : (if Mx2 1 4 = 0 then bo (FX1_copyFrom 3 10 (upd2 Mx2 1 1 0)) (fun (M_4 : XM) => bo (FX3_begin 17 3 M_4) (fun (M_5 : XM) => bo (FX4_clear M_5) (fun (M_6 : XM) => bo (FX0_clear 33 M_6) (fun (M_7 : XM) => bo (FX0_clear 36 M_7) (fun (M_8 : XM) => some ((upd2 M_8 0 10 0 3 2), upd2 M_8 0 10 0)))))) else some (((-10) - Mx2 1 4), upd2 Mx2 1 1 0)) = some (Mf 3 2, Mf) := by
      rw [if_pos z2, ← eMt, ec, bo_s, v0, bo_s, eMf]
      rfl
    have hm : FX8_city_L45 Km fuelN 1 M2 = some (M7.1 1 2, M7) := by
      rw [z1, eKm]
      show (if (1 : Int32) = 0 then _ else FX8_city_L99 _ fuelN 0 (um Mm2 0 9 0)) = _
      rw [if_neg one0, m_copy50, ← eMz, w0, bo_s]
    have mf : ∀ a, 3 ≤ a → a ≤ 9 → Mf a = Mc a := fun a h1 h2 => by
      rw [eMf, upd2_n _ _ _ (by omega), upd2_n _ _ _ (by omega), upd2_n _ _ _ (by omega), upd2_n _ _ _ (by omega)]
      exact v2 a (by omega) (by omega) (by omega)
    have g1' : M7.1 1 = Mz.1 1 := w2 1 (by decide) (by decide) (by decide)
    have mf3 : ∀ j, j < 4 → Mf 3 j = Mx2 10 j := fun j hj => by rw [mf 3 (by omega) (by omega), t1 j hj, mt10 _ _ (by omega)]
    have old : ∀ a b, (a = 0 ∧ b ≠ 10) ∨ (a = 1 ∧ b = 5) ∨ (27 ≤ a ∧ b ≠ 2) ∨ (28 ≤ a ∧ a ≠ 33 ∧ a ≠ 36) → Mf a b = Mx2 a b := fun a b hab => by
      rw [eMf, upd2_at, if_neg (by omega), upd2_at, if_neg (by omega), upd2_at, if_neg (by omega), upd2_at, if_neg (by omega), v2 a (by omega) (by omega) (by omega), t4 a (by omega), eMt, upd2_at, if_neg (by omega)]
    have hxm : Mf 3 2 = M7.1 1 2 := by rw [mf3 2 (by decide), x2, g1', gz 2 (by omega)]
    have r0k : ∀ b, b ≠ 4 → b ≠ 12 → b ≠ 14 → b ≠ 9 → M7.1 0 b = Mm2.1 0 b := fun b h1 h2 h3 h4 => by
      rw [w3 b h1 h2 h3, eMz, setR_n _ _ (by decide), um_at, if_neg (by omega)]
    refine ⟨M7.1 1 2, Mf, M7, ?_, hm, kk2, no2, nf2, hh2, ?_⟩
    · rw [← hxm]; exact hx
    refine ⟨by rw [g1']; exact C2, ?_, ?_, ?_, ?_, ?_, ?_, ?_, ?_, ?_, ?_⟩
    · rw [g1']
      refine ⟨?_, ?_, ?_, ?_, fun f hf => ?_⟩
      · rw [mf3 0 (by decide), gz 0 (by omega)]; exact x0
      · rw [mf3 1 (by decide), gz 1 (by omega)]; exact x1
      · rw [mf3 2 (by decide), gz 2 (by omega)]; exact x2
      · rw [mf3 3 (by decide), gz 3 (by omega)]; exact x3
      · have q := xF f hf
        obtain ⟨q2, q3, q4, q5, q6⟩ := t3 f (by omega)
        unfold byG at q ⊢
        rw [mf (3 + 2) (by omega) (by omega), mf (3 + 3) (by omega) (by omega), mf (3 + 4) (by omega) (by omega), mf (3 + 5) (by omega) (by omega), mf (3 + 6) (by omega) (by omega), q2, q3, q4, q5, q6, mt10 _ _ (by omega), mt10 _ _ (by omega), mt10 _ _ (by omega), mt10 _ _ (by omega), mt10 _ _ (by omega), gz (10 + f) (by omega), gz (18 + f) (by omega), gz (26 + f) (by omega), gz (34 + f) (by omega), gz (42 + f) (by omega)]
        exact q
    · have e17 : MindX Mf 17 (u0 (Mz.1 1) nf2) := MindX_eq (fun a h1 h2 => by rw [eMf, upd2_n _ _ _ (by omega), upd2_n _ _ _ (by omega), upd2_n _ _ _ (by omega), upd2_n _ _ _ (by omega)]) v1
      exact mindX_iff.mpr fun k hk => (mindX_iff.mp e17 k hk).trans (w1 k hk).symm
    · exact MindI_eq w1 (u0_I (no := no2) hnf (fun o ho => by rw [gz (5 + o) (by omega)]; exact (d3 o ho).2) (fun o ho hn => by rw [gz (5 + o) (by omega)]; exact d4 o ho hn))
    · exact ⟨0, nx, by omega, p2, by rw [eMf, upd2_n _ _ _ (by decide), upd2_n _ _ _ (by decide), upd2_n _ _ _ (by decide), upd2_at, if_pos ⟨rfl, rfl⟩]; rfl, by rw [old 27 1 (by omega), F2 27 1 (by omega) (by omega)]; exact p4, w4, fun i hi => by omega⟩
    · refine ⟨0, by omega, by rw [eMf, upd2_at, if_pos ⟨rfl, rfl⟩]; rfl, fun i hi => ⟨?_, fun z => absurd z (by rw [Nat.zero_testBit]; decide)⟩⟩
      rw [Nat.zero_testBit, if_neg (by decide)]
      have e2 : i = 0 ∨ i = 1 := by omega
      rcases e2 with rfl | rfl
      · exact w7
      · exact w8
    · exact ⟨0, by omega, by rw [eMf, upd2_n _ _ _ (by decide), upd2_n _ _ _ (by decide), upd2_at, if_pos ⟨rfl, rfl⟩]; rfl, w5, fun i hi => by omega⟩
    · exact ⟨0, by omega, by rw [eMf, upd2_n _ _ _ (by decide), upd2_at, if_pos ⟨rfl, rfl⟩]; rfl, w6, fun i hi => by omega⟩
    · refine ⟨0, by omega, ?_, ?_, fun i hi => by omega⟩
      · rw [eMf, upd2_n _ _ _ (by decide), upd2_n _ _ _ (by decide), upd2_n _ _ _ (by decide), upd2_n _ _ _ (by decide), v2 1 (by decide) (by decide) (by decide), t4 1 (by decide), eMt, upd2_at, if_pos ⟨rfl, rfl⟩]; rfl
      · rw [w3 9 (by decide) (by decide) (by decide), eMz, setR_n _ _ (by decide), um_at, if_pos ⟨rfl, rfl⟩]; rfl
    · rw [old 1 5 (by omega), z3, eXc, upd2_at, if_neg (by decide), xb5, r0k 10 (by decide) (by decide) (by decide) (by decide), G10]
    · rw [w9, eMz, setR_2, um_2, Gs]
      exact SeedR_eq (by rw [old 0 11 (by omega), F2 0 11 (by omega) (by omega)]) a11
  · -- a fault
    have nz : ¬ Mx2 1 4 = 0 := by rw [b2]; exact b1
    have hm : FX8_city_L45 Km fuelN 1 M2 = some (-10 - c, um (um Mm2 0 9 0) 0 10 (nI q)) := by
      rw [z1, eKm]
      show (if (0 : Int32) = 0 then some (((-10) - ((um (um Mm2 0 9 0) 0 10 ((um Mm2 0 9 0).1 0 16)).1 0 20)), um (um Mm2 0 9 0) 0 10 ((um Mm2 0 9 0).1 0 16)) else _) = _
      have e16 : (um Mm2 0 9 0).1 0 16 = nI q := by rw [um_at, if_neg (by decide)]; exact b5
      rw [if_pos rfl, e16, um_at, if_neg (by decide), um_at, if_neg (by decide), b4]
    refine ⟨-10 - c, upd2 Mx2 1 1 0, _, ?_, hm, kk, no, nf, hh, ?_⟩
    · rw [if_neg nz, b2]
    have fx : ∀ a, a ≠ 1 → (a < 10 ∨ 16 < a) → upd2 Mx2 1 1 0 a = Mx a := fun a h1 h2 => by
      funext j
      rw [upd2_at, if_neg (by omega)]
      exact F2 a j (by omega) h2
    have fm : ∀ a, a ≠ 0 → a ≠ 2 → (um (um Mm2 0 9 0) 0 10 (nI q)).1 a = Mm.1 a := fun a h1 h2 => by
      funext j
      rw [um_at, if_neg (by omega), um_at, if_neg (by omega), G2 a h1 h2]
    have fm0 : ∀ b, b < 9 ∨ 10 < b ∧ b < 15 → (um (um Mm2 0 9 0) 0 10 (nI q)).1 0 b = Mm.1 0 b := fun b hb => by
      rw [um_at, if_neg (by omega), um_at, if_neg (by omega), G0 b (by omega)]
    unfold RRk
    rw [fm 1 (by decide) (by decide), fm 3 (by decide) (by decide), fm 4 (by decide) (by decide), fm 5 (by decide) (by decide), fm 6 (by decide) (by decide), fm 8 (by decide) (by decide), fm 9 (by decide) (by decide), fm0 4 (by omega), fm0 12 (by omega), fm0 14 (by omega)]
    refine ⟨a1, CityX_eq (fun a h1 h2 => fx a (by omega) (by omega)) a2, MindX_eq (fun a h1 h2 => fx a (by omega) (by omega)) a3, a4, PastR_eq (fx _ (by decide) (by omega)) (fx _ (by decide) (by omega)) ⟨cnt, nx, p1, p2, p3, p4, p5, p6⟩, ImgR_eq (by rw [fx 0 (by decide) (by omega)]) (fx _ (by decide) (by omega)) (fx _ (by decide) (by omega)) a6, BookR_eq (fun a h1 h2 => fx a (by omega) (by omega)) a7, BookR_eq (fun a h1 h2 => fx a (by omega) (by omega)) a8, ⟨0, by omega, by rw [upd2_at, if_pos ⟨rfl, rfl⟩]; rfl, by rw [um_at, if_neg (by decide), um_at, if_pos ⟨rfl, rfl⟩]; rfl, fun i hi => by omega⟩, ?_, ?_⟩
    · rw [upd2_at, if_neg (by decide), b3, um_at, if_pos ⟨rfl, rfl⟩]
    · rw [um_2, um_2, Gs]
      exact SeedR_eq (by rw [fx 0 (by decide) (by omega)]) a11
