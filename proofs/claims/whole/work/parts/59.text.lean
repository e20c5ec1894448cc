/-! ===== city: the whole text ===== -/
noncomputable def xCl (r_1 : Int32) (M : XM) : Option XM := bo (FX2_toldAlready 10 r_1 M) (fun (r_2 : Int32) => (if r_2 = 0 then (if r_1 = 102 then bo (FX2_readFactOf 10 (upd2 M 1 2 ((M 1 2) + 1))) xEND else (if r_1 = 114 then bo (FX2_readReader 10 (upd2 M 1 2 ((M 1 2) + 1))) xEND else bd (FX2_readNumber 1 20 (upd2 M 1 2 ((M 1 2) + 1))) (fun (r_13 : Int32) (M_14 : XM) => xEND (upd2 (upd2 M_14 10 3 r_13) 1 6 1)))) else bo (FX2_mark 3 (M 1 2) M) (fun (M_15 : XM) => some M_15)))
theorem cl_eq (M : XM) : FX2_readClause 10 M = bo (FX2_next M) (fun (r_1 : Int32) => if r_1 = 114 then xCl r_1 M else if M 10 1 = 0 then bo (FX2_mark 1 (M 1 2) M) (fun (M_17 : XM) => some M_17) else if r_1 = 102 then xCl r_1 M else if r_1 = 104 then xCl r_1 M else bo (FX2_mark 1 (M 1 2) M) (fun (M_17 : XM) => some M_17)) := rfl
def b01 (X : Option (Int32 × MM)) : Option (Int32 × MM) := bd X (fun (r : Int32) (M : MM) => if bo01 r then some (r, M) else none)
theorem mcl_eq (M : MM) : FX8_readsClause M = (if (M.1 0 17) = 102 then (if M.1 2 1 = 0 then some (0, um M 0 20 1) else b01 (FX8_readsFact M)) else (if (M.1 0 17) = 104 then (if M.1 2 1 = 0 then some (0, um M 0 20 1) else b01 (FX8_readsSure M)) else (if (M.1 0 17) = 114 then b01 (FX8_readsReader M) else some (0, um M 0 20 1)))) := by
  have one0 : ¬ (1 : Int32) = 0 := by decide
  unfold FX8_readsClause FX8_fails b01
  simp only [bd_s, if_pos (show bo01 0 from Or.inl rfl), jn_s]
  by_cases q : M.1 2 1 = 0
  · simp only [if_pos q, if_neg one0]
  · simp only [if_neg q, if_pos]
theorem CRes_b01 {n q : Nat} {Mx : XM} {Mm : MM} {X : Option XM} {R : Option (Int32 × MM)} (h : CRes n q Mx Mm X R) : CRes n q Mx Mm X (b01 R) := by
  obtain ⟨Mx2, h1, h2, h3⟩ := h
  refine ⟨Mx2, h1, h2, ?_⟩
  rcases h3 with ⟨E, kk, no, nf, hh, Mm2, w1, w2, w3, w4⟩ | ⟨Mm2, w1, w2⟩
  · exact Or.inl ⟨E, kk, no, nf, hh, Mm2, w1, w2, by unfold b01; rw [w3, bd_s, if_pos (Or.inr rfl)], w4⟩
  · exact Or.inr ⟨Mm2, by unfold b01; rw [w1, bd_s, if_pos (Or.inl rfl)], w2⟩
theorem clause_both {Mx : XM} {Mm : MM} {r : Nat → Int32} {n q kk no nf hh : Nat} (T : TX Mx r n) (Tm : TM Mm r n) (h : Mx 1 2 = nI q) (hq : q < n) (h4 : Mx 1 4 = 0) (K : Tok r n q Mm) (D : Dr Mx (Mm.1 2) kk no nf hh) : CRes n q Mx Mm (FX2_readClause 10 Mx) (FX8_readsClause Mm) := by
  obtain ⟨⟨g0, g1, g2, g3, hk, hn5, hn8, hh20, hz, hF⟩, ⟨x0, x1, x2, x3, xF⟩, dB, dZ, d6, d4⟩ := id D
  obtain ⟨s16, s4⟩ := K
  have one0 : ¬ (1 : Int32) = 0 := by decide
  have x1' := x1.trans g1
  have x2' := x2.trans g2
  have mk : ∀ c : Int32, bo (FX2_mark c (nI q) Mx) (fun (M_17 : XM) => some M_17) = some (upd2 (upd2 Mx 1 4 c) 1 5 (nI q)) := fun c => by rw [x_mark h4, bo_s]
  have fail1 := CRes_mark (c := 1) h (Nat.le_of_lt hq) s16 (by decide)
  have fail3 := CRes_mark (c := 3) h (Nat.le_of_lt hq) s16 (by decide)
  rw [cl_eq, mcl_eq, x_next T h (by omega), bo_s, x1', g1, h, mk]
  rcases s4 with ⟨e, t17, -⟩ | ⟨e, t17, t15⟩
  · have c114 : ¬ ch r n q = 114 := fun z => by rw [z] at e; exact absurd e.2 (by decide)
    have c102 : ¬ ch r n q = 102 := fun z => by rw [z] at e; exact absurd e.2 (by decide)
    have c104 : ¬ ch r n q = 104 := fun z => by rw [z] at e; exact absurd e.2 (by decide)
    rw [if_neg c114, if_neg c102, if_neg c104, t17, if_neg (show ¬ (48 : Int32) = 102 by decide), if_neg (show ¬ (48 : Int32) = 104 by decide), if_neg (show ¬ (48 : Int32) = 114 by decide)]
    by_cases z : nI no = 0
    · rw [if_pos z]; exact fail1
    · rw [if_neg z]; exact fail1
  rw [if_pos hq] at t15
  rw [t17]
  obtain ⟨Xa, eXa⟩ : ∃ Xa, Xa = upd2 Mx 1 2 (nI (q + 1)) := ⟨_, rfl⟩
  have FXa : FrC Mx Xa := by rw [eXa]; exact FrC_upd (FrC_rf Mx) (by omega)
  have xa2 : Xa 1 2 = nI (q + 1) := by rw [eXa, upd2_at, if_pos ⟨rfl, rfl⟩]
  have xa5 : Xa 1 5 = Mx 1 5 := by rw [eXa, upd2_at, if_neg (by decide)]
  have xa4 : Xa 1 4 = 0 := by rw [eXa, upd2_at, if_neg (by decide)]; exact h4
  have Da : Dr Xa (Mm.1 2) kk no nf hh := Dr_P D (fun a b hab => by rw [eXa, upd2_at, if_neg (by omega)])
  have Ta := TX_FrC T FXa
  have zno : nI no = 0 ↔ no = 0 := ⟨fun z => (nI_eq (a := no) (b := 0) (by omega) (by decide)).mp z, fun z => by rw [z]; rfl⟩
  by_cases c114 : ch r n q = 114
  · rw [if_pos c114, c114, if_neg (show ¬ (114 : Int32) = 102 by decide), if_neg (show ¬ (114 : Int32) = 104 by decide), if_pos rfl]
    unfold xCl FX2_toldAlready
    rw [if_neg (show ¬ (114 : Int32) = 102 by decide), if_pos rfl, x1', h, nI_1, ← eXa, mk]
    by_cases z : no = 0
    · have nf0 : nf = 0 := hz z
      subst z
      subst nf0
      rw [if_pos (show nI 0 ≤ (0 : Int32) by decide), bo_s, if_pos rfl, if_neg (show ¬ (114 : Int32) = 102 by decide), if_pos rfl]
      exact CRes_mono (CRes_b01 (reader_both Ta Tm xa2 t15 (by omega) xa4 Da)) (by omega) FXa xa5
    · have nle : ¬ nI no ≤ 0 := nI_nle (by omega) (by omega)
      rw [if_neg nle, bo_s, if_neg one0, rr_eq, g1, if_neg nle]
      exact CRes_b01 fail3
  rw [if_neg c114]
  by_cases z : no = 0
  · have z2 := zno.mpr z
    rw [if_pos z2]
    by_cases c102 : ch r n q = 102
    · rw [if_pos c102, if_pos z2]; exact fail1
    rw [if_neg c102]
    by_cases c104 : ch r n q = 104
    · rw [if_pos c104, if_pos z2]; exact fail1
    rw [if_neg c104, if_neg c114]
    exact fail1
  have z2 : ¬ nI no = 0 := fun w => z (zno.mp w)
  rw [if_neg z2]
  by_cases c102 : ch r n q = 102
  · rw [if_pos c102, if_pos c102, if_neg z2, c102]
    unfold xCl FX2_toldAlready
    rw [if_pos rfl, x2', h, nI_1, ← eXa, mk]
    by_cases z8 : nf < 8
    · rw [if_pos (show nI nf < (8 : Int32) from nI_lt (b := 8) z8 (by decide)), bo_s, if_pos rfl, if_pos rfl]
      obtain ⟨Mxa, Mx2, y1, y2, y3, y4⟩ := fact_both Ta Tm xa2 t15 (by omega) xa4 Da (by omega) z8
      refine CRes_mono (CRes_b01 ⟨Mx2, by rw [y1, bo_s]; exact y2, y3, ?_⟩) (show q ≤ q + 1 by omega) FXa xa5
      rcases y4 with ⟨E, Mm2, w1, w2, w3⟩ | w
      · exact Or.inl ⟨E, kk, no, nf + 1, hh, Mm2, w1, w2, w3⟩
      · exact Or.inr w
    · have e8 : nf = 8 := by omega
      rw [if_neg (show ¬ nI nf < (8 : Int32) from (nI_nlt (by omega) (by omega) : ¬ nI nf < nI 8)), bo_s, if_neg one0]
      unfold FX8_readsFact FX8_fails
      rw [g2, e8, if_pos (show nI 8 = 8 from rfl), bd_s, if_pos (show bo01 0 from Or.inl rfl)]
      exact CRes_b01 fail3
  rw [if_neg c102, if_neg c102]
  by_cases c104 : ch r n q = 104
  · rw [if_pos c104, if_pos c104, if_neg z2, c104]
    unfold xCl FX2_toldAlready
    rw [if_neg (show ¬ (104 : Int32) = 102 by decide), if_neg (show ¬ (104 : Int32) = 114 by decide), d6, if_pos d4, bo_s, h, nI_1, ← eXa, mk, if_neg (show ¬ (104 : Int32) = 102 by decide), if_neg (show ¬ (104 : Int32) = 114 by decide)]
    by_cases hf : Mm.1 2 4 = 1
    · rw [hf, if_neg one0]
      unfold FX8_readsSure FX8_fails
      rw [if_pos hf, bd_s, if_pos (show bo01 0 from Or.inl rfl)]
      exact CRes_b01 fail3
    · have h0 : Mm.1 2 4 = 0 := by
        rcases d4 with w | w
        · exact w
        · exact absurd w hf
      rw [if_pos h0]
      exact CRes_mono (CRes_b01 (sure_both Ta Tm xa2 t15 (by omega) xa4 Da hf)) (by omega) FXa xa5
  rw [if_neg c104, if_neg c104, if_neg c114]
  exact fail1
/-- the text from a clause on -/
theorem text_both {r : Nat → Int32} {n : Nat} (Kx : XM → Option (Int32 × XM)) (Km : Int32 → MM → Option (Int32 × MM)) : ∀ (d q i kx km kk no nf hh : Nat) (Mx : XM) (Mm : MM), q + d = n → d < kx → d + 1 < km → i ≤ q → TX Mx r n → TM Mm r n → Mx 1 2 = nI q → Mx 1 4 = 0 → Tok r n q Mm → Dr Mx (Mm.1 2) kk no nf hh → ∃ (Mx2 : XM) (Mm2 : MM), FrC Mx Mx2 ∧ FrN Mm Mm2 ∧ FX2_readInto_L30 10 Kx kx (nI i) Mx = Kx Mx2 ∧ ((FX8_city_L45 Km km 1 Mm = Km 1 Mm2 ∧ Mx2 1 4 = 0 ∧ Mx2 1 5 = Mx 1 5 ∧ ∃ kk no nf hh, Dr Mx2 (Mm2.1 2) kk no nf hh) ∨ (FX8_city_L45 Km km 1 Mm = Km 0 Mm2 ∧ BAD n Mx2 Mm2)) := by
  intro d
  induction d using Nat.strongRecOn with
  | ind d ih =>
    intro q i kx km kk no nf hh Mx Mm hqd hkx hkm hi T Tm h h4 K D
    obtain ⟨kx, rfl⟩ : ∃ z, kx = z + 1 := ⟨kx - 1, by omega⟩
    obtain ⟨km, rfl⟩ : ∃ z, km = z + 2 := ⟨km - 2, by omega⟩
    have t2 := T.2.1
    have one0 : ¬ (1 : Int32) = 0 := by decide
    by_cases hq : ¬ q < n
    · have ec : ch r n q = -1 := if_neg hq
      have nd : ¬ isD (ch r n q) := by rw [ec]; exact fun z => absurd z.1 (by decide)
      have t17 : Mm.1 0 17 = -1 := by
        rcases K.2 with ⟨z, -⟩ | ⟨-, t17, -⟩
        · exact absurd z nd
        · rw [t17]; exact ec
      refine ⟨Mx, Mm, FrC_rf Mx, FrN_rf Mm, ?_, Or.inl ⟨?_, h4, rfl, kk, no, nf, hh, D⟩⟩
      · rw [FX2_readInto_L30]
        by_cases q2 : (240 : Int32) ≤ nI i
        · rw [if_pos q2]
        · rw [if_neg q2, x_next T h (by omega), bo_s, if_pos ec]
      · rw [FX8_city_L45, t17, if_pos (by decide)]
    replace hq := Classical.not_not.mp hq
    obtain ⟨x, hx, ex⟩ := (T.2.2 q hq).2
    have ec : ch r n q = nI x := (ch_lt hq).trans ex
    have nm1 : ¬ ch r n q = -1 := by rw [ec]; exact nI_m1n (by omega)
    have n17 : ¬ Mm.1 0 17 < 0 := by
      rcases K.2 with ⟨z, t17, -⟩ | ⟨-, t17, -⟩
      · rw [t17]; decide
      · rw [t17, ec]; exact nI_pos (by omega)
    rw [FX2_readInto_L30, if_neg (show ¬ (240 : Int32) ≤ nI i from nI_ge (b := 240) (by omega) (by decide)), x_next T h (by omega), bo_s, if_neg nm1, h4, if_pos rfl, FX8_city_L45, if_neg n17, if_neg one0]
    obtain ⟨Mx1, y1, y2, y3⟩ := clause_both T Tm h hq h4 K D
    have T1 := TX_FrC T y2
    rcases y3 with ⟨E, kk2, no2, nf2, hh2, Mm1, w1, w2, w3, w4, w5, w6, w7, w8, w9⟩ | ⟨Mm1, w1, w2, B⟩
    · obtain ⟨k1, k2, k3⟩ := SK_ok (r := r) (n := n) (n - E) E (by omega)
      obtain ⟨Mm2, s1, s2, s3⟩ := m_step (TM_FrN Tm w4) (fun i hi => (T.2.2 i hi).2) w7 w1
      rw [y1, bo_s, x_skip T1 w5 w1, bo_s, w3, bd_s, if_neg one0, s1, bo_s, nI_1]
      have F2 : FrC Mx (upd2 Mx1 1 2 (nI (SK r n E))) := FrC_upd y2 (by omega)
      obtain ⟨Mx3, Mm3, z1, z2, z3, z4⟩ := ih (n - SK r n E) (by omega) (SK r n E) (i + 1) kx (km + 1) kk2 no2 nf2 hh2 (upd2 Mx1 1 2 (nI (SK r n E))) Mm2 (by omega) (by omega) (by omega) (by omega) (TX_FrC T F2) (TM_FrN Tm (FrN_tr w4 (FrN_5 s2))) (by rw [upd2_at, if_pos ⟨rfl, rfl⟩]) (by rw [upd2_at, if_neg (by decide)]; exact w6) s3 (by rw [s2.1 2 (by decide)]; exact Dr_P w8 (fun a b hab => by rw [upd2_at, if_neg (by omega)]))
      refine ⟨Mx3, Mm3, FrC_tr F2 z1, FrN_tr (FrN_tr w4 (FrN_5 s2)) z2, z3, ?_⟩
      rcases z4 with ⟨a1, a2, a3, a4⟩ | z4
      · exact Or.inl ⟨a1, a2, by rw [a3, upd2_at, if_neg (by decide), w9], a4⟩
      · exact Or.inr z4
    · obtain ⟨q', E, c, h1, h2, h3, h5, h6, h7, h8⟩ := id B
      have F2 : FrC Mx (upd2 Mx1 1 2 (nI (SK r n E))) := FrC_upd y2 (by omega)
      have T2 := TX_FrC T F2
      obtain ⟨k1, k2, k3⟩ := SK_ok (r := r) (n := n) (n - E) E (by omega)
      have e2 : (upd2 Mx1 1 2 (nI (SK r n E))) 1 2 = nI (SK r n E) := by rw [upd2_at, if_pos ⟨rfl, rfl⟩]
      have e4 : ¬ (upd2 Mx1 1 2 (nI (SK r n E))) 1 4 = 0 := by rw [upd2_at, if_neg (by decide), h2]; exact h1
      obtain ⟨kx, rfl⟩ : ∃ z, kx = z + 1 := ⟨kx - 1, by omega⟩
      have hKx : FX2_readInto_L30 10 Kx (kx + 1) (nI (i + 1)) (upd2 Mx1 1 2 (nI (SK r n E))) = Kx (upd2 Mx1 1 2 (nI (SK r n E))) := by
        rw [FX2_readInto_L30]
        by_cases q2 : (240 : Int32) ≤ nI (i + 1)
        · rw [if_pos q2]
        · rw [if_neg q2, x_next T2 e2 k2, bo_s]
          by_cases q3 : ch r n (SK r n E) = -1
          · rw [if_pos q3]
          · rw [if_neg q3, if_neg e4]
      have hKm : FX8_city_L45 Km (km + 1) 0 Mm1 = Km 0 Mm1 := by
        rw [FX8_city_L45]
        by_cases q2 : Mm1.1 0 17 < 0
        · rw [if_pos q2]
        · rw [if_neg q2, if_pos rfl]
      refine ⟨upd2 Mx1 1 2 (nI (SK r n E)), Mm1, F2, w2, ?_, Or.inr ⟨?_, q', SK r n E, c, h1, by rw [upd2_at, if_neg (by decide)]; exact h2, by rw [upd2_at, if_neg (by decide)]; exact h3, h5, h6, e2, k2⟩⟩
      · rw [y1, bo_s, x_skip T1 h7 h8, bo_s, nI_1]
        exact hKx
      · rw [w1, bd_s, if_pos rfl]
        exact hKm
