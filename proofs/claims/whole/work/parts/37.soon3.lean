/-! ===== soonest: the method ===== -/
theorem ScrM_fr {M M2 : MM} (h : FrM M M2) : ScrM M M2 := ⟨fun a ha => h.1 a (by omega) (by omega), by rw [h.1 0 (by decide) (by decide)], by rw [h.1 0 (by decide) (by decide)], by rw [h.1 0 (by decide) (by decide)], by rw [h.1 0 (by decide) (by decide)], by rw [h.1 0 (by decide) (by decide)], h.2⟩
theorem ScrM_um {M : MM} {k : Nat} {v : Int32} (hk : 14 < k) : ScrM M (um M 0 k v) := ⟨fun a ha => by funext j; rw [um_at, if_neg (by omega)], by rw [um_at, if_neg (by omega)], by rw [um_at, if_neg (by omega)], by rw [um_at, if_neg (by omega)], by rw [um_at, if_neg (by omega)], by rw [um_at, if_neg (by omega)], rfl⟩
theorem lay_both {Mx : XM} {Mm : MM} {kk no nf hh : Nat} (H : RRk Mx Mm kk no nf hh) {al nn : Int32} (ha : ∃ a, a < 2 ^ no ∧ al = nI a) : ∃ Mx2 Mm2, ScrX Mx Mx2 ∧ ScrM Mm Mm2 ∧ ((FX7_findSoonest al nn Mx = some (0, Mx2) ∧ FX8_layNights al nn Mm = some (1000000, Mm2)) ∨ ∃ n : Nat, n ≤ 2 ∧ FX7_findSoonest al nn Mx = some (1, Mx2) ∧ FX8_layNights al nn Mm = some (nI n, Mm2) ∧ Mx2 26 0 = nI n ∧ (1 ≤ n → Mx2 26 1 = Mm2.1 0 23) ∧ (n = 2 → Mx2 26 2 = Mm2.1 0 24)) := by
  obtain ⟨a1, a2, a3, a4, a5, a6, a7, a8, a9, a10, a11⟩ := id H
  obtain ⟨c0, c1, c2, c3, c4, hno, hnf, -, -, hF⟩ := id a1
  obtain ⟨b0, b1, b2, b3, bF⟩ := id a2
  obtain ⟨N, hN, MN⟩ := mindN_of a4
  unfold FX7_findSoonest FX8_layNights
  rw [x_want (c := 17) (g := Mm.1 1) (by decide) (by rw [b1]; exact c1) b3 hno a3.1, bo_s, m_want (c := 3) (by decide) rfl c1 hno (fun _ _ => rfl) ha, bo_s]
  by_cases q0 : sW (Mm.1 1) no al nn (Mm.1 3)
  · rw [if_pos q0, if_neg (show ¬ (1 : Int32) = 0 by decide), if_neg (show ¬ (1 : Int32) = 0 by decide)]
    refine ⟨upd2 (upd2 (upd2 Mx 26 0 0) 26 1 (-1)) 26 2 (-1), Mm, fun a q => ?_, ScrM_rf _, Or.inr ⟨0, by decide, rfl, rfl, ?_, fun z => by omega, fun z => by omega⟩⟩
    · rw [upd2_n _ _ _ (by omega), upd2_n _ _ _ (by omega), upd2_n _ _ _ (by omega)]
    · rw [upd2_at, if_neg (by decide), upd2_at, if_neg (by decide), upd2_at, if_pos ⟨rfl, rfl⟩]
      rfl
  rw [if_neg q0, if_pos rfl, if_pos rfl, c2, shl1 nf (by omega)]
  rcases m_one (M0 := Mm) (nf := nf) (so := Mm.1 3 13) (nn := nn) rfl a1 rfl rfl MN.2.2.1 (by omega) ha (fun (M_3 : MM) => FX8_layNights_L87 al nn (nI (2 ^ nf)) (fun (M_4 : MM) => some (1000000, M_4)) fuelN 0 M_3) with ⟨j, r, z1, z2, z3, z4⟩ | ⟨z1, r, z2⟩
  · rcases x_one (M0 := Mx) (c1 := 17) (c2 := 20) (so := Mm.1 3 13) (al := al) (nn := nn) (e := -1) (by decide) (by decide) (by decide) (by decide) a1 a2 a3.2.2.1 a3.1 a3.2.1 MN.2.2.1 (by omega) with ⟨j2, M3, y1, y2, y3, y4, y5, y6, y7, y8⟩ | ⟨y1, M3, y2, y3⟩
    · have e : j = j2 := least_eq z2 y2 z3 y3
      subst e
      refine ⟨M3, um (setR Mm 10 r) 0 23 (nI j), fun a q => y5 a (by omega) (by omega) (by omega) (by omega), ScrM_tr (ScrM_set _ _ (Or.inl (by decide))) (ScrM_um (by decide)), Or.inr ⟨1, by decide, by rw [y4, bd_s, if_neg (show ¬ (1 : Int32) = 0 by decide)], z4, ?_, fun _ => ?_, fun z => by omega⟩⟩
      · rw [y6, if_pos rfl]; rfl
      · rw [y7, if_pos rfl, um_at, if_pos ⟨rfl, rfl⟩]
    · exact absurd z2 (y1 j z1)
  · rcases x_one (M0 := Mx) (c1 := 17) (c2 := 20) (so := Mm.1 3 13) (al := al) (nn := nn) (e := -1) (by decide) (by decide) (by decide) (by decide) a1 a2 a3.2.2.1 a3.1 a3.2.1 MN.2.2.1 (by omega) with ⟨j2, M3, y1, y2, y3, y4, y5, y6, y7, y8⟩ | ⟨y1, M3, y2, y3⟩
    · exact absurd y2 (z1 j2 y1)
    rw [z2, y2, bd_s, if_pos rfl]
    have F3 : ∀ a, a < 20 ∨ 22 < a → M3 a = Mx a := fun a q => y3 a (by omega) (by omega) (by omega)
    have scrx : ScrX Mx M3 := ScrX_fr (Or.inl rfl) y3
    have scrm : ScrM Mm (setR Mm 10 r) := ScrM_set _ _ (Or.inl (by decide))
    have s1 : (setR Mm 10 r).1 1 = Mm.1 1 := setR_n _ _ (by decide)
    have s3 : (setR Mm 10 r).1 3 = Mm.1 3 := setR_n _ _ (by decide)
    rcases m_two (M0 := setR Mm 10 r) (nf := nf) (so := Mm.1 3 13) (nn := nn) s1 a1 (by rw [s3]) s3 MN.2.2.1 (by omega) ha (fun (M_4 : MM) => some (1000000, M_4)) with ⟨b, j, M2, w1, w2, w3⟩ | ⟨w1, M2, w2, w3⟩
    · rcases x_two (M0 := M3) (so := Mm.1 3 13) (al := al) (nn := nn) a1 (CityX_eq (fun a _ _ => F3 a (by omega)) a2) (by rw [F3 17 (by omega)]; exact a3.2.2.1) (fun o ho => by rw [F3 _ (by omega)]; exact a3.1 o ho) (fun o ho => by rw [F3 _ (by omega)]; exact a3.2.1 o ho) MN.2.2.1 (by omega) with ⟨b2, j2, M4, v1, v2, v3, v4, v5, v6⟩ | ⟨v1, M4, v2, v3⟩
      · obtain ⟨rfl, rfl⟩ := sL2_eq w1 v1
        refine ⟨M4, um (um M2 0 23 (nI b)) 0 24 (nI j), ScrX_tr scrx (fun a q => v3 a ?_), ScrM_tr scrm (ScrM_tr (ScrM_fr w2) (ScrM_tr (ScrM_um (by decide)) (ScrM_um (by decide)))), Or.inr ⟨2, by decide, by rw [v2, bd_s, if_neg (show ¬ (1 : Int32) = 0 by decide)], w3, v4, fun _ => ?_, fun _ => ?_⟩⟩
        · omega
        · rw [v5, um_at, if_neg (by decide), um_at, if_pos ⟨rfl, rfl⟩]
        · rw [v6, um_at, if_pos ⟨rfl, rfl⟩]
      · exact absurd ⟨w1.2.2.2.1, j, w1.2.1, w1.2.2.2.2.1⟩ (v1 b w1.1)
    · rcases x_two (M0 := M3) (so := Mm.1 3 13) (al := al) (nn := nn) a1 (CityX_eq (fun a _ _ => F3 a (by omega)) a2) (by rw [F3 17 (by omega)]; exact a3.2.2.1) (fun o ho => by rw [F3 _ (by omega)]; exact a3.1 o ho) (fun o ho => by rw [F3 _ (by omega)]; exact a3.2.1 o ho) MN.2.2.1 (by omega) with ⟨b2, j2, M4, v1, v2, v3, v4, v5, v6⟩ | ⟨v1, M4, v2, v3⟩
      · exact absurd ⟨v1.2.2.2.1, j2, v1.2.1, v1.2.2.2.2.1⟩ (w1 b2 v1.1)
      · exact ⟨M4, M2, ScrX_tr scrx (fun a q => v3 a (by omega)), ScrM_tr scrm (ScrM_fr w2), Or.inl ⟨by rw [v2, bd_s, if_pos rfl], w3⟩⟩
theorem sim_soonest : Sim_soonest RR := by
  intro Mx Mm h a b c
  obtain ⟨kk, no, nf, hh, H⟩ := h
  obtain ⟨a1, a2, a3, a4, a5, a6, a7, a8, a9, a10, a11⟩ := id H
  obtain ⟨c0, c1, c2, c3, c4, hno, hnf, -, -, hF⟩ := id a1
  obtain ⟨b0, b1, b2, b3, bF⟩ := id a2
  unfold FX7_soonest FX8_soonest
  rw [opins_x (n := no) (by rw [b1]; exact c1) (by omega), opins_m c1 (by omega), opins_x (n := no) (by rw [b1]; exact c1) (by omega), opins_m c1 (by omega), bo_s, bo_s, bo_s, bo_s]
  by_cases qa : ¬ (0 ≤ a.toInt ∧ a.toInt < (2 ^ no : Nat))
  · rw [if_neg qa, if_pos rfl, if_pos rfl]
    exact ⟨_, _, _, rfl, rfl, kk, no, nf, hh, H⟩
  replace qa := Classical.not_not.mp qa
  rw [if_pos qa, if_neg (show ¬ (1 : Int32) = 0 by decide), if_neg (show ¬ (1 : Int32) = 0 by decide)]
  by_cases qb : ¬ (0 ≤ b.toInt ∧ b.toInt < (2 ^ no : Nat))
  · rw [if_neg qb, if_pos rfl, if_pos rfl]
    exact ⟨_, _, _, rfl, rfl, kk, no, nf, hh, H⟩
  replace qb := Classical.not_not.mp qb
  rw [if_pos qb, if_neg (show ¬ (1 : Int32) = 0 by decide), if_neg (show ¬ (1 : Int32) = 0 by decide)]
  obtain ⟨Mx2, Mm2, hx, hm, hc⟩ := lay_both H (al := a) (nn := b) (i_nat qa)
  have H2 := RRk_scr hx hm H
  have H3 := RRk_scr (ScrX_rf Mx) hm H
  have n1 : ((-1 : Int32)).toInt = -1 := rfl
  rcases hc with ⟨e1, e2⟩ | ⟨n, hn, e1, e2, e3, e4, e5⟩
  · rw [e1, e2, bd_s, bd_s, if_pos rfl, if_pos rfl]
    by_cases q : c < -1
    · rw [if_pos q]
      exact ⟨_, _, _, rfl, rfl, kk, no, nf, hh, H3⟩
    · rw [if_neg q]
      exact ⟨_, _, _, rfl, rfl, kk, no, nf, hh, H2⟩
  · have nfar : ¬ nI n = 1000000 := fun z => absurd (show (nI n).toInt = 1000000 by rw [z]; rfl) (by rw [nI_toInt (by omega)]; omega)
    have hc1 : (nI n - 1).toInt = (n : Int) - 1 := subI (a := n) (b := 1) (by omega) (by decide)
    rw [e1, e2, bd_s, bd_s, if_neg (show ¬ (1 : Int32) = 0 by decide), if_neg nfar, in_i (p := 0) (q := (n : Int) - 1) rfl (by rw [l_of]; exact hc1), bo_s]
    have ec : (nI n).toInt = (n : Int) := nI_toInt (by omega)
    by_cases q : c < -1
    · have q1 := i_lt.mp q
      rw [if_pos q, if_neg (show ¬ c = -1 from fun z => by rw [z] at q1; omega), if_neg (show ¬ (0 ≤ c.toInt ∧ c.toInt ≤ (n : Int) - 1) by omega), if_pos rfl]
      exact ⟨_, _, _, rfl, rfl, kk, no, nf, hh, H3⟩
    rw [if_neg q, e3]
    by_cases q2 : c = -1
    · rw [if_pos q2, if_pos q2]
      exact ⟨_, _, _, rfl, rfl, kk, no, nf, hh, H2⟩
    rw [if_neg q2, if_neg q2]
    have q4 : ¬ c.toInt < -1 := fun z => q (i_lt.mpr (by rw [n1]; exact z))
    have q5 : ¬ c.toInt = -1 := fun z => q2 (Int32.toInt_inj.mp (by rw [z]; rfl))
    by_cases q3 : c < nI n
    · have q6 := i_lt.mp q3
      obtain ⟨j, hj, rfl⟩ := i_nat (a := c) (n := n) (by omega)
      have ej : (nI j).toInt = (j : Int) := nI_toInt (by omega)
      rw [if_pos q3, if_pos (show 0 ≤ (nI j).toInt ∧ (nI j).toInt ≤ (n : Int) - 1 by omega), if_neg (show ¬ (1 : Int32) = 0 by decide)]
      by_cases q7 : nI j = 0
      · rw [if_pos q7, if_pos q7, e4 (by omega)]
        exact ⟨_, _, _, rfl, rfl, kk, no, nf, hh, H2⟩
      · have q8 : j ≠ 0 := fun z => q7 (by rw [z]; rfl)
        rw [if_neg q7, if_neg q7, e5 (by omega)]
        exact ⟨_, _, _, rfl, rfl, kk, no, nf, hh, H2⟩
    · have q6 : ¬ c.toInt < (n : Int) := fun z => q3 (i_lt.mpr (by rw [ec]; exact z))
      rw [if_neg q3, if_neg (show ¬ (0 ≤ c.toInt ∧ c.toInt ≤ (n : Int) - 1) by omega), if_pos rfl]
      exact ⟨_, _, _, rfl, rfl, kk, no, nf, hh, H2⟩
