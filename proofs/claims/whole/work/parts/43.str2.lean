/-! ===== strengths: the method ===== -/
theorem CityX_town {M M2 : XM} {g by_ : Nat → Int32} {nf : Nat} (hnf : nf ≤ 8) (X : CityX M 3 g nf by_) (T : TwC M M2 10 3 5 8) : CityX M2 10 g nf by_ := by
  obtain ⟨t1, t2, t3, t4⟩ := T
  obtain ⟨x0, x1, x2, x3, xF⟩ := X
  refine ⟨(t1 0 (by decide)).trans x0, (t1 1 (by decide)).trans x1, (t1 2 (by decide)).trans x2, (t1 3 (by decide)).trans x3, fun f hf => ?_⟩
  obtain ⟨w2, w3, w4, w5, w6⟩ := t3 f (by omega)
  obtain ⟨v2, v3, v4, v5, v6⟩ := xF f hf
  exact ⟨w2.trans v2, w3.trans v3, w4.trans v4, w5.trans v5, w6.trans v6⟩
theorem CityX_put {M : XM} {g by_ : Nat → Int32} {nf f q : Nat} (hf : f < nf) (X : CityX M 10 g nf by_) (hb : ∀ e, e < nf → e ≠ f → by_ e = byG g e) : CityX (upd2 M 13 f (nI q - 9)) 10 g nf (byK g f q) := by
  obtain ⟨x0, x1, x2, x3, xF⟩ := X
  refine ⟨by rw [upd2_at, if_neg (by omega)]; exact x0, by rw [upd2_at, if_neg (by omega)]; exact x1, by rw [upd2_at, if_neg (by omega)]; exact x2, by rw [upd2_at, if_neg (by omega)]; exact x3, fun e he => ?_⟩
  obtain ⟨v2, v3, v4, v5, v6⟩ := xF e he
  refine ⟨by rw [upd2_at, if_neg (by omega)]; exact v2, ?_, by rw [upd2_at, if_neg (by omega)]; exact v4, by rw [upd2_at, if_neg (by omega)]; exact v5, by rw [upd2_at, if_neg (by omega)]; exact v6⟩
  show upd2 M 13 f (nI q - 9) 13 e = if e = f then nI q - 9 else byG g e
  rw [upd2_at]
  by_cases h : e = f
  · rw [if_pos ⟨rfl, h⟩, if_pos h]
  · rw [if_neg (fun z => h z.2), if_neg h, ← hb e he h]
    exact v3
theorem sim_strengths : Sim_strengths RR := by
  intro Mx Mm h a b
  obtain ⟨kk, no, nf, hh, H⟩ := h
  obtain ⟨a1, a2, a3, a4, a5, a6, a7, a8, a9, a10, a11⟩ := id H
  obtain ⟨c0, c1, c2, c3, c4, hno, hnf, -, -, hF⟩ := id a1
  obtain ⟨b0, b1, b2, b3, bF⟩ := id a2
  obtain ⟨N, hN, MN⟩ := mindN_of a4
  obtain ⟨n, hn, e2, em, hE⟩ := id a7
  have p256 : 2 ^ nf ≤ 2 ^ 8 := Nat.pow_le_pow_right (by decide) hnf
  unfold FX7_strengths FX8_strengths
  rw [fact_x (nf := nf) (by rw [b2]; exact c2) hnf, fact_m c2 hnf, facts_x (n := nf) (by rw [b2]; exact c2) hnf, facts_m c2 hnf, bo_s, bo_s, bo_s, bo_s]
  by_cases qa : ¬ (0 ≤ a.toInt ∧ a.toInt < nf)
  · rw [if_neg qa, if_pos rfl, if_pos rfl]
    exact ⟨_, _, _, rfl, rfl, kk, no, nf, hh, H⟩
  replace qa := Classical.not_not.mp qa
  obtain ⟨f, hf, rfl⟩ := i_nat qa
  rw [if_pos qa, if_neg (show ¬ (1 : Int32) = 0 by decide), if_neg (show ¬ (1 : Int32) = 0 by decide)]
  by_cases qb : ¬ (0 ≤ b.toInt ∧ b.toInt < (2 ^ nf : Nat))
  · rw [if_neg qb, if_pos rfl, if_pos rfl]
    exact ⟨_, _, _, rfl, rfl, kk, no, nf, hh, H⟩
  replace qb := Classical.not_not.mp qb
  obtain ⟨s, hs, rfl⟩ := i_nat qb
  rw [if_pos qb, if_neg (show ¬ (1 : Int32) = 0 by decide), if_neg (show ¬ (1 : Int32) = 0 by decide), may_x (kk := kk) (no := no) (by rw [b0]; exact c0) (by rw [b1]; exact c1) a3.2.2.1 c4 hno (by omega), may_m c0 c1 c4 hno (by omega), bo_s, bo_s]
  by_cases qm : ¬ sMay kk no (Mm.1 3 13) s
  · rw [if_neg qm, if_pos rfl, if_pos rfl]
    exact ⟨_, _, _, rfl, rfl, kk, no, nf, hh, H⟩
  replace qm := Classical.not_not.mp qm
  obtain ⟨Mt, et, T⟩ := x_town (Mh := Mx) (c0 := 10) (c1 := 3) (by decide) (by decide) (by decide)
  rw [if_pos qm, if_neg (show ¬ (1 : Int32) = 0 by decide), if_neg (show ¬ (1 : Int32) = 0 by decide), et, bo_s]
  have L : ∀ (d i k : Nat) (M : XM) (r : Nat → Int32) (v : Int32) (by_ : Nat → Int32), i + d = 19 → d < k → ScrX Mx M → CityX M 10 (Mm.1 1) nf by_ → (∀ e, e < nf → e ≠ f → by_ e = byG (Mm.1 1) e) → ∃ (w : Int32) (M2 : XM) (r2 : Nat → Int32), FX7_strengths_L52 (nI f) (nI s) (fun (k3_8 : Int32) (M_9 : XM) => some (k3_8, M_9)) k v (nI i) M = some (w, M2) ∧ FX8_strengths_L42 (nI f) (nI s) (fun (k3_7 : Int32) (M_8 : MM) => some (k3_7, M_8)) k v (nI i) (setR Mm 10 r) = some (w, setR Mm 10 r2) ∧ ScrX Mx M2 := by
    intro d
    induction d with
    | zero =>
      intro i k M r v by_ hi hk F X hb
      obtain ⟨k, rfl⟩ : ∃ z, k = z + 1 := ⟨k - 1, by omega⟩
      have e : i = 19 := by omega
      subst e
      rw [FX7_strengths_L52, FX8_strengths_L42, if_pos (show (18 : Int32) < nI 19 by decide), if_pos (show (19 : Int32) ≤ nI 19 by decide)]
      exact ⟨_, _, _, rfl, rfl, F⟩
    | succ d ih =>
      intro i k M r v by_ hi hk F X hb
      obtain ⟨k, rfl⟩ : ∃ z, k = z + 1 := ⟨k - 1, by omega⟩
      have X2 := CityX_put (q := i) hf X hb
      obtain ⟨M1, eM1⟩ : ∃ M1, M1 = upd2 M 13 f (nI i - 9) := ⟨_, rfl⟩
      rw [← eM1] at X2
      have F1 : ScrX Mx M1 := fun a ha => by rw [eM1, upd2_n _ _ _ (by omega)]; exact F a ha
      obtain ⟨M2, e4, F2⟩ := x_thinkB (M := M1) (d := 10) (n := n) (r8 := Mm.1 8) (sheet := nI s) (by decide) a1 X2 (fun o ho => by rw [F1 _ (by omega)]; exact a3.1 o ho) (fun o ho => by rw [F1 _ (by omega)]; exact a3.2.1 o ho) MN.2.2.1 (by omega) hn (by rw [F1 _ (by omega)]; exact e2) (fun i hi => by rw [F1 (33 + 1) (by omega), F1 (33 + 2) (by omega)]; exact hE i hi)
      have F3 : ScrX Mx M2 := ScrX_tr F1 (ScrX_fr (Or.inl rfl) F2)
      have X3 := CityX_fr (show x_is3 20 by decide) (show x_is1 10 by decide) F2 X2
      have hb3 : ∀ e, e < nf → e ≠ f → byK (Mm.1 1) f i e = byG (Mm.1 1) e := fun e _ he => by show (if e = f then nI i - 9 else byG (Mm.1 1) e) = _; rw [if_neg he]
      obtain ⟨r0, r2, t1, t2, t3⟩ := st_m (Mm := Mm) (s := s) (q := i) (b3 := v) a1 MN.2.2.1 (by omega) hn em (fun i hi => (hE i hi).1) hf (fun (M_14 : MM) => bo (FX8_isThought M_14) (fun (r_15 : Int32) => jn (fun (s_16 : Int32) => FX8_strengths_L42 (nI f) (nI s) (fun (k3_7 : Int32) (M_8 : MM) => some (k3_7, M_8)) k (v ||| s_16) (nI i + 1) M_14) (fun J141 => (if r_15 = 0 then J141 0 else J141 (1 <<< (nI i &&& 31)))))) r
      rw [FX7_strengths_L52, FX8_strengths_L42, if_neg (show ¬ (18 : Int32) < nI i from (nI_nlt (by omega) (by omega) : ¬ nI 18 < nI i)), if_neg (show ¬ (19 : Int32) ≤ nI i from nI_ge (b := 19) (by omega) (by decide)), put_ok (show f < 8 by omega), bo_s, ← eM1, e4, bd_s, jn_s, t1, bo_s, t2, t3, bo_s, jn_s]
      by_cases qt : sF (sGo (Mm.1 1) (byK (Mm.1 1) f i) (nI s) (-1, Mm.1 3) nf).2 (Mm.1 8) n 0 = -1
      · rw [if_pos qt, if_neg (show ¬ (1 : Int32) = 0 by decide), if_neg (show ¬ (1 : Int32) = 0 by decide), nI_1]
        exact ih (i + 1) k M2 r2 _ _ (by omega) (by omega) F3 X3 hb3
      · rw [if_neg qt, if_pos rfl, if_pos rfl, nI_1]
        obtain ⟨w, M4, r4, y1, y2, y3⟩ := ih (i + 1) k M2 r2 v _ (by omega) (by omega) F3 X3 hb3
        rw [← or_0 v] at y2
        exact ⟨w, M4, r4, y1, y2, y3⟩
  obtain ⟨w, M2, r2, y1, y2, y3⟩ := L 19 0 fuelN Mt (Mm.1 10) 0 (byG (Mm.1 1)) (by omega) (show 19 < 100000 by decide) (fun a ha => T.2.2.2 a (by omega)) (CityX_town hnf a2 T) (fun _ _ _ => rfl)
  rw [setR_self] at y2
  exact ⟨w, M2, _, y1, y2, kk, no, nf, hh, RRk_scr y3 (ScrM_set _ _ (Or.inl (by decide))) H⟩
