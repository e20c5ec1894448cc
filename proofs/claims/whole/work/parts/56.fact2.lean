/-! ===== city: a fact, both ===== -/
theorem Dr_add {Mx Mx2 : XM} {s s2 : Nat → Int32} {kk no nf hh v1 v2 v3 v4 v5 : Nat} (D : Dr Mx s kk no nf hh) (h8 : nf < 8) (hno : 1 ≤ no) (h1 : v1 < no) (h2 : v2 ≤ 18) (h3 : v3 = 9 ∨ v3 < no) (h4 : v4 ≤ 20) (h5 : v5 ≤ 9) (e10 : s2 (10 + nf) = nI v1) (e18 : s2 (18 + nf) = nI v2) (e26 : s2 (26 + nf) = nI v3) (e34 : s2 (34 + nf) = nI v4) (e42 : s2 (42 + nf) = nI v5) (e2 : s2 2 = nI (nf + 1)) (so : ∀ k, k ≠ 2 → k ≠ 10 + nf → k ≠ 18 + nf → k ≠ 26 + nf → k ≠ 34 + nf → k ≠ 42 + nf → s2 k = s k) (x12 : Mx2 12 nf = nI v1) (x13 : Mx2 13 nf = nI v2 - 9) (x14 : Mx2 14 nf = (if nI v3 = 9 then -1 else nI v3)) (x15 : Mx2 15 nf = nI v4) (x16 : Mx2 16 nf = nI v5) (x2 : Mx2 10 2 = nI (nf + 1)) (xo : ∀ a b, (10 ≤ a ∧ a ≤ 16 ∨ a = 1 ∧ b = 6) → ¬ (a = 10 ∧ b = 2) → ¬ (12 ≤ a ∧ b = nf) → Mx2 a b = Mx a b) : Dr Mx2 s2 kk no (nf + 1) hh := by
  obtain ⟨⟨g0, g1, g2, g3, hk, hn5, hn8, hh20, hz, hF⟩, ⟨x0, x1, x2', x3, xF⟩, dB, dZ, d6, d4⟩ := D
  have c0 := so 0 (by omega) (by omega) (by omega) (by omega) (by omega) (by omega)
  have c1 := so 1 (by omega) (by omega) (by omega) (by omega) (by omega) (by omega)
  have c3 := so 3 (by omega) (by omega) (by omega) (by omega) (by omega) (by omega)
  have c4 := so 4 (by omega) (by omega) (by omega) (by omega) (by omega) (by omega)
  refine ⟨⟨c0.trans g0, c1.trans g1, e2, c3.trans g3, hk, hn5, by omega, hh20, fun z => by omega, fun f hf => ?_⟩, ⟨?_, ?_, x2.trans e2.symm, ?_, fun f hf => ?_⟩, fun o ho => ?_, fun o ho hn => ?_, ?_, by rw [c4]; exact d4⟩
  · by_cases hfn : f = nf
    · subst hfn
      refine ⟨⟨v1, h1, e10⟩, ⟨v2, h2, e18⟩, ?_, ⟨v4, h4, e34⟩, v5, h5, e42⟩
      rcases h3 with z | z
      · left; rw [e26, z]; rfl
      · right; exact ⟨v3, z, e26⟩
    · unfold FactI
      rw [so (10 + f) (by omega) (by omega) (by omega) (by omega) (by omega) (by omega), so (18 + f) (by omega) (by omega) (by omega) (by omega) (by omega) (by omega), so (26 + f) (by omega) (by omega) (by omega) (by omega) (by omega) (by omega), so (34 + f) (by omega) (by omega) (by omega) (by omega) (by omega) (by omega), so (42 + f) (by omega) (by omega) (by omega) (by omega) (by omega) (by omega)]
      exact hF f (by omega)
  · rw [xo 10 0 (by omega) (by omega) (by omega), c0]; exact x0
  · rw [xo 10 1 (by omega) (by omega) (by omega), c1]; exact x1
  · rw [xo 10 3 (by omega) (by omega) (by omega), c3]; exact x3
  · by_cases hfn : f = nf
    · subst hfn
      refine ⟨x12.trans e10.symm, ?_, ?_, x15.trans e34.symm, x16.trans e42.symm⟩
      · show Mx2 13 f = s2 (18 + f) - 9
        rw [x13, e18]
      · show Mx2 14 f = (if s2 (26 + f) = 9 then -1 else s2 (26 + f))
        rw [x14, e26]
    · obtain ⟨p2, p3, p4, p5, p6⟩ := xF f (by omega)
      unfold byG at p3 ⊢
      rw [xo (10 + 2) f (by omega) (by omega) (by omega), xo (10 + 3) f (by omega) (by omega) (by omega), xo (10 + 4) f (by omega) (by omega) (by omega), xo (10 + 5) f (by omega) (by omega) (by omega), xo (10 + 6) f (by omega) (by omega) (by omega)]
      rw [so (10 + f) (by omega) (by omega) (by omega) (by omega) (by omega) (by omega), so (18 + f) (by omega) (by omega) (by omega) (by omega) (by omega) (by omega), so (26 + f) (by omega) (by omega) (by omega) (by omega) (by omega) (by omega), so (34 + f) (by omega) (by omega) (by omega) (by omega) (by omega) (by omega), so (42 + f) (by omega) (by omega) (by omega) (by omega) (by omega) (by omega)]
      exact ⟨p2, p3, p4, p5, p6⟩
  · rw [xo 11 o (by omega) (by omega) (by omega), so (5 + o) (by omega) (by omega) (by omega) (by omega) (by omega) (by omega)]
    exact dB o ho
  · rw [so (5 + o) (by omega) (by omega) (by omega) (by omega) (by omega) (by omega)]
    exact dZ o ho hn
  · rw [xo 1 6 (by omega) (by omega) (by omega), c4]; exact d6
theorem fact_both {Mx : XM} {Mm : MM} {r : Nat → Int32} {n p kk no nf hh : Nat} (T : TX Mx r n) (Tm : TM Mm r n) (h : Mx 1 2 = nI p) (hm : Mm.1 0 15 = nI p) (hp : p ≤ n) (h4 : Mx 1 4 = 0) (D : Dr Mx (Mm.1 2) kk no nf hh) (hno : 1 ≤ no) (h8 : nf < 8) : ∃ (Mxa Mx2 : XM), FX2_readFactOf 10 Mx = some Mxa ∧ xEND Mxa = some Mx2 ∧ FrC Mx Mx2 ∧ ((∃ (E : Nat) (Mm2 : MM), E ≤ n ∧ p < E ∧ FX8_readsFact Mm = some (1, Mm2) ∧ FrN Mm Mm2 ∧ Mx2 1 2 = nI E ∧ Mx2 1 4 = 0 ∧ Mm2.1 0 15 = nI E ∧ Dr Mx2 (Mm2.1 2) kk no (nf + 1) hh ∧ Mx2 1 5 = Mx 1 5) ∨ ∃ Mm2 : MM, FX8_readsFact Mm = some (0, Mm2) ∧ FrN Mm Mm2 ∧ BAD n Mx2 Mm2) := by
  obtain ⟨⟨g0, g1, g2, g3, hk, hn5, hn8, hh20, hz, hF⟩, ⟨x0, x1, x2, x3, xF⟩, dB, dZ, d6, d4⟩ := id D
  have xno : Mx 10 1 = nI no := x1.trans g1
  have ztN : (nI no - 1).toInt = (no : Int) - 1 := subI (a := no) (b := 1) (by omega) (by decide)
  have z0 : (0 : Int32).toInt = 0 := rfl
  have z18 : (18 : Int32).toInt = 18 := rfl
  have z9 : (9 : Int32).toInt = 9 := rfl
  have z20 : (20 : Int32).toInt = 20 := rfl
  have n8 : ¬ nI nf = 8 := fun z => by have := (nI_eq (b := 8) (by omega) (by decide)).mp z; omega
  have a10 : (10 : Int32) + nI nf = nI (10 + nf) := add_n 10 nf
  have a18 : (18 : Int32) + nI nf = nI (18 + nf) := add_n 18 nf
  have a26 : (26 : Int32) + nI nf = nI (26 + nf) := add_n 26 nf
  have a34 : (34 : Int32) + nI nf = nI (34 + nf) := add_n 34 nf
  have a42 : (42 : Int32) + nI nf = nI (42 + nf) := add_n 42 nf
  have one0 : ¬ (1 : Int32) = 0 := by decide
  rw [t1_eq (f := nf) (x2.trans g2), xno]
  unfold FX8_readsFact
  rw [g2, g1, if_neg n8, a10, a18, a26, a34, a42]
  -- 1: the opinion
  rcases num_both (idx := 10 + nf) (a := 0) (b := nI no - 1) T Tm h hm hp h4 (by omega) with ⟨v1, E1, q1, Mx1, Mm1, e1, l1, b1, lo1, hi1, hx1, hm1, F1, G1, p1, p3, p4, p5, p6, p7⟩ | ⟨v, Mx1, Mm1, hx1, hm1, F1, G1, B1⟩
  case inr =>
    have S : SafeT r n (fun M_2 => bo (FX7_put 12 (nI nf) v M_2) (fun M_3 => t2 nf M_3)) := by
      intro M p T h hp h4
      have y3 : AF n M (upd2 M 12 nf v) := AF_upd h hp (by omega)
      obtain ⟨E3, hE3, e3⟩ := y3.2.1
      obtain ⟨M2, z1, z2⟩ := t2_safe h8 _ E3 (TX_FrC T y3.1) e3 hE3 (by rw [y3.2.2.1]; exact h4)
      exact ⟨M2, by show bo _ _ = _; rw [put_ok (c := 12) (show nf < 8 from h8), bo_s]; exact z1, AF_tr y3 z2⟩
    obtain ⟨M2, M3, w1, w2, w3, w4⟩ := bad_fin S T (FrC_P F1) B1
    exact ⟨M2, M3, by rw [hx1, bd_s]; exact w1, w2, w3, Or.inr ⟨Mm1, by rw [hm1, bd_s, if_pos rfl], G1, w4⟩⟩
  rw [hx1, bd_s, put_ok (c := 12) (show nf < 8 from h8), bo_s, hm1, bd_s, if_neg one0]
  obtain ⟨Xa, eXa⟩ : ∃ Xa, Xa = upd2 Mx1 12 nf (nI v1) := ⟨_, rfl⟩
  obtain ⟨Ya, eYa⟩ : ∃ Ya, Ya = um Mm1 2 (10 + nf) (nI v1) := ⟨_, rfl⟩
  rw [← eXa, ← eYa]
  have FXa : FrC Mx Xa := by rw [eXa]; exact FrC_upd (FrC_P F1) (by omega)
  have FYa : FrN Mm Ya := by rw [eYa]; exact FrN_um (FrN_5 G1) (by omega)
  have xa2 : Xa 1 2 = nI E1 := by rw [eXa, upd2_at, if_neg (by omega)]; exact p1
  have xa4 : Xa 1 4 = 0 := by rw [eXa, upd2_at, if_neg (by omega)]; exact p4
  have ya : Ya.1 0 15 = nI E1 := by rw [eYa, um_at, if_neg (by omega)]; exact p5
  -- 2: by how much
  unfold t2
  rcases num_both (idx := 18 + nf) (a := 0) (b := 18) (TX_FrC T FXa) (TM_FrN Tm FYa) xa2 ya e1 xa4 (by omega) with ⟨v2, E2, q2, Mx2, Mm2, e2, l2, b2, lo2, hi2, hx2, hm2, F2, G2, r1, r3, r4, r5, r6, r7⟩ | ⟨v, Mx2, Mm2, hx2, hm2, F2, G2, B2⟩
  case inr =>
    have S : SafeT r n (fun M_5 => bo (FX7_put 13 (nI nf) (v - 9) M_5) (fun M_6 => t3 nf M_6)) := by
      intro M p T h hp h4
      have y3 : AF n M (upd2 M 13 nf (v - 9)) := AF_upd h hp (by omega)
      obtain ⟨E3, hE3, e3⟩ := y3.2.1
      obtain ⟨M2, z1, z2⟩ := t3_safe h8 _ E3 (TX_FrC T y3.1) e3 hE3 (by rw [y3.2.2.1]; exact h4)
      exact ⟨M2, by show bo _ _ = _; rw [put_ok (c := 13) (show nf < 8 from h8), bo_s]; exact z1, AF_tr y3 z2⟩
    obtain ⟨M2, M3, w1, w2, w3, w4⟩ := bad_fin S T (FrC_tr FXa (FrC_P F2)) B2
    exact ⟨M2, M3, by rw [hx2, bd_s]; exact w1, w2, w3, Or.inr ⟨Mm2, by rw [hm2, bd_s, if_pos rfl], FrN_tr FYa G2, w4⟩⟩
  rw [hx2, bd_s, put_ok (c := 13) (show nf < 8 from h8), bo_s, hm2, bd_s, if_neg one0]
  obtain ⟨Xb, eXb⟩ : ∃ Xb, Xb = upd2 Mx2 13 nf (nI v2 - 9) := ⟨_, rfl⟩
  obtain ⟨Yb, eYb⟩ : ∃ Yb, Yb = um Mm2 2 (18 + nf) (nI v2) := ⟨_, rfl⟩
  rw [← eXb, ← eYb]
  have FXb : FrC Mx Xb := by rw [eXb]; exact FrC_upd (FrC_tr FXa (FrC_P F2)) (by omega)
  have FYb : FrN Mm Yb := by rw [eYb]; exact FrN_um (FrN_tr FYa (FrN_5 G2)) (by omega)
  have xb2 : Xb 1 2 = nI E2 := by rw [eXb, upd2_at, if_neg (by omega)]; exact r1
  have xb4 : Xb 1 4 = 0 := by rw [eXb, upd2_at, if_neg (by omega)]; exact r4
  have yb : Yb.1 0 15 = nI E2 := by rw [eYb, um_at, if_neg (by omega)]; exact r5
  -- 3: what is asked
  unfold t3
  rcases num_both (idx := 26 + nf) (a := 0) (b := 9) (TX_FrC T FXb) (TM_FrN Tm FYb) xb2 yb e2 xb4 (by omega) with ⟨v3, E3, q3, Mx3, Mm3, e3, l3, b3, lo3, hi3, hx3, hm3, F3, G3, s1, s3, s4, s5, s6, s7⟩ | ⟨v, Mx3, Mm3, hx3, hm3, F3, G3, B3⟩
  case inr =>
    have S : SafeT r n (fun M_8 => if v = 9 then t3b nf v M_8 else bo (FX1_hasOpinion 10 v M_8) (fun (r_20 : Int32) => (if r_20 = 0 then bo (FX2_mark 2 (M_8 1 3) M_8) (fun (M_22 : XM) => t3b nf v M_22) else t3b nf v M_8))) := by
      intro M p T h hp h4
      obtain ⟨M2, z1, z2⟩ := t3b_safe (v := v) h8 M p T h hp h4
      refine ⟨M2, ?_, z2⟩
      show (if v = 9 then _ else _) = _
      by_cases q : v = 9
      · rw [if_pos q]; exact z1
      · rw [if_neg q]
        unfold FX1_hasOpinion
        by_cases q0 : v < 0
        · rw [if_pos q0, bo_s, if_pos rfl, x_markF h4, bo_s]; exact z1
        · rw [if_neg q0]
          by_cases q9 : M 10 1 ≤ v
          · rw [if_pos q9, bo_s, if_pos rfl, x_markF h4, bo_s]; exact z1
          · rw [if_neg q9, bo_s, if_neg (show ¬ (1 : Int32) = 0 by decide)]; exact z1
    obtain ⟨M2, M3, w1, w2, w3, w4⟩ := bad_fin S T (FrC_tr FXb (FrC_P F3)) B3
    exact ⟨M2, M3, by rw [hx3, bd_s]; exact w1, w2, w3, Or.inr ⟨Mm3, by rw [hm3, bd_s, if_pos rfl], FrN_tr FYb G3, w4⟩⟩
  rw [hx3, bd_s, hm3, bd_s, if_neg one0]
  obtain ⟨Yc, eYc⟩ : ∃ Yc, Yc = um Mm3 2 (26 + nf) (nI v3) := ⟨_, rfl⟩
  rw [← eYc]
  have FX3 : FrC Mx Mx3 := FrC_tr FXb (FrC_P F3)
  have FYc : FrN Mm Yc := by rw [eYc]; exact FrN_um (FrN_tr FYb (FrN_5 G3)) (by omega)
  have m3no : Mx3 10 1 = nI no := by rw [F3 10 1 (by omega), eXb, upd2_at, if_neg (by omega), F2 10 1 (by omega), eXa, upd2_at, if_neg (by omega), F1 10 1 (by omega)]; exact xno
  have r2c : ∀ k, k ≠ 10 + nf → k ≠ 18 + nf → k ≠ 26 + nf → Yc.1 2 k = Mm.1 2 k := fun k h1 h2 h3 => by
    rw [eYc, um_at, if_neg (fun z => h3 z.2), G3.1 2 (by decide), eYb, um_at, if_neg (fun z => h2 z.2), G2.1 2 (by decide), eYa, um_at, if_neg (fun z => h1 z.2), G1.1 2 (by decide)]
  have yc1 : Yc.1 2 1 = nI no := by rw [r2c 1 (by omega) (by omega) (by omega)]; exact g1
  have yc2 : Yc.1 2 2 = nI nf := by rw [r2c 2 (by omega) (by omega) (by omega)]; exact g2
  have yc26 : Yc.1 2 (26 + nf) = nI v3 := by rw [eYc, um_at, if_pos ⟨rfl, rfl⟩]
  have yc15 : Yc.1 0 15 = nI E3 := by rw [eYc, um_at, if_neg (by omega)]; exact s5
  have yc16 : Yc.1 0 16 = nI q3 := by rw [eYc, um_at, if_neg (by omega)]; exact s6
  have i26 : inb (nI (26 + nf)) 50 := inb_n (by omega) (by decide)
  rw [if_pos i26, jn_s, ix_n (show 26 + nf < 2 ^ 31 by omega), yc26, yc1, if_pos i26, yc2, nI_1]
  have hv3 : v3 ≤ 9 := by omega
  by_cases hcase : ¬ (v3 = 9 ∨ v3 < no)
  · have c1 : ¬ v3 = 9 := fun z => hcase (Or.inl z)
    have c2 : ¬ v3 < no := fun z => hcase (Or.inr z)
    have c9 : ¬ nI v3 = 9 := fun z => by have := (nI_eq (b := 9) (by omega) (by decide)).mp z; omega
    have ev3 := nI_toInt (n := v3) (by omega)
    have F4 : FrC Mx (upd2 (upd2 Mx3 1 4 2) 1 5 (nI q3)) := FrC_upd (FrC_upd FX3 (by omega)) (by omega)
    have B4 : BAD n (upd2 (upd2 Mx3 1 4 2) 1 5 (nI q3)) (um Yc 0 20 2) := ⟨q3, E3, 2, by decide, by rw [upd2_at, if_neg (by decide), upd2_at, if_pos ⟨rfl, rfl⟩], by rw [upd2_at, if_pos ⟨rfl, rfl⟩], by rw [um_at, if_pos ⟨rfl, rfl⟩], by rw [um_at, if_neg (by decide)]; exact yc16, by rw [upd2_at, if_neg (by decide), upd2_at, if_neg (by decide)]; exact s1, e3⟩
    obtain ⟨M2, M3, w1, w2, w3, w4⟩ := bad_fin (t3b_safe (v := nI v3) h8) T F4 B4
    refine ⟨M2, M3, ?_, w2, w3, Or.inr ⟨um Yc 0 20 2, ?_, FrN_um FYc (by omega), w4⟩⟩
    · rw [if_neg c9, opin_x (no := no) m3no hn5, if_neg (show ¬ (0 ≤ (nI v3).toInt ∧ (nI v3).toInt < no) by omega), bo_s, if_pos rfl, s3, x_mark s4, bo_s]
      exact w1
    · rw [if_neg (nI_nlt (by omega) (by omega)), if_neg c9]
      rfl
  replace hcase := Classical.not_not.mp hcase
  have hgoX : (if nI v3 = 9 then t3b nf (nI v3) Mx3 else bo (FX1_hasOpinion 10 (nI v3) Mx3) (fun (r_20 : Int32) => (if r_20 = 0 then bo (FX2_mark 2 (Mx3 1 3) Mx3) (fun (M_22 : XM) => t3b nf (nI v3) M_22) else t3b nf (nI v3) Mx3))) = t3b nf (nI v3) Mx3 := by
    by_cases c9 : nI v3 = 9
    · rw [if_pos c9]
    · have ev3 := nI_toInt (n := v3) (by omega)
      have hlt : v3 < no := by
        rcases hcase with z | z
        · exact absurd (by rw [z]; rfl) c9
        · exact z
      rw [if_neg c9, opin_x (no := no) m3no hn5, if_pos (show (0 ≤ (nI v3).toInt ∧ (nI v3).toInt < no) by omega), bo_s, if_neg one0]
  rw [hgoX]
  have hgoM : ∀ Z W : Option (Int32 × MM), (if nI v3 < nI no then Z else (if nI v3 = 9 then Z else W)) = Z := fun Z W => by
    by_cases c2 : v3 < no
    · rw [if_pos (nI_lt c2 (by omega))]
    · have e9 : v3 = 9 := by omega
      rw [if_neg (nI_nlt (by omega) (by omega)), if_pos (by rw [e9]; rfl)]
  rw [hgoM]
  unfold t3b
  rw [put_ok (c := 14) (show nf < 8 from h8), bo_s]
  obtain ⟨Xd, eXd⟩ : ∃ Xd, Xd = upd2 Mx3 14 nf (if nI v3 = 9 then -1 else nI v3) := ⟨_, rfl⟩
  obtain ⟨Yd, eYd⟩ : ∃ Yd, Yd = um Yc 2 2 (nI (nf + 1)) := ⟨_, rfl⟩
  rw [← eXd, ← eYd]
  have FXd : FrC Mx Xd := by rw [eXd]; exact FrC_upd FX3 (by omega)
  have FYd : FrN Mm Yd := by rw [eYd]; exact FrN_um FYc (by omega)
  have xd2 : Xd 1 2 = nI E3 := by rw [eXd, upd2_at, if_neg (by omega)]; exact s1
  have xd4 : Xd 1 4 = 0 := by rw [eXd, upd2_at, if_neg (by omega)]; exact s4
  have yd : Yd.1 0 15 = nI E3 := by rw [eYd, um_at, if_neg (by omega)]; exact yc15
  -- 4: from what on
  unfold t4
  rcases num_both (idx := 34 + nf) (a := 0) (b := 20) (TX_FrC T FXd) (TM_FrN Tm FYd) xd2 yd e3 xd4 (by omega) with ⟨v4, E4, q4, Mx4, Mm4, e4, l4, b4, lo4, hi4, hx4, hm4, F4, G4, u1, u3, u4, u5, u6, u7⟩ | ⟨v, Mx4, Mm4, hx4, hm4, F4, G4, B4⟩
  case inr =>
    have S : SafeT r n (fun M_13 => bo (FX7_put 15 (nI nf) v M_13) (fun M_14 => t5 nf M_14)) := by
      intro M p T h hp h4
      have y3 : AF n M (upd2 M 15 nf v) := AF_upd h hp (by omega)
      obtain ⟨E3, hE3, e3⟩ := y3.2.1
      obtain ⟨M2, z1, z2⟩ := t5_safe h8 _ E3 (TX_FrC T y3.1) e3 hE3 (by rw [y3.2.2.1]; exact h4)
      exact ⟨M2, by show bo _ _ = _; rw [put_ok (c := 15) (show nf < 8 from h8), bo_s]; exact z1, AF_tr y3 z2⟩
    obtain ⟨M2, M3, w1, w2, w3, w4⟩ := bad_fin S T (FrC_tr FXd (FrC_P F4)) B4
    exact ⟨M2, M3, by rw [hx4, bd_s]; exact w1, w2, w3, Or.inr ⟨Mm4, by rw [hm4, bd_s, if_pos rfl], FrN_tr FYd G4, w4⟩⟩
  rw [hx4, bd_s, put_ok (c := 15) (show nf < 8 from h8), bo_s, hm4, bd_s, if_neg one0]
  obtain ⟨Xe, eXe⟩ : ∃ Xe, Xe = upd2 Mx4 15 nf (nI v4) := ⟨_, rfl⟩
  obtain ⟨Ye, eYe⟩ : ∃ Ye, Ye = um Mm4 2 (34 + nf) (nI v4) := ⟨_, rfl⟩
  rw [← eXe, ← eYe]
  have FXe : FrC Mx Xe := by rw [eXe]; exact FrC_upd (FrC_tr FXd (FrC_P F4)) (by omega)
  have FYe : FrN Mm Ye := by rw [eYe]; exact FrN_um (FrN_tr FYd (FrN_5 G4)) (by omega)
  have xe2 : Xe 1 2 = nI E4 := by rw [eXe, upd2_at, if_neg (by omega)]; exact u1
  have xe4 : Xe 1 4 = 0 := by rw [eXe, upd2_at, if_neg (by omega)]; exact u4
  have ye : Ye.1 0 15 = nI E4 := by rw [eYe, um_at, if_neg (by omega)]; exact u5
  -- 5: the cost
  unfold t5
  rcases num_both (idx := 42 + nf) (a := 0) (b := 9) (TX_FrC T FXe) (TM_FrN Tm FYe) xe2 ye e4 xe4 (by omega) with ⟨v5, E5, q5, Mx5, Mm5, e5, l5, b5, lo5, hi5, hx5, hm5, F5', G5, w1, w3, w4, w5, w6, w7⟩ | ⟨v, Mx5, Mm5, hx5, hm5, F5', G5, B5⟩
  case inr =>
    have S : SafeT r n (fun M_16 => bo (FX7_put 16 (nI nf) v M_16) (fun M_17 => some (upd2 M_17 10 2 ((M_17 10 2) + 1)))) := by
      intro M p T h hp h4
      have y3 : AF n M (upd2 M 16 nf v) := AF_upd h hp (by omega)
      obtain ⟨E3, hE3, e3⟩ := y3.2.1
      exact ⟨_, by show bo _ _ = _; rw [put_ok (c := 16) (show nf < 8 from h8), bo_s], AF_tr y3 (AF_upd e3 hE3 (by omega))⟩
    obtain ⟨M2, M3, w1, w2, w3, w4⟩ := bad_fin S T (FrC_tr FXe (FrC_P F5')) B5
    exact ⟨M2, M3, by rw [hx5, bd_s]; exact w1, w2, w3, Or.inr ⟨Mm5, by rw [hm5, bd_s, if_pos rfl], FrN_tr FYe G5, w4⟩⟩
  rw [hx5, bd_s, put_ok (c := 16) (show nf < 8 from h8), bo_s, hm5, bd_s, if_neg one0]
  obtain ⟨Xf, eXf⟩ : ∃ Xf, Xf = upd2 Mx5 16 nf (nI v5) := ⟨_, rfl⟩
  obtain ⟨Yf, eYf⟩ : ∃ Yf, Yf = um Mm5 2 (42 + nf) (nI v5) := ⟨_, rfl⟩
  rw [← eXf, ← eYf]
  have FXf : FrC Mx Xf := by rw [eXf]; exact FrC_upd (FrC_tr FXe (FrC_P F5')) (by omega)
  have FYf : FrN Mm Yf := by rw [eYf]; exact FrN_um (FrN_tr FYe (FrN_5 G5)) (by omega)
  have xf10 : Xf 10 2 = nI nf := by
    rw [eXf, upd2_at, if_neg (by omega), F5' 10 2 (by omega), eXe, upd2_at, if_neg (by omega), F4 10 2 (by omega), eXd, upd2_at, if_neg (by omega), F3 10 2 (by omega), eXb, upd2_at, if_neg (by omega), F2 10 2 (by omega), eXa, upd2_at, if_neg (by omega), F1 10 2 (by omega)]
    exact x2.trans g2
  rw [xf10, nI_1]
  obtain ⟨Xg, eXg⟩ : ∃ Xg, Xg = upd2 Xf 10 2 (nI (nf + 1)) := ⟨_, rfl⟩
  rw [← eXg]
  have FXg : FrC Mx Xg := by rw [eXg]; exact FrC_upd FXf (by omega)
  have xg2 : Xg 1 2 = nI E5 := by rw [eXg, upd2_at, if_neg (by omega), eXf, upd2_at, if_neg (by omega)]; exact w1
  have xg4 : Xg 1 4 = 0 := by rw [eXg, upd2_at, if_neg (by omega), eXf, upd2_at, if_neg (by omega)]; exact w4
  have yf : Yf.1 0 15 = nI E5 := by rw [eYf, um_at, if_neg (by omega)]; exact w5
  have DF : Dr Xg (Yf.1 2) kk no (nf + 1) hh := by
    refine Dr_add (v1 := v1) (v2 := v2) (v3 := v3) (v4 := v4) (v5 := v5) D h8 hno (by omega) (by omega) hcase (by omega) (by omega) ?_ ?_ ?_ ?_ ?_ ?_ (fun k k1 k2 k3 k4 k5 k6 => ?_) ?_ ?_ ?_ ?_ ?_ ?_ (fun a b k1 k2 k3 => ?_)
    · rw [eYf, um_at, if_neg (by omega), G5.1 2 (by decide), eYe, um_at, if_neg (by omega), G4.1 2 (by decide), eYd, um_at, if_neg (by omega), eYc, um_at, if_neg (by omega), G3.1 2 (by decide), eYb, um_at, if_neg (by omega), G2.1 2 (by decide), eYa, um_at, if_pos ⟨rfl, rfl⟩]
    · rw [eYf, um_at, if_neg (by omega), G5.1 2 (by decide), eYe, um_at, if_neg (by omega), G4.1 2 (by decide), eYd, um_at, if_neg (by omega), eYc, um_at, if_neg (by omega), G3.1 2 (by decide), eYb, um_at, if_pos ⟨rfl, rfl⟩]
    · rw [eYf, um_at, if_neg (by omega), G5.1 2 (by decide), eYe, um_at, if_neg (by omega), G4.1 2 (by decide), eYd, um_at, if_neg (by omega)]; exact yc26
    · rw [eYf, um_at, if_neg (by omega), G5.1 2 (by decide), eYe, um_at, if_pos ⟨rfl, rfl⟩]
    · rw [eYf, um_at, if_pos ⟨rfl, rfl⟩]
    · rw [eYf, um_at, if_neg (by omega), G5.1 2 (by decide), eYe, um_at, if_neg (by omega), G4.1 2 (by decide), eYd, um_at, if_pos ⟨rfl, rfl⟩]
    · rw [eYf, um_at, if_neg (fun z => k6 z.2), G5.1 2 (by decide), eYe, um_at, if_neg (fun z => k5 z.2), G4.1 2 (by decide), eYd, um_at, if_neg (fun z => k1 z.2)]
      exact r2c k k2 k3 k4
    · rw [eXg, upd2_at, if_neg (by omega), eXf, upd2_at, if_neg (by omega), F5' 12 nf (by omega), eXe, upd2_at, if_neg (by omega), F4 12 nf (by omega), eXd, upd2_at, if_neg (by omega), F3 12 nf (by omega), eXb, upd2_at, if_neg (by omega), F2 12 nf (by omega), eXa, upd2_at, if_pos ⟨rfl, rfl⟩]
    · rw [eXg, upd2_at, if_neg (by omega), eXf, upd2_at, if_neg (by omega), F5' 13 nf (by omega), eXe, upd2_at, if_neg (by omega), F4 13 nf (by omega), eXd, upd2_at, if_neg (by omega), F3 13 nf (by omega), eXb, upd2_at, if_pos ⟨rfl, rfl⟩]
    · rw [eXg, upd2_at, if_neg (by omega), eXf, upd2_at, if_neg (by omega), F5' 14 nf (by omega), eXe, upd2_at, if_neg (by omega), F4 14 nf (by omega), eXd, upd2_at, if_pos ⟨rfl, rfl⟩]
    · rw [eXg, upd2_at, if_neg (by omega), eXf, upd2_at, if_neg (by omega), F5' 15 nf (by omega), eXe, upd2_at, if_pos ⟨rfl, rfl⟩]
    · rw [eXg, upd2_at, if_neg (by omega), eXf, upd2_at, if_pos ⟨rfl, rfl⟩]
    · rw [eXg, upd2_at, if_pos ⟨rfl, rfl⟩]
    · rw [eXg, upd2_at, if_neg k2, eXf, upd2_at, if_neg (by omega), F5' a b (by omega), eXe, upd2_at, if_neg (by omega), F4 a b (by omega), eXd, upd2_at, if_neg (by omega), F3 a b (by omega), eXb, upd2_at, if_neg (by omega), F2 a b (by omega), eXa, upd2_at, if_neg (by omega), F1 a b (by omega)]
  rcases end_both (TX_FrC T FXg) (TM_FrN Tm FYf) xg2 yf e5 xg4 with ⟨E, Mz, Mw, hE, hlt, y1, y2, y3, y4, y5, y6, y7, y8⟩ | ⟨Mz, Mw, y1, y2, y3, y4, y5⟩
  · refine ⟨Xg, Mz, rfl, y1, FrC_tr FXg (FrC_P y3), Or.inl ⟨E, Mw, hE, by omega, ?_, FrN_tr FYf (FrN_5 y4), y5, y6, y7, ?_, ?_⟩⟩
    · rw [y2, bd_s, if_neg one0]
    · rw [y4.1 2 (by decide)]
      obtain ⟨D1, ⟨D20, D21, D22, D23, D2F⟩, D3, D4, D5, D6⟩ := DF
      refine ⟨D1, ⟨?_, ?_, ?_, ?_, fun f hf => ?_⟩, fun o ho => ?_, D4, ?_, D6⟩
      · rw [y3 10 0 (by omega)]; exact D20
      · rw [y3 10 1 (by omega)]; exact D21
      · rw [y3 10 2 (by omega)]; exact D22
      · rw [y3 10 3 (by omega)]; exact D23
      · rw [y3 (10 + 2) f (by omega), y3 (10 + 3) f (by omega), y3 (10 + 4) f (by omega), y3 (10 + 5) f (by omega), y3 (10 + 6) f (by omega)]
        exact D2F f hf
      · rw [y3 11 o (by omega)]; exact D3 o ho
      · rw [y3 1 6 (by omega)]; exact D5
    · rw [y8, eXg, upd2_at, if_neg (by omega), eXf, upd2_at, if_neg (by omega), w7, eXe, upd2_at, if_neg (by omega), u7, eXd, upd2_at, if_neg (by omega), s7, eXb, upd2_at, if_neg (by omega), r7, eXa, upd2_at, if_neg (by omega), p7]
  · exact ⟨Xg, Mz, rfl, y1, FrC_tr FXg (FrC_P y3), Or.inr ⟨Mw, by rw [y2, bd_s, if_pos rfl], FrN_tr FYf y4, y5⟩⟩
