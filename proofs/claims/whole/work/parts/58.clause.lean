/-! ===== city: clauses ===== -/
theorem rr_eq (M : MM) : FX8_readsReader M = (if (M.1 2 1) ≤ 0 then bd (FX8_number 0 1 3 M) (fun (r_2 : Int32) (M_3 : MM) => (if r_2 = 0 then some (0, M_3) else FX8_readsReader_L29 (fun (M_5 : MM) => mKE M_5) fuelN 1 M_3)) else some (0, um M 0 20 3)) := by
  unfold FX8_readsReader mKE FX8_fails
  simp only [bd_s, if_pos (show bo01 0 from Or.inl rfl)]
theorem L12_0 {k : Nat} {M : XM} : FX2_readReader_L12 10 (fun (M_3 : XM) => some M_3) (k + 1) 0 M = xJ k 0 M := by
  rw [FX2_readReader_L12, if_neg (show ¬ (5 : Int32) ≤ 0 by decide), jn_s, if_pos rfl]
  rfl
def CRes (n q : Nat) (Mx : XM) (Mm : MM) (X : Option XM) (R : Option (Int32 × MM)) : Prop := ∃ Mx2, X = some Mx2 ∧ FrC Mx Mx2 ∧ ((∃ (E kk no nf hh : Nat) (Mm2 : MM), E ≤ n ∧ q < E ∧ R = some (1, Mm2) ∧ FrN Mm Mm2 ∧ Mx2 1 2 = nI E ∧ Mx2 1 4 = 0 ∧ Mm2.1 0 15 = nI E ∧ Dr Mx2 (Mm2.1 2) kk no nf hh ∧ Mx2 1 5 = Mx 1 5) ∨ ∃ Mm2 : MM, R = some (0, Mm2) ∧ FrN Mm Mm2 ∧ BAD n Mx2 Mm2)
theorem CRes_mark {n q : Nat} {Mx : XM} {Mm : MM} {c : Int32} (h : Mx 1 2 = nI q) (hq : q ≤ n) (h16 : Mm.1 0 16 = nI q) (hc : c ≠ 0) : CRes n q Mx Mm (some (upd2 (upd2 Mx 1 4 c) 1 5 (nI q))) (some (0, um Mm 0 20 c)) := ⟨_, rfl, FrC_upd (FrC_upd (FrC_rf Mx) (by omega)) (by omega), Or.inr ⟨_, rfl, FrN_um (FrN_rf Mm) (by omega), q, q, c, hc, by rw [upd2_at, if_neg (by decide), upd2_at, if_pos ⟨rfl, rfl⟩], by rw [upd2_at, if_pos ⟨rfl, rfl⟩], by rw [um_at, if_pos ⟨rfl, rfl⟩], by rw [um_at, if_neg (by decide)]; exact h16, by rw [upd2_at, if_neg (by decide), upd2_at, if_neg (by decide)]; exact h, hq⟩⟩
/-- from one place on: the result is of the place before, too -/
theorem CRes_mono {n q p : Nat} {Mx Mx0 : XM} {Mm : MM} {X : Option XM} {R : Option (Int32 × MM)} (h : CRes n p Mx Mm X R) (hq : q ≤ p) (F : FrC Mx0 Mx) (h5 : Mx 1 5 = Mx0 1 5) : CRes n q Mx0 Mm X R := by
  obtain ⟨Mx2, h1, h2, h3⟩ := h
  refine ⟨Mx2, h1, FrC_tr F h2, ?_⟩
  rcases h3 with ⟨E, kk, no, nf, hh, Mm2, w1, w2, w3, w4, w5, w6, w7, w8, w9⟩ | z
  · exact Or.inl ⟨E, kk, no, nf, hh, Mm2, w1, by omega, w3, w4, w5, w6, w7, w8, w9.trans h5⟩
  · exact Or.inr z
theorem reader_both {Mx : XM} {Mm : MM} {r : Nat → Int32} {n p kk hh : Nat} (T : TX Mx r n) (Tm : TM Mm r n) (h : Mx 1 2 = nI p) (hm : Mm.1 0 15 = nI p) (hp : p ≤ n) (h4 : Mx 1 4 = 0) (D : Dr Mx (Mm.1 2) kk 0 0 hh) : CRes n p Mx Mm (bo (FX2_readReader 10 Mx) xEND) (FX8_readsReader Mm) := by
  have one0 : ¬ (1 : Int32) = 0 := by decide
  have g1 : Mm.1 2 1 = 0 := D.1.2.1
  have z3 : (3 : Int32).toInt = 3 := rfl
  obtain ⟨fu, efu⟩ : ∃ z, fuelN = z + 1 := ⟨99999, rfl⟩
  have lfu : 10 ≤ fu := by have : fuelN = 100000 := rfl; omega
  rw [rr_eq, g1, if_pos (show (0 : Int32) ≤ 0 by decide)]
  unfold FX2_readReader
  rw [efu]
  rcases num_both (idx := 0) (a := 1) (b := 3) T Tm h hm hp h4 (by omega) with ⟨v, E, q, Mx1, Mm1, e1, l1, b1, lo1, hi1, hx1, hm1, F1, G1, p1, p3, p4, p5, p6, p7⟩ | ⟨v, Mx1, Mm1, hx1, hm1, F1, G1, B1⟩
  case inr =>
    have S : SafeT r n (fun M_2 => FX2_readReader_L12 10 (fun (M_3 : XM) => some M_3) (fu + 1) 0 (upd2 M_2 10 0 v)) := by
      intro M p T h hp h4
      show ∃ M2, FX2_readReader_L12 10 (fun (M_3 : XM) => some M_3) (fu + 1) 0 (upd2 M 10 0 v) = some M2 ∧ _
      rw [L12_0]
      have y3 : AF n M (upd2 M 10 0 v) := AF_upd h hp (by omega)
      obtain ⟨E3, hE3, e3⟩ := y3.2.1
      obtain ⟨Mb, w1, w2⟩ := x_numF (a := 0) (b := 20) (TX_FrC T y3.1) e3 hE3 (by rw [y3.2.2.1]; exact h4)
      obtain ⟨E5, hE5, e5⟩ := w2.2.1
      have y5 := AF_tr w2 (AF_upd (c := 11) (b := 0) (v := 0) e5 hE5 (by omega))
      obtain ⟨E6, hE6, e6⟩ := y5.2.1
      have y6 := AF_tr y5 (AF_upd (c := 10) (b := 1) (v := (upd2 Mb 11 0 0) 10 1 + 1) e6 hE6 (by omega))
      obtain ⟨E7, hE7, e7⟩ := y6.2.1
      have y7 := AF_tr y3 y6
      obtain ⟨k, rfl⟩ : ∃ z, fu = z + 1 := ⟨fu - 1, by omega⟩
      obtain ⟨M2, z1, z2⟩ := L12_safe (k := k) (o := 0 + 1) (by omega) (by omega) _ E7 (TX_FrC T y7.1) e7 hE7 (by rw [y7.2.2.1]; exact h4)
      refine ⟨M2, ?_, AF_tr y7 z2⟩
      unfold xJ
      rw [w1, bd_s, put_ok (c := 11) (show 0 < 5 by decide), bo_s]
      exact z1
    obtain ⟨M2, M3, w1, w2, w3, w4⟩ := bad_fin S T (FrC_P F1) B1
    exact ⟨M3, by rw [hx1, bd_s]; show bo (FX2_readReader_L12 10 _ (fu + 1) 0 _) xEND = _; rw [w1, bo_s]; exact w2, w3, Or.inr ⟨Mm1, by rw [show FX8_number 0 1 3 Mm = some (0, Mm1) from hm1, bd_s, if_pos rfl], G1, w4⟩⟩
  obtain ⟨Xa, eXa⟩ : ∃ Xa, Xa = upd2 Mx1 10 0 (nI v) := ⟨_, rfl⟩
  obtain ⟨Ya, eYa⟩ : ∃ Ya, Ya = um Mm1 2 0 (nI v) := ⟨_, rfl⟩
  rw [hx1, bd_s, show FX8_number 0 1 3 Mm = some (1, um Mm1 2 0 (nI v)) from hm1, bd_s, if_neg one0, ← eXa, ← eYa, L12_0]
  have FXa : FrC Mx Xa := by rw [eXa]; exact FrC_upd (FrC_P F1) (by omega)
  have FYa : FrN Mm Ya := by rw [eYa]; exact FrN_um (FrN_5 G1) (by omega)
  have D2 : Dr Xa (Ya.1 2) v 0 0 hh := by
    obtain ⟨⟨g0, g1, g2, g3, hk, hn5, hn8, hh20, hz, hF⟩, ⟨x0, x1', x2, x3, xF⟩, dB, dZ, d6, d4⟩ := D
    have so : ∀ k, k ≠ 0 → Ya.1 2 k = Mm.1 2 k := fun k hk => by rw [eYa, um_at, if_neg (fun z => hk z.2), G1.1 2 (by decide)]
    have xo : ∀ a b, (10 ≤ a ∧ a ≤ 16 ∨ a = 1 ∧ b = 6) → ¬ (a = 10 ∧ b = 0) → Xa a b = Mx a b := fun a b h1 h2 => by rw [eXa, upd2_at, if_neg h2, F1 a b (by omega)]
    have e0 : Ya.1 2 0 = nI v := by rw [eYa, um_at, if_pos ⟨rfl, rfl⟩]
    refine ⟨⟨e0, by rw [so 1 (by omega)]; exact g1, by rw [so 2 (by omega)]; exact g2, by rw [so 3 (by omega)]; exact g3, by omega, by omega, by omega, hh20, fun _ => rfl, fun f hf => by omega⟩, ⟨?_, ?_, ?_, ?_, fun f hf => by omega⟩, fun o ho => by omega, fun o ho _ => by rw [so (5 + o) (by omega)]; exact dZ o ho (by omega), ?_, by rw [so 4 (by omega)]; exact d4⟩
    · rw [e0, eXa, upd2_at, if_pos ⟨rfl, rfl⟩]
    · rw [xo 10 1 (by omega) (by omega), so 1 (by omega)]; exact x1'
    · rw [xo 10 2 (by omega) (by omega), so 2 (by omega)]; exact x2
    · rw [xo 10 3 (by omega) (by omega), so 3 (by omega)]; exact x3
    · rw [xo 1 6 (by omega) (by omega), so 4 (by omega)]; exact d6
  obtain ⟨Mxa, Mx2, y1, y2, y3, y4⟩ := rd_loop 4 0 fu (fu + 1) E Xa Ya (by omega) (by omega) (by omega) (TX_FrC T FXa) (TM_FrN Tm FYa) (by rw [eXa, upd2_at, if_neg (by omega)]; exact p1) (by rw [eYa, um_at, if_neg (by omega)]; exact p5) e1 (by rw [eXa, upd2_at, if_neg (by omega)]; exact p4) D2
  refine ⟨Mx2, by rw [y1, bo_s]; exact y2, FrC_tr FXa y3, ?_⟩
  rcases y4 with ⟨E2, no, Mm2, w1, w2, w3, w4, w5, w6, w7, w8, w9, w10⟩ | ⟨Mm2, w1, w2, w3⟩
  · exact Or.inl ⟨E2, v, no, 0, hh, Mm2, w1, by omega, w4, FrN_tr FYa w5, w6, w7, w8, w9, by rw [w10, eXa, upd2_at, if_neg (by omega), p7]⟩
  · exact Or.inr ⟨Mm2, w1, FrN_tr FYa w2, w3⟩
theorem sure_both {Mx : XM} {Mm : MM} {r : Nat → Int32} {n p kk no nf hh : Nat} (T : TX Mx r n) (Tm : TM Mm r n) (h : Mx 1 2 = nI p) (hm : Mm.1 0 15 = nI p) (hp : p ≤ n) (h4 : Mx 1 4 = 0) (D : Dr Mx (Mm.1 2) kk no nf hh) (hf : ¬ Mm.1 2 4 = 1) : CRes n p Mx Mm (bd (FX2_readNumber 1 20 Mx) (fun (r_13 : Int32) (M_14 : XM) => xEND (upd2 (upd2 M_14 10 3 r_13) 1 6 1))) (FX8_readsSure Mm) := by
  have one0 : ¬ (1 : Int32) = 0 := by decide
  have z20 : (20 : Int32).toInt = 20 := rfl
  unfold FX8_readsSure
  rw [if_neg hf]
  obtain ⟨Y0, eY0⟩ : ∃ Y0, Y0 = um Mm 2 4 1 := ⟨_, rfl⟩
  have FY0 : FrN Mm Y0 := by rw [eY0]; exact FrN_um (FrN_rf Mm) (by omega)
  rw [← eY0]
  rcases num_both (idx := 3) (a := 1) (b := 20) T (TM_FrN Tm FY0) h (by rw [eY0, um_at, if_neg (by omega)]; exact hm) hp h4 (by omega) with ⟨v, E, q, Mx1, Mm1, e1, l1, b1, lo1, hi1, hx1, hm1, F1, G1, p1, p3, p4, p5, p6, p7⟩ | ⟨v, Mx1, Mm1, hx1, hm1, F1, G1, B1⟩
  case inr =>
    have S : SafeT r n (fun M_14 => some (upd2 (upd2 M_14 10 3 v) 1 6 1)) := by
      intro M p T h hp h4
      have y3 : AF n M (upd2 M 10 3 v) := AF_upd h hp (by omega)
      obtain ⟨E3, hE3, e3⟩ := y3.2.1
      exact ⟨_, rfl, AF_tr y3 (AF_upd e3 hE3 (by omega))⟩
    obtain ⟨M2, M3, w1, w2, w3, w4⟩ := bad_fin S T (FrC_P F1) B1
    exact ⟨M3, by rw [hx1, bd_s, Option.some.inj w1]; exact w2, w3, Or.inr ⟨Mm1, by rw [show FX8_number 3 1 20 Y0 = some (0, Mm1) from hm1, bd_s, if_pos rfl], FrN_tr FY0 G1, w4⟩⟩
  obtain ⟨Xa, eXa⟩ : ∃ Xa, Xa = upd2 (upd2 Mx1 10 3 (nI v)) 1 6 1 := ⟨_, rfl⟩
  obtain ⟨Ya, eYa⟩ : ∃ Ya, Ya = um Mm1 2 3 (nI v) := ⟨_, rfl⟩
  rw [hx1, bd_s, show FX8_number 3 1 20 Y0 = some (1, um Mm1 2 3 (nI v)) from hm1, bd_s, if_neg one0, ← eXa, ← eYa]
  have FXa : FrC Mx Xa := by rw [eXa]; exact FrC_upd (FrC_upd (FrC_P F1) (by omega)) (by omega)
  have FYa : FrN Mm Ya := by rw [eYa]; exact FrN_um (FrN_tr FY0 (FrN_5 G1)) (by omega)
  have D2 : Dr Xa (Ya.1 2) kk no nf v := by
    obtain ⟨⟨g0, g1, g2, g3, hk, hn5, hn8, hh20, hz, hF⟩, ⟨x0, x1', x2, x3, xF⟩, dB, dZ, d6, d4⟩ := D
    have so : ∀ k, k ≠ 3 → k ≠ 4 → Ya.1 2 k = Mm.1 2 k := fun k hk hk2 => by rw [eYa, um_at, if_neg (fun z => hk z.2), G1.1 2 (by decide), eY0, um_at, if_neg (fun z => hk2 z.2)]
    have xo : ∀ a b, (10 ≤ a ∧ a ≤ 16) → ¬ (a = 10 ∧ b = 3) → Xa a b = Mx a b := fun a b h1 h2 => by rw [eXa, upd2_at, if_neg (by omega), upd2_at, if_neg h2, F1 a b (by omega)]
    have e3 : Ya.1 2 3 = nI v := by rw [eYa, um_at, if_pos ⟨rfl, rfl⟩]
    have e4 : Ya.1 2 4 = 1 := by rw [eYa, um_at, if_neg (by omega), G1.1 2 (by decide), eY0, um_at, if_pos ⟨rfl, rfl⟩]
    have x6 : Xa 1 6 = 1 := by rw [eXa, upd2_at, if_pos ⟨rfl, rfl⟩]
    refine ⟨⟨by rw [so 0 (by omega) (by omega)]; exact g0, by rw [so 1 (by omega) (by omega)]; exact g1, by rw [so 2 (by omega) (by omega)]; exact g2, e3, hk, hn5, hn8, by omega, hz, fun f hf => ?_⟩, ⟨?_, ?_, ?_, ?_, fun f hf => ?_⟩, fun o ho => ?_, fun o ho hn => ?_, x6.trans e4.symm, by rw [e4]; exact Or.inr rfl⟩
    · unfold FactI
      rw [so (10 + f) (by omega) (by omega), so (18 + f) (by omega) (by omega), so (26 + f) (by omega) (by omega), so (34 + f) (by omega) (by omega), so (42 + f) (by omega) (by omega)]
      exact hF f hf
    · rw [xo 10 0 (by omega) (by omega), so 0 (by omega) (by omega)]; exact x0
    · rw [xo 10 1 (by omega) (by omega), so 1 (by omega) (by omega)]; exact x1'
    · rw [xo 10 2 (by omega) (by omega), so 2 (by omega) (by omega)]; exact x2
    · rw [e3, eXa, upd2_at, if_neg (by omega), upd2_at, if_pos ⟨rfl, rfl⟩]
    · have q := xF f hf
      unfold byG at q ⊢
      rw [xo (10 + 2) f (by omega) (by omega), xo (10 + 3) f (by omega) (by omega), xo (10 + 4) f (by omega) (by omega), xo (10 + 5) f (by omega) (by omega), xo (10 + 6) f (by omega) (by omega), so (10 + f) (by omega) (by omega), so (18 + f) (by omega) (by omega), so (26 + f) (by omega) (by omega), so (34 + f) (by omega) (by omega), so (42 + f) (by omega) (by omega)]
      exact q
    · rw [xo 11 o (by omega) (by omega), so (5 + o) (by omega) (by omega)]; exact dB o ho
    · rw [so (5 + o) (by omega) (by omega)]; exact dZ o ho hn
  rcases end_both (TX_FrC T FXa) (TM_FrN Tm FYa) (show Xa 1 2 = nI E by rw [eXa, upd2_at, if_neg (by omega), upd2_at, if_neg (by omega)]; exact p1) (by rw [eYa, um_at, if_neg (by omega)]; exact p5) e1 (by rw [eXa, upd2_at, if_neg (by omega), upd2_at, if_neg (by omega)]; exact p4) with ⟨E2, Mz, Mw, hE, hlt, y1, y2, y3, y4, y5, y6, y7, y8⟩ | ⟨Mz, Mw, y1, y2, y3, y4, y5⟩
  · exact ⟨Mz, y1, FrC_tr FXa (FrC_P y3), Or.inl ⟨E2, kk, no, nf, v, Mw, hE, by omega, by rw [y2, bd_s, if_neg one0], FrN_tr FYa (FrN_5 y4), y5, y6, y7, by rw [y4.1 2 (by decide)]; exact Dr_P D2 (fun a b hab => y3 a b (by omega)), by rw [y8, eXa, upd2_at, if_neg (by omega), upd2_at, if_neg (by omega), p7]⟩⟩
  · exact ⟨Mz, y1, FrC_tr FXa (FrC_P y3), Or.inr ⟨Mw, by rw [y2, bd_s, if_pos rfl], FrN_tr FYa y4, y5⟩⟩
