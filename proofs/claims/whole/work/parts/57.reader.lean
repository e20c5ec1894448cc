/-! ===== city: the reader ===== -/
theorem Dr_P {Mx Mx2 : XM} {s : Nat → Int32} {kk no nf hh : Nat} (D : Dr Mx s kk no nf hh) (h : ∀ a b, (10 ≤ a ∧ a ≤ 16 ∨ a = 1 ∧ b = 6) → Mx2 a b = Mx a b) : Dr Mx2 s kk no nf hh := by
  obtain ⟨D1, ⟨D20, D21, D22, D23, D2F⟩, D3, D4, D5, D6⟩ := D
  refine ⟨D1, ⟨?_, ?_, ?_, ?_, fun f hf => ?_⟩, fun o ho => ?_, D4, ?_, D6⟩
  · rw [h 10 0 (by omega)]; exact D20
  · rw [h 10 1 (by omega)]; exact D21
  · rw [h 10 2 (by omega)]; exact D22
  · rw [h 10 3 (by omega)]; exact D23
  · rw [h (10 + 2) f (by omega), h (10 + 3) f (by omega), h (10 + 4) f (by omega), h (10 + 5) f (by omega), h (10 + 6) f (by omega)]
    exact D2F f hf
  · rw [h 11 o (by omega)]; exact D3 o ho
  · rw [h 1 6 (by omega)]; exact D5
theorem Dr_op {Mx Mx2 : XM} {s s2 : Nat → Int32} {kk o hh v : Nat} (D : Dr Mx s kk o 0 hh) (ho : o < 5) (hv : v ≤ 20) (e5 : s2 (5 + o) = nI v) (e1 : s2 1 = nI (o + 1)) (so : ∀ k, k ≠ 1 → k ≠ 5 + o → s2 k = s k) (x11 : Mx2 11 o = nI v) (x1 : Mx2 10 1 = nI (o + 1)) (xo : ∀ a b, (10 ≤ a ∧ a ≤ 16 ∨ a = 1 ∧ b = 6) → ¬ (a = 10 ∧ b = 1) → ¬ (a = 11 ∧ b = o) → Mx2 a b = Mx a b) : Dr Mx2 s2 kk (o + 1) 0 hh := by
  obtain ⟨⟨g0, g1, g2, g3, hk, hn5, hn8, hh20, hz, hF⟩, ⟨x0, x1', x2, x3, xF⟩, dB, dZ, d6, d4⟩ := D
  have c0 := so 0 (by omega) (by omega)
  have c2 := so 2 (by omega) (by omega)
  have c3 := so 3 (by omega) (by omega)
  have c4 := so 4 (by omega) (by omega)
  refine ⟨⟨c0.trans g0, e1, c2.trans g2, c3.trans g3, hk, by omega, by omega, hh20, fun _ => rfl, fun f hf => by omega⟩, ⟨?_, x1.trans e1.symm, ?_, ?_, fun f hf => by omega⟩, fun i hi => ?_, fun i hi hn => ?_, ?_, by rw [c4]; exact d4⟩
  · rw [xo 10 0 (by omega) (by omega) (by omega), c0]; exact x0
  · rw [xo 10 2 (by omega) (by omega) (by omega), c2]; exact x2
  · rw [xo 10 3 (by omega) (by omega) (by omega), c3]; exact x3
  · by_cases hio : i = o
    · subst hio
      exact ⟨x11.trans e5.symm, v, hv, e5⟩
    · rw [xo 11 i (by omega) (by omega) (by omega), so (5 + i) (by omega) (by omega)]
      exact dB i (by omega)
  · rw [so (5 + i) (by omega) (by omega)]
    exact dZ i hi (by omega)
  · rw [xo 1 6 (by omega) (by omega) (by omega), c4]; exact d6
noncomputable def mKE (M_5 : MM) : Option (Int32 × MM) := if (M_5.1 0 17) = 59 then some (1, M_5) else bd (FX8_fails 1 M_5) (fun (r_7 : Int32) (M_8 : MM) => (if r_7 = 0 then some (0, M_8) else some (1, M_8)))
theorem fin_both {Mx : XM} {Mm : MM} {r : Nat → Int32} {n p : Nat} (T : TX Mx r n) (h : Mx 1 2 = nI p) (hp : p ≤ n) (h4 : Mx 1 4 = 0) (K : Tok r n (SK r n p) Mm) : ∃ Mx2, xEND Mx = some Mx2 ∧ FrP Mx Mx2 ∧ ((∃ E : Nat, E ≤ n ∧ p < E ∧ mKE Mm = some (1, Mm) ∧ Mx2 1 2 = nI E ∧ Mx2 1 4 = 0 ∧ Mm.1 0 15 = nI E ∧ Mx2 1 5 = Mx 1 5) ∨ (mKE Mm = some (0, um Mm 0 20 1) ∧ BAD n Mx2 (um Mm 0 20 1))) := by
  obtain ⟨k1, k2, k3⟩ := SK_ok (r := r) (n := n) (n - p) p (by omega)
  obtain ⟨s3, s4⟩ := K
  rcases xEND_n T h hp h4 with ⟨e, y1⟩ | ⟨e, M2, y1, y2, y3, y4, y5⟩
  · have hlt : SK r n p < n := by
      by_cases z : SK r n p < n
      · exact z
      · unfold ch at e; rw [if_neg z] at e; exact absurd e (by decide)
    have nd : ¬ isD (ch r n (SK r n p)) := by rw [e]; exact fun z => absurd z.2 (by decide)
    rcases s4 with ⟨z, -⟩ | ⟨-, t17, t15⟩
    · exact absurd z nd
    · rw [if_pos hlt] at t15
      exact ⟨_, y1, FrP_upd (FrP_rf Mx) (by omega), Or.inl ⟨SK r n p + 1, by omega, by omega, by unfold mKE; rw [if_pos (by rw [t17]; exact e)], by rw [upd2_at, if_pos ⟨rfl, rfl⟩], by rw [upd2_at, if_neg (by decide)]; exact h4, t15, by rw [upd2_at, if_neg (by decide)]⟩⟩
  · have n59 : ¬ Mm.1 0 17 = 59 := by
      rcases s4 with ⟨z, t17, -⟩ | ⟨-, t17, -⟩
      · rw [t17]; decide
      · rw [t17]; exact e
    exact ⟨M2, y1, y2, Or.inr ⟨by unfold mKE FX8_fails; rw [if_neg n59, bd_s, if_pos rfl], SK r n p, SK r n p, 1, by decide, y4, y5, by rw [um_at, if_pos ⟨rfl, rfl⟩], by rw [um_at, if_neg (by decide)]; exact s3, y3, k2⟩⟩
/-- one belief is read -/
noncomputable def xJ (kx o : Nat) (M : XM) : Option XM := bd (FX2_readNumber 0 20 M) (fun (r_8 : Int32) (M_9 : XM) => bo (FX7_put 11 (nI o) r_8 M_9) (fun (M_10 : XM) => FX2_readReader_L12 10 (fun (M_3 : XM) => some M_3) kx (nI (o + 1)) (upd2 M_10 10 1 ((M_10 10 1) + 1))))
theorem L12_safe {r : Nat → Int32} {n o k : Nat} (ho : 1 ≤ o) (h5 : o ≤ 5) : SafeT r n (fun M => FX2_readReader_L12 10 (fun (M_3 : XM) => some M_3) (k + 1) (nI o) M) := by
  intro M p T h hp h4
  show ∃ M2, FX2_readReader_L12 10 (fun (M_3 : XM) => some M_3) (k + 1) (nI o) M = some M2 ∧ _
  rw [FX2_readReader_L12]
  by_cases q : 5 ≤ o
  · rw [if_pos (show (5 : Int32) ≤ nI o from nI_le (a := 5) q (by omega))]
    exact ⟨M, rfl, FrC_rf M, ⟨p, hp, h⟩, rfl, rfl⟩
  · obtain ⟨M2, y1, y2⟩ := x_takesF (c := 44) T h hp h4
    rw [if_neg (show ¬ (5 : Int32) ≤ nI o from nI_ge (b := 5) (by omega) (by decide)), jn_s, if_neg (show ¬ nI o = 0 from nI_ne0 ho (by omega)), y1, bd_s, if_pos rfl]
    exact ⟨M2, rfl, y2⟩
theorem rd_one {r : Nat → Int32} {n kk hh o kx km p : Nat} {Mx : XM} {Mm : MM} (ho : o < 5) (hkx : 1 ≤ kx) (T : TX Mx r n) (Tm : TM Mm r n) (h : Mx 1 2 = nI p) (hm : Mm.1 0 15 = nI p) (hp : p ≤ n) (h4 : Mx 1 4 = 0) (D : Dr Mx (Mm.1 2) kk o 0 hh) (K : MM → Option (Int32 × MM)) : (∃ (M2 M3 : XM) (Mm2 : MM), xJ kx o Mx = some M2 ∧ xEND M2 = some M3 ∧ FrC Mx M3 ∧ FX8_readsReader_L29 K (km + 1) 1 Mm = some (0, Mm2) ∧ FrN Mm Mm2 ∧ BAD n M3 Mm2) ∨ (∃ (E : Nat) (Xa : XM) (Ya : MM), E ≤ n ∧ p < E ∧ xJ kx o Mx = FX2_readReader_L12 10 (fun (M_3 : XM) => some M_3) kx (nI (o + 1)) Xa ∧ FrC Mx Xa ∧ Xa 1 2 = nI E ∧ Xa 1 4 = 0 ∧ FX8_readsReader_L29 K (km + 1) 1 Mm = (if Ya.1 0 17 = 44 then FX8_readsReader_L29 K km 1 Ya else FX8_readsReader_L29 K km 0 Ya) ∧ FrN Mm Ya ∧ Tok r n (SK r n E) Ya ∧ Xa 1 5 = Mx 1 5 ∧ Dr Xa (Ya.1 2) kk (o + 1) 0 hh) := by
  obtain ⟨kx, rfl⟩ : ∃ z, kx = z + 1 := ⟨kx - 1, by omega⟩
  have one0 : ¬ (1 : Int32) = 0 := by decide
  have g1 : Mm.1 2 1 = nI o := D.1.2.1
  have x1 : Mx 10 1 = nI o := D.2.1.2.1.trans g1
  have z20 : (20 : Int32).toInt = 20 := rfl
  have n5 : ¬ nI o = 5 := fun z => by have := (nI_eq (b := 5) (by omega) (by decide)).mp z; omega
  unfold xJ
  rw [FX8_readsReader_L29, if_neg one0, g1, if_neg n5, show (5 : Int32) + nI o = nI (5 + o) from add_n 5 o]
  rcases num_both (idx := 5 + o) (a := 0) (b := 20) T Tm h hm hp h4 (by omega) with ⟨v, E, q, Mx1, Mm1, e1, l1, b1, lo1, hi1, hx1, hm1, F1, G1, p1, p3, p4, p5, p6, p7⟩ | ⟨v, Mx1, Mm1, hx1, hm1, F1, G1, B1⟩
  case inr =>
    left
    have S : SafeT r n (fun M_9 => bo (FX7_put 11 (nI o) v M_9) (fun M_10 => FX2_readReader_L12 10 (fun (M_3 : XM) => some M_3) (kx + 1) (nI (o + 1)) (upd2 M_10 10 1 ((M_10 10 1) + 1)))) := by
      intro M p T h hp h4
      have y3 : AF n M (upd2 M 11 o v) := AF_upd h hp (by omega)
      obtain ⟨E3, hE3, e3⟩ := y3.2.1
      have y4 := AF_tr y3 (AF_upd (c := 10) (b := 1) (v := (upd2 M 11 o v) 10 1 + 1) e3 hE3 (by omega))
      obtain ⟨E4, hE4, e4⟩ := y4.2.1
      obtain ⟨M2, z1, z2⟩ := L12_safe (k := kx) (o := o + 1) (by omega) (by omega) _ E4 (TX_FrC T y4.1) e4 hE4 (by rw [y4.2.2.1]; exact h4)
      exact ⟨M2, by show bo _ _ = _; rw [put_ok (c := 11) (show o < 5 from ho), bo_s]; exact z1, AF_tr y4 z2⟩
    obtain ⟨M2, M3, w1, w2, w3, w4⟩ := bad_fin S T (FrC_P F1) B1
    exact ⟨M2, M3, Mm1, by rw [hx1, bd_s]; exact w1, w2, w3, by rw [hm1, bd_s, if_pos rfl], G1, w4⟩
  right
  rw [hx1, bd_s, put_ok (c := 11) (show o < 5 from ho), bo_s, hm1, bd_s, if_neg one0]
  have q1 : (upd2 Mx1 11 o (nI v)) 10 1 = nI o := by rw [upd2_at, if_neg (by omega), F1 10 1 (by omega)]; exact x1
  have q2 : (um Mm1 2 (5 + o) (nI v)).1 2 1 = nI o := by rw [um_at, if_neg (by omega), G1.1 2 (by decide)]; exact g1
  rw [q1, q2, nI_1]
  obtain ⟨Xa, eXa⟩ : ∃ Xa, Xa = upd2 (upd2 Mx1 11 o (nI v)) 10 1 (nI (o + 1)) := ⟨_, rfl⟩
  obtain ⟨Yb, eYb⟩ : ∃ Yb, Yb = um (um Mm1 2 (5 + o) (nI v)) 2 1 (nI (o + 1)) := ⟨_, rfl⟩
  rw [← eXa, ← eYb]
  have FXa : FrC Mx Xa := by rw [eXa]; exact FrC_upd (FrC_upd (FrC_P F1) (by omega)) (by omega)
  have FYb : FrN Mm Yb := by rw [eYb]; exact FrN_um (FrN_um (FrN_5 G1) (by omega)) (by omega)
  have yb : Yb.1 0 15 = nI E := by rw [eYb, um_at, if_neg (by omega), um_at, if_neg (by omega)]; exact p5
  obtain ⟨Ya, s1, s2, s3⟩ := m_step (TM_FrN Tm FYb) (fun i hi => (T.2.2 i hi).2) yb e1
  refine ⟨E, Xa, Ya, e1, l1, rfl, FXa, ?_, ?_, ?_, FrN_tr FYb (FrN_5 s2), s3, ?_, ?_⟩
  · rw [eXa, upd2_at, if_neg (by omega), upd2_at, if_neg (by omega)]; exact p1
  · rw [eXa, upd2_at, if_neg (by omega), upd2_at, if_neg (by omega)]; exact p4
  · rw [s1, bo_s, jn_s]
  · rw [eXa, upd2_at, if_neg (by omega), upd2_at, if_neg (by omega), p7]
  · rw [s2.1 2 (by decide)]
    refine Dr_op (v := v) D ho (by omega) ?_ ?_ (fun k k1 k2 => ?_) ?_ ?_ (fun a b k1 k2 k3 => ?_)
    · rw [eYb, um_at, if_neg (by omega), um_at, if_pos ⟨rfl, rfl⟩]
    · rw [eYb, um_at, if_pos ⟨rfl, rfl⟩]
    · rw [eYb, um_at, if_neg (fun z => k1 z.2), um_at, if_neg (fun z => k2 z.2), G1.1 2 (by decide)]
    · rw [eXa, upd2_at, if_neg (by omega), upd2_at, if_pos ⟨rfl, rfl⟩]
    · rw [eXa, upd2_at, if_pos ⟨rfl, rfl⟩]
    · rw [eXa, upd2_at, if_neg k2, upd2_at, if_neg k3, F1 a b (by omega)]
theorem rd_loop {r : Nat → Int32} {n kk hh : Nat} : ∀ (d o kx km p : Nat) (Mx : XM) (Mm : MM), o + (d + 1) = 5 → d + 1 ≤ kx → d + 2 ≤ km → TX Mx r n → TM Mm r n → Mx 1 2 = nI p → Mm.1 0 15 = nI p → p ≤ n → Mx 1 4 = 0 → Dr Mx (Mm.1 2) kk o 0 hh → ∃ (Mxa Mx2 : XM), xJ kx o Mx = some Mxa ∧ xEND Mxa = some Mx2 ∧ FrC Mx Mx2 ∧ ((∃ (E no : Nat) (Mm2 : MM), E ≤ n ∧ p < E ∧ 1 ≤ no ∧ FX8_readsReader_L29 (fun (M_5 : MM) => mKE M_5) km 1 Mm = some (1, Mm2) ∧ FrN Mm Mm2 ∧ Mx2 1 2 = nI E ∧ Mx2 1 4 = 0 ∧ Mm2.1 0 15 = nI E ∧ Dr Mx2 (Mm2.1 2) kk no 0 hh ∧ Mx2 1 5 = Mx 1 5) ∨ ∃ Mm2 : MM, FX8_readsReader_L29 (fun (M_5 : MM) => mKE M_5) km 1 Mm = some (0, Mm2) ∧ FrN Mm Mm2 ∧ BAD n Mx2 Mm2) := by
  intro d
  induction d with
  | zero =>
    intro o kx km p Mx Mm hod hkx hkm T Tm h hm hp h4 D
    obtain ⟨km, rfl⟩ : ∃ z, km = z + 2 := ⟨km - 2, by omega⟩
    rcases rd_one (km := km + 1) (show o < 5 by omega) (show 1 ≤ kx by omega) T Tm h hm hp h4 D (fun (M_5 : MM) => mKE M_5) with ⟨M2, M3, Mm2, y1, y2, y3, y4, y5, y6⟩ | ⟨E, Xa, Ya, e1, l1, y1, FX, xa2, xa4, y2, FY, tk, x5, D2⟩
    · exact ⟨M2, M3, y1, y2, y3, Or.inr ⟨Mm2, y4, y5, y6⟩⟩
    obtain ⟨kx, rfl⟩ : ∃ z, kx = z + 1 := ⟨kx - 1, by omega⟩
    have e5 : o + 1 = 5 := by omega
    have hx : xJ (kx + 1) o Mx = some Xa := by
      rw [y1, FX2_readReader_L12, if_pos (show (5 : Int32) ≤ nI (o + 1) from nI_le (a := 5) (by omega) (by omega))]
    obtain ⟨Mx2, z1, z2, z3⟩ := fin_both (TX_FrC T FX) xa2 e1 xa4 tk
    refine ⟨Xa, Mx2, hx, z1, FrC_tr FX (FrC_P z2), ?_⟩
    have g5 : Ya.1 2 1 = 5 := by rw [D2.1.2.1, e5]; rfl
    by_cases c44 : Ya.1 0 17 = 44
    · have n59 : ¬ Ya.1 0 17 = 59 := by rw [c44]; decide
      have hK : mKE Ya = some (0, um Ya 0 20 1) := by
        unfold mKE FX8_fails
        rw [if_neg n59, bd_s, if_pos rfl]
      rcases z3 with ⟨E2, w1, w2, w3, -⟩ | ⟨w1, w2⟩
      · rw [hK] at w3
        have w4 : (0 : Int32) = 1 := (Prod.mk.inj (Option.some.inj w3)).1
        exact absurd w4 (by decide)
      · refine Or.inr ⟨um Ya 0 20 1, ?_, FrN_um FY (by omega), w2⟩
        rw [y2, if_pos c44, FX8_readsReader_L29, if_neg (show ¬ (1 : Int32) = 0 by decide), if_pos g5]
        unfold FX8_fails
        rw [bd_s, if_pos (show bo01 0 from Or.inl rfl)]
    · have hL : FX8_readsReader_L29 (fun (M_5 : MM) => mKE M_5) (km + 1 + 1) 1 Mm = mKE Ya := by
        rw [y2, if_neg c44, FX8_readsReader_L29, if_pos rfl]
      rcases z3 with ⟨E2, w1, w2, w3, w4, w5, w6, w7⟩ | ⟨w1, w2⟩
      · exact Or.inl ⟨E2, o + 1, Ya, w1, by omega, by omega, by rw [hL]; exact w3, FY, w4, w5, w6, Dr_P D2 (fun a b hab => z2 a b (by omega)), w7.trans x5⟩
      · exact Or.inr ⟨_, by rw [hL]; exact w1, FrN_um FY (by omega), w2⟩
  | succ d ih =>
    intro o kx km p Mx Mm hod hkx hkm T Tm h hm hp h4 D
    obtain ⟨km, rfl⟩ : ∃ z, km = z + 2 := ⟨km - 2, by omega⟩
    rcases rd_one (km := km + 1) (show o < 5 by omega) (show 1 ≤ kx by omega) T Tm h hm hp h4 D (fun (M_5 : MM) => mKE M_5) with ⟨M2, M3, Mm2, y1, y2, y3, y4, y5, y6⟩ | ⟨E, Xa, Ya, e1, l1, y1, FX, xa2, xa4, y2, FY, tk, x5, D2⟩
    · exact ⟨M2, M3, y1, y2, y3, Or.inr ⟨Mm2, y4, y5, y6⟩⟩
    obtain ⟨kx, rfl⟩ : ∃ z, kx = z + 1 := ⟨kx - 1, by omega⟩
    have Ta := TX_FrC T FX
    obtain ⟨k1, k2, k3⟩ := SK_ok (r := r) (n := n) (n - E) E (by omega)
    rw [FX2_readReader_L12, if_neg (show ¬ (5 : Int32) ≤ nI (o + 1) from nI_ge (b := 5) (by omega) (by decide)), jn_s, if_neg (show ¬ nI (o + 1) = 0 from nI_ne0 (by omega) (by omega)), x_takes Ta xa2 e1 xa4] at y1
    by_cases c44 : ch r n (SK r n E) = 44
    · have hlt : SK r n E < n := by
        by_cases z : SK r n E < n
        · exact z
        · unfold ch at c44; rw [if_neg z] at c44; exact absurd c44 (by decide)
      have nd : ¬ isD (ch r n (SK r n E)) := by rw [c44]; exact fun z => absurd z.1 (by decide)
      obtain ⟨-, tk2⟩ := tk
      rcases tk2 with ⟨z, -⟩ | ⟨-, t17, t15⟩
      · exact absurd z nd
      rw [if_pos hlt] at t15
      rw [if_pos c44, bd_s, if_neg (show ¬ (1 : Int32) = 0 by decide)] at y1
      obtain ⟨Xb, eXb⟩ : ∃ Xb, Xb = upd2 Xa 1 2 (nI (SK r n E + 1)) := ⟨_, rfl⟩
      rw [← eXb] at y1
      have FXb : FrC Mx Xb := by rw [eXb]; exact FrC_upd FX (by omega)
      obtain ⟨Mxa, Mx2, z1, z2, z3, z4⟩ := ih (o + 1) kx (km + 1) (SK r n E + 1) Xb Ya (by omega) (by omega) (by omega) (TX_FrC T FXb) (TM_FrN Tm FY) (by rw [eXb, upd2_at, if_pos ⟨rfl, rfl⟩]) t15 (by omega) (by rw [eXb, upd2_at, if_neg (by decide)]; exact xa4) (Dr_P D2 (fun a b hab => by rw [eXb, upd2_at, if_neg (by omega)]))
      have hx : xJ (kx + 1) o Mx = some Mxa := by
        rw [y1, nI_1]
        exact z1
      have hL : FX8_readsReader_L29 (fun (M_5 : MM) => mKE M_5) (km + 1 + 1) 1 Mm = FX8_readsReader_L29 (fun (M_5 : MM) => mKE M_5) (km + 1) 1 Ya := by
        rw [y2, if_pos (by rw [t17]; exact c44)]
      rw [hL]
      refine ⟨Mxa, Mx2, hx, z2, FrC_tr FXb z3, ?_⟩
      rcases z4 with ⟨E2, no, Mm2, w1, w2, w3, w4, w5, w6, w7, w8, w9, w10⟩ | ⟨Mm2, w1, w2, w3⟩
      · exact Or.inl ⟨E2, no, Mm2, w1, by omega, w3, w4, FrN_tr FY w5, w6, w7, w8, w9, by rw [w10, eXb, upd2_at, if_neg (by decide), x5]⟩
      · exact Or.inr ⟨Mm2, w1, FrN_tr FY w2, w3⟩
    · rw [if_neg c44, bd_s, if_pos rfl] at y1
      obtain ⟨Xb, eXb⟩ : ∃ Xb, Xb = upd2 Xa 1 2 (nI (SK r n E)) := ⟨_, rfl⟩
      rw [← eXb] at y1
      have FXb : FrC Mx Xb := by rw [eXb]; exact FrC_upd FX (by omega)
      have hsk : SK r n (SK r n E) = SK r n E := SK_n k3
      obtain ⟨Mx2, z1, z2, z3⟩ := fin_both (p := SK r n E) (TX_FrC T FXb) (by rw [eXb, upd2_at, if_pos ⟨rfl, rfl⟩]) k2 (by rw [eXb, upd2_at, if_neg (by decide)]; exact xa4) (by rw [hsk]; exact tk)
      have n44 : ¬ Ya.1 0 17 = 44 := by
        rcases tk.2 with ⟨z, t17, -⟩ | ⟨-, t17, -⟩
        · rw [t17]; decide
        · rw [t17]; exact c44
      have hL : FX8_readsReader_L29 (fun (M_5 : MM) => mKE M_5) (km + 1 + 1) 1 Mm = mKE Ya := by
        rw [y2, if_neg n44, FX8_readsReader_L29, if_pos rfl]
      refine ⟨Xb, Mx2, y1, z1, FrC_tr FXb (FrC_P z2), ?_⟩
      rcases z3 with ⟨E2, w1, w2, w3, w4, w5, w6, w7⟩ | ⟨w1, w2⟩
      · exact Or.inl ⟨E2, o + 1, Ya, w1, by omega, by omega, by rw [hL]; exact w3, FY, w4, w5, w6, Dr_P D2 (fun a b hab => by rw [z2 a b (by omega), eXb, upd2_at, if_neg (by omega)]), by rw [w7, eXb, upd2_at, if_neg (by decide), x5]⟩
      · exact Or.inr ⟨_, by rw [hL]; exact w1, FrN_um FY (by omega), w2⟩
