/-! ===== rivals: the method ===== -/
theorem mN_0 {s : Nat} (h : s < 256) : mN 0 s = s := by
  apply Nat.eq_of_testBit_eq
  intro i
  rw [mN_bit _ _ _ h, Nat.zero_testBit]
  cases s.testBit i <;> rfl
theorem CC_le {n : Nat} (h : n ≤ 4) : CC n ≤ 9000 := by
  have e : n = 0 ∨ n = 1 ∨ n = 2 ∨ n = 3 ∨ n = 4 := by omega
  rcases e with rfl | rfl | rfl | rfl | rfl <;> decide
theorem m_rivals {Mm : MM} {kk no nf hh N o n so : Nat} (C : CityI (Mm.1 1) kk no nf hh) (hso : Mm.1 3 13 = nI so) (hs : so < 2 ^ nf) (B : BelI (Mm.1 3)) (R : RdI (Mm.1 3) N) (hN : N < 2 ^ 28) (ho : o < 5) (hn : n ≤ 4) (h1 : 1 ≤ n) : ∃ M2, ScrM Mm M2 ∧ bo (FX8_copies 3 0 12 0 17 Mm) (fun (M_5 : MM) => bo (FX8_beginsStep 0 (um M_5 13 0 0)) (fun (M_6 : MM) => FX8_rivals_L55 (nI o) (nI n) (fun (M_7 : MM) => some ((M_7.1 15 0), M_7)) fuelN 0 M_6)) = some (sV (Mm.1 1) nf o n 0 (Mm.1 3) so, M2) := by
  have p256 : 2 ^ nf ≤ 2 ^ 8 := Nat.pow_le_pow_right (by decide) C.2.2.2.2.2.2.1
  have hc := m_copies (M := Mm) (c0 := 3) (c2 := 12) (i := 0) (j := 0) (n := 17) (by decide) (by decide) (by decide) (by decide) (by decide)
  obtain ⟨q, eq⟩ : ∃ q, q = pt (Mm.1 12) (fun k => Mm.1 3 (0 + k)) 0 17 := ⟨_, rfl⟩
  rw [← eq] at hc
  have q1 : ∀ k, k < 17 → q k = Mm.1 3 k := fun k hk => by
    have := pt_in (g := Mm.1 12) (f := fun k => Mm.1 3 (0 + k)) (a := 0) hk
    rw [Nat.zero_add] at this
    rw [eq, this]
  obtain ⟨M1, e1⟩ : ∃ M1, M1 = um (um (um (setR Mm 12 q) 13 0 0) 14 0 (-1)) 15 0 (-1) := ⟨_, rfl⟩
  have F1 : ∀ a, a ≠ 12 → a ≠ 13 → a ≠ 14 → a ≠ 15 → M1.1 a = Mm.1 a := fun a h1 h2 h3 h4 => by
    funext j
    rw [e1, um_at, if_neg (by omega), um_at, if_neg (by omega), um_at, if_neg (by omega), setR_n _ _ h1]
  have hb := m_stepB (M := um (setR Mm 12 q) 13 0 0) (t := 0) (by decide)
  rw [← e1] at hb
  obtain ⟨e, rfl⟩ : ∃ e, n = e + 1 := ⟨n - 1, by omega⟩
  obtain ⟨fu, efu⟩ : ∃ z, z = fuelN := ⟨_, rfl⟩
  have lfu : 100000 ≤ fu := by rw [efu]; exact Nat.le_refl _
  have hC := CC_le hn
  obtain ⟨M2, k2, y1, y2, y3, y4⟩ := claim_all (K := fun (M_7 : MM) => some ((M_7.1 15 0), M_7)) (n := e + 1) C ho hn hs e 0 0 N fu (Mm.1 3) M1 (by omega) (by omega) (F1 1 (by decide) (by decide) (by decide) (by decide)) (by rw [F1 3 (by decide) (by decide) (by decide) (by decide)]; exact hso) B R (by omega) (Nat.two_pow_pos nf) (fun j hj => by rw [e1, um_at, if_neg (by omega), um_at, if_neg (by omega), um_at, if_neg (by omega), setR_c, Nat.mul_zero, Nat.zero_add]; exact q1 j hj) (by rw [e1, um_at, if_neg (by decide), um_at, if_neg (by decide), um_at, if_pos ⟨rfl, rfl⟩]; rfl) (by rw [e1, um_at, if_neg (by decide), um_at, if_pos ⟨rfl, rfl⟩]) (by rw [e1, um_at, if_pos ⟨rfl, rfl⟩])
  have F2 : ∀ a, a ≠ 10 → a ≠ 12 → a ≠ 13 → a ≠ 14 → a ≠ 15 → M2.1 a = Mm.1 a := fun a h0 h1 h2 h3 h4 => (y2.1.1 a h0 h1 h2 h3 h4).trans (F1 a h1 h2 h3 h4)
  have r0 := F2 0 (by decide) (by decide) (by decide) (by decide) (by decide)
  refine ⟨M2, ⟨fun a ha => F2 a (by omega) (by omega) (by omega) (by omega) (by omega), by rw [r0], by rw [r0], by rw [r0], by rw [r0], by rw [r0], by rw [y2.1.2, e1]; rfl⟩, ?_⟩
  rw [show (FX8_copies 3 0 12 0 17 Mm) = some (setR Mm 12 q) from hc, bo_s, show FX8_beginsStep 0 (um (setR Mm 12 q) 13 0 0) = some M1 from hb, bo_s, ← efu, show (0 : Int32) = nI 0 from rfl, y4]
  show FX8_rivals_L55 (nI o) (nI (e + 1)) _ k2 (-1) M2 = _
  obtain ⟨k2, rfl⟩ : ∃ z, k2 = z + 1 := ⟨k2 - 1, by omega⟩
  rw [FX8_rivals_L55, if_pos (by decide), y3, mN_0 (by omega)]
theorem sim_rivals : Sim_rivals RR := by
  intro Mx Mm h a b
  obtain ⟨kk, no, nf, hh, H⟩ := h
  obtain ⟨a1, a2, a3, a4, a5, a6, a7, a8, a9, a10, a11⟩ := id H
  obtain ⟨c0, c1, c2, c3, c4, hno, hnf, -, -, hF⟩ := id a1
  obtain ⟨b0, b1, b2, b3, bF⟩ := id a2
  obtain ⟨N, hN, MN⟩ := mindN_of a4
  obtain ⟨so, hso, eso⟩ := MN.2.2.2
  have p256 : 2 ^ nf ≤ 2 ^ 8 := Nat.pow_le_pow_right (by decide) hnf
  unfold FX7_rivals FX8_rivals
  rw [opin_x (no := no) (by rw [b1]; exact c1) hno, opin_m c1 hno, bo_s, bo_s]
  by_cases qa : ¬ (0 ≤ a.toInt ∧ a.toInt < no)
  · rw [if_neg qa, if_pos rfl, if_pos rfl]
    exact ⟨_, _, _, rfl, rfl, kk, no, nf, hh, H⟩
  replace qa := Classical.not_not.mp qa
  obtain ⟨o, ho, rfl⟩ := i_nat qa
  rw [if_pos qa, if_neg (show ¬ (1 : Int32) = 0 by decide), if_neg (show ¬ (1 : Int32) = 0 by decide), in_i (p := 1) (q := 4) rfl rfl, bo_s]
  have z1 : (1 : Int32).toInt = 1 := rfl
  have z4 : (4 : Int32).toInt = 4 := rfl
  by_cases q1 : b < 1
  · have := i_lt.mp q1
    rw [if_pos q1, if_neg (show ¬ (1 ≤ b.toInt ∧ b.toInt ≤ 4) by omega), if_pos rfl]
    exact ⟨_, _, _, rfl, rfl, kk, no, nf, hh, H⟩
  have q1' : ¬ b.toInt < 1 := fun z => q1 (i_lt.mpr (by rw [z1]; exact z))
  by_cases q2 : ¬ b ≤ 4
  · have q2' : ¬ b.toInt ≤ 4 := fun z => q2 (i_le.mpr (by rw [z4]; exact z))
    rw [if_neg q1, if_neg q2, if_neg (show ¬ (1 ≤ b.toInt ∧ b.toInt ≤ 4) by omega), if_pos rfl]
    exact ⟨_, _, _, rfl, rfl, kk, no, nf, hh, H⟩
  replace q2 := Classical.not_not.mp q2
  have q2' := i_le.mp q2
  obtain ⟨n, hn, rfl⟩ := i_nat (a := b) (n := 5) (by omega)
  have en := nI_toInt (n := n) (by omega)
  rw [if_neg q1, if_pos q2, if_pos (show 1 ≤ (nI n).toInt ∧ (nI n).toInt ≤ 4 by omega), if_neg (show ¬ (1 : Int32) = 0 by decide)]
  obtain ⟨M1, y1, y2, y3⟩ := x_copy (M := Mx) (c0 := 20) (c1 := 17) (by decide) (by decide) (by decide)
  have hmi := mindX_iff.mp a3
  obtain ⟨M2, g1, g2, -, -⟩ := x_game (M0 := Mx) (o := o) (n := n) a1 a2 ho (by omega) 8 n 0 so (8 * N) (Mm.1 3) M1 (by omega) (by omega) hso MN.1 MN.2.2.1 (by omega) (by omega) y3 (fun j hj => by rw [y2.1 j hj]; exact hmi j (by omega)) (fun j hj => by rw [y2.2.1 j hj]; exact hmi (5 + j) (by omega))
  obtain ⟨M4, w1, w2⟩ := m_rivals (n := n) a1 eso hso MN.1 MN.2.2.1 (by omega) (show o < 5 by omega) (by omega) (by omega)
  refine ⟨sV (Mm.1 1) nf o n 0 (Mm.1 3) so, M2, M4, ?_, w2, kk, no, nf, hh, RRk_scr (ScrX_fr (Or.inl rfl) g2) w1 H⟩
  rw [y1, bo_s, show M1 17 2 = nI so by rw [y3 17 (by decide) (by decide) (by decide)]; exact a3.2.2.1.trans eso, show (0 : Int32) = nI 0 from rfl, g1, bd_s]
