/-! ===== the plain calls ===== -/
def sCv (g u : Nat → Int32) : Nat → Int32
  | 0 => 0
  | n + 1 => sCv g u n ||| (if u n < g 3 then (0 : Int32) else (1 : Int32) <<< (nI n &&& 31))
theorem x_conv {M : XM} {c d no : Nat} {g u : Nat → Int32} (hc : x_is3 c) (h1 : M d 1 = nI no) (h3 : M d 3 = g 3) (hno : no ≤ 5) (B : BelX M c u) : FX3_convincedOf c d M = some (sCv g u no) := by
  have L : ∀ (n i k : Nat), i + n = no → n < k → FX3_convincedOf_L4 c d M (fun (k2_1 : Int32) => some k2_1) k (sCv g u i) (nI i) = some (sCv g u no) := by
    intro n
    induction n with
    | zero =>
      intro i k hi hk
      obtain ⟨k, rfl⟩ : ∃ z, k = z + 1 := ⟨k - 1, by omega⟩
      have e : i = no := by omega
      subst e
      rw [FX3_convincedOf_L4, h1, if_pos (nI_le (Nat.le_refl _) (by omega))]
    | succ n ih =>
      intro i k hi hk
      obtain ⟨k, rfl⟩ : ∃ z, k = z + 1 := ⟨k - 1, by omega⟩
      rw [FX3_convincedOf_L4, h1, if_neg (nI_ge (by omega) (by omega)), at_ok (by rw [len3_1 hc]; omega), bo_s, jn_s, B i (by omega), h3, nI_1]
      have I := ih (i + 1) k (by omega) (by omega)
      rw [sCv] at I
      by_cases h : u i < g 3
      · rw [if_pos h] at I ⊢; exact I
      · rw [if_neg h] at I ⊢; exact I
  exact L no 0 fuelN (by omega) (show no < 100000 by omega)
theorem m_conv {M : MM} {c no : Nat} (hc : mRow c) (h1 : M.1 1 1 = nI no) (hno : no ≤ 5) : FX8_convinced c M = some (sCv (M.1 1) (M.1 c) no) := by
  have L : ∀ (n i k : Nat), i + n = no → n < k → FX8_convinced_L4 c M (fun (k2_1 : Int32) => some k2_1) k (sCv (M.1 1) (M.1 c) i) (nI i) = some (sCv (M.1 1) (M.1 c) no) := by
    intro n
    induction n with
    | zero =>
      intro i k hi hk
      obtain ⟨k, rfl⟩ : ∃ z, k = z + 1 := ⟨k - 1, by omega⟩
      have e : i = no := by omega
      subst e
      rw [FX8_convinced_L4, h1, if_pos (nI_le (Nat.le_refl _) (by omega))]
    | succ n ih =>
      intro i k hi hk
      obtain ⟨k, rfl⟩ : ∃ z, k = z + 1 := ⟨k - 1, by omega⟩
      rw [FX8_convinced_L4, h1, if_neg (nI_ge (by omega) (by omega)), mlen hc, if_pos (inb_n (by omega) (by decide)), jn_s, ix_n (by omega), nI_1]
      have I := ih (i + 1) k (by omega) (by omega)
      rw [sCv] at I
      by_cases h : M.1 c i < M.1 1 3
      · rw [if_pos h] at I ⊢; exact I
      · rw [if_neg h] at I ⊢; exact I
  exact L no 0 fuelN (by omega) (show no < 100000 by omega)
theorem sCv_eq {g u w : Nat → Int32} : ∀ n, (∀ o, o < n → u o = w o) → sCv g u n = sCv g w n := by
  intro n
  induction n with
  | zero => exact fun _ => rfl
  | succ n ih =>
    intro h
    rw [sCv, sCv, ih (fun o ho => h o (by omega)), h n (by omega)]
theorem sim_fault : Sim_fault RR := by
  intro Mx Mm h
  obtain ⟨kk, no, nf, hh, a1, a2, a3, a4, a5, a6, a7, a8, a9, a10, a11⟩ := h
  exact ⟨Mx 1 5, rfl, by unfold FX8_fault; rw [a10]⟩
theorem sim_belief : Sim_belief RR := by
  intro Mx Mm h a
  obtain ⟨kk, no, nf, hh, a1, a2, a3, a4, a5, a6, a7, a8, a9, a10, a11⟩ := h
  obtain ⟨c0, c1, c2, c3, c4, hno, hnf, -, -, -⟩ := a1
  unfold FX7_belief FX8_belief
  rw [opin_x (no := no) (by rw [a2.2.1]; exact c1) hno, opin_m c1 hno, bo_s, bo_s]
  by_cases q : 0 ≤ a.toInt ∧ a.toInt < no
  · rw [if_pos q, if_neg (by decide), if_neg (by decide)]
    obtain ⟨j, hj, rfl⟩ := i_nat q
    rw [at_ok (c := 18) (show j < 5 by omega), bo_s, if_pos (inb_n (by omega) (by decide)), ix_n (by omega)]
    exact ⟨_, rfl, by rw [a3.1 j (by omega)]⟩
  · rw [if_neg q, if_pos rfl, if_pos rfl]
    exact ⟨_, rfl, rfl⟩
theorem sim_told : Sim_told RR := by
  intro Mx Mm h a
  obtain ⟨kk, no, nf, hh, a1, a2, a3, a4, a5, a6, a7, a8, a9, a10, a11⟩ := h
  obtain ⟨c0, c1, c2, c3, c4, hno, hnf, -, -, -⟩ := a1
  obtain ⟨b0, b1, b2, b3, -⟩ := a2
  obtain ⟨m1, m2, m3, m4, m5, m6⟩ := a3
  obtain ⟨cnt, nx, -, -, p2, -, p4, -⟩ := a5
  obtain ⟨n7, -, t7, t7m, -⟩ := a7
  obtain ⟨n8, -, t8, t8m, -⟩ := a8
  obtain ⟨n9, -, t9, t9m, -⟩ := a9
  have ex : FX3_convincedOf 17 3 Mx = some (sCv (Mm.1 1) (Mm.1 3) no) := x_conv (by decide) (by rw [b1]; exact c1) b3 hno m1
  have em : FX8_convinced 3 Mm = some (sCv (Mm.1 1) (Mm.1 3) no) := m_conv (by decide) c1 hno
  unfold FX7_told FX8_told
  rw [jn_s, ex, em, bo_s]
  by_cases h0 : a = 0
  · subst h0; exact ⟨_, rfl, by rw [if_pos rfl, if_pos (by decide), b0]; rfl⟩
  rw [if_neg h0, if_neg h0]
  by_cases h1 : a = 1
  · subst h1; exact ⟨_, rfl, by rw [if_pos rfl, if_pos (by decide), b1]; rfl⟩
  rw [if_neg h1, if_neg h1]
  by_cases h2 : a = 2
  · subst h2; exact ⟨_, rfl, by rw [if_pos rfl, if_pos (by decide), b2]; rfl⟩
  rw [if_neg h2, if_neg h2]
  by_cases h3 : a = 3
  · subst h3; exact ⟨_, rfl, by rw [if_pos rfl, if_pos (by decide), b3]; rfl⟩
  rw [if_neg h3, if_neg h3]
  by_cases h4 : a = 4
  · subst h4; exact ⟨_, rfl, by rw [if_pos rfl, t9, t9m]⟩
  rw [if_neg h4, if_neg h4]
  by_cases h5 : a = 5
  · subst h5; exact ⟨_, rfl, by rw [if_pos rfl, m4]⟩
  rw [if_neg h5, if_neg h5]
  by_cases h6 : a = 6
  · subst h6; exact ⟨_, rfl, by rw [if_pos rfl, m5]⟩
  rw [if_neg h6, if_neg h6]
  by_cases h7 : a = 7
  · subst h7; exact ⟨_, rfl, by rw [if_pos rfl]⟩
  rw [if_neg h7, if_neg h7]
  by_cases h8 : a = 8
  · subst h8; exact ⟨_, rfl, by rw [if_pos rfl, m3]⟩
  rw [if_neg h8, if_neg h8]
  by_cases h9 : a = 9
  · subst h9; exact ⟨_, rfl, by rw [if_pos rfl, m6]⟩
  rw [if_neg h9, if_neg h9]
  by_cases h10 : a = 10
  · subst h10; exact ⟨_, rfl, by rw [if_pos rfl, t7, t7m]⟩
  rw [if_neg h10, if_neg h10]
  by_cases h11 : a = 11
  · subst h11; exact ⟨_, rfl, by rw [if_pos rfl, t8, t8m]⟩
  rw [if_neg h11, if_neg h11]
  by_cases h12 : a = 12
  · subst h12; exact ⟨_, rfl, by rw [if_pos rfl, p2, p4]⟩
  rw [if_neg h12, if_neg h12]
  exact ⟨_, rfl, rfl⟩
theorem sim_fact : Sim_fact RR := by
  intro Mx Mm h a b
  obtain ⟨kk, no, nf, hh, a1, a2, a3, a4, a5, a6, a7, a8, a9, a10, a11⟩ := h
  obtain ⟨c0, c1, c2, c3, c4, hno, hnf, -, -, hF⟩ := a1
  obtain ⟨b0, b1, b2, b3, bF⟩ := a2
  obtain ⟨m1, m2, m3, m4, m5, m6⟩ := a3
  unfold FX7_fact FX8_fact
  rw [fact_x (nf := nf) (by rw [b2]; exact c2) hnf, fact_m c2 hnf, bo_s, bo_s]
  by_cases q : ¬ (0 ≤ a.toInt ∧ a.toInt < nf)
  · rw [if_neg q, if_pos rfl, if_pos rfl]
    exact ⟨_, rfl, rfl⟩
  replace q := Classical.not_not.mp q
  rw [if_pos q, if_neg (show ¬ (1 : Int32) = 0 by decide), if_neg (show ¬ (1 : Int32) = 0 by decide), jn_s]
  obtain ⟨f, hf, rfl⟩ := i_nat q
  obtain ⟨f1, f2, f3, f4, f5⟩ := bF f hf
  rw [at_ok (c := 5) (show f < 8 by omega), at_ok (c := 6) (show f < 8 by omega), at_ok (c := 7) (show f < 8 by omega), at_ok (c := 8) (show f < 8 by omega), at_ok (c := 9) (show f < 8 by omega), at_ok (c := 19) (show f < 8 by omega), bo_s, bo_s, bo_s, bo_s, bo_s, bo_s]
  have g8 : ∀ k j : Nat, k < 5 → j = 10 + 8 * k + f → b = nI k → (if inb ((10 + (8 * b)) + nI f) 50 then some (Mm.1 1 (ix ((10 + (8 * b)) + nI f))) else none) = some (Mm.1 1 j) := by
    intro k j hk hj hb
    subst hb
    have e1 : (8 : Int32) * nI k = nI (8 * k) := mul_n 8 k
    have e2 : (10 : Int32) + nI (8 * k) = nI (10 + 8 * k) := add_n 10 (8 * k)
    rw [e1, e2, add_n, if_pos (inb_n (by omega) (by decide)), ix_n (by omega), hj]
  by_cases h0 : b = 0
  · rw [if_pos h0, if_pos h0, g8 0 (10 + f) (by omega) (by omega) h0]
    exact ⟨_, rfl, by rw [show Mx 5 f = _ from f1]⟩
  rw [if_neg h0, if_neg h0]
  by_cases h1 : b = 1
  · rw [if_pos h1, if_pos h1, g8 1 (18 + f) (by omega) (by omega) h1]
    refine ⟨_, rfl, ?_⟩
    rw [show Mx 6 f = _ from f2]
    unfold byG
    rw [Int32.sub_add_cancel]
  rw [if_neg h1, if_neg h1]
  by_cases h2 : b = 2
  · have e26 : (26 : Int32) + nI f = nI (26 + f) := add_n 26 f
    rw [if_pos h2, if_pos h2, e26, if_pos (inb_n (by omega) (by decide)), ix_n (by omega), if_pos (inb_n (by omega) (by decide))]
    refine ⟨_, rfl, ?_⟩
    rw [show Mx 7 f = _ from f3]
    by_cases h9 : Mm.1 1 (26 + f) = 9
    · rw [if_pos h9, if_pos h9]
    · rw [if_neg h9, if_neg h9]
  rw [if_neg h2, if_neg h2]
  by_cases h3 : b = 3
  · rw [if_pos h3, if_pos h3, g8 3 (34 + f) (by omega) (by omega) h3]
    exact ⟨_, rfl, by rw [show Mx 8 f = _ from f4]⟩
  rw [if_neg h3, if_neg h3]
  by_cases h4 : b = 4
  · rw [if_pos h4, if_pos h4, g8 4 (42 + f) (by omega) (by omega) h4]
    exact ⟨_, rfl, by rw [show Mx 9 f = _ from f5]⟩
  rw [if_neg h4, if_neg h4]
  by_cases h5 : b = 5
  · rw [if_pos h5, if_pos h5, has_x _ (by omega), has_m, bo_s, bo_s, m3]
    by_cases hs : sHas (Mm.1 3 13) f
    · rw [if_pos hs]; exact ⟨1, rfl, rfl⟩
    · rw [if_neg hs]; exact ⟨0, rfl, rfl⟩
  rw [if_neg h5, if_neg h5]
  by_cases h6 : b = 6
  · have e5 : (5 : Int32) + nI f = nI (5 + f) := add_n 5 f
    rw [if_pos h6, if_pos h6, e5, if_pos (inb_n (by omega) (by decide)), ix_n (by omega)]
    exact ⟨_, rfl, by rw [show Mx 19 f = _ from m2 f (by omega)]⟩
  rw [if_neg h6, if_neg h6]
  exact ⟨_, rfl, rfl⟩
theorem sim_holds : Sim_holds RR := by
  intro Mx Mm _ a b
  have L : ∀ (K : Int64 → Option Int32) (k : Nat) (v : Int64) (w : Int32), FX7_holds_L30 a b K k v w = FX8_holds_L34 a b K k v w := by
    intro K k
    induction k with
    | zero => intro v w; rfl
    | succ k ih => intro v w; rw [FX7_holds_L30, FX8_holds_L34, ih]
  have T : ∀ (n d k : Nat) (v : Int64), n ≤ 60 → a = nI n → d ≤ n → n - d < k → ∃ r, FX8_holds_L34 a b (fun (k3_5 : Int64) => some (Int64.toInt32 k3_5)) k v (nI d) = some r := by
    intro n d k
    induction k generalizing d with
    | zero => intro v _ _ _ h; omega
    | succ k ih =>
      intro v hn ha hd hk
      rw [FX8_holds_L34, ha]
      by_cases h : n = d
      · rw [if_pos (by rw [h]; exact nI_le (Nat.le_refl _) (by omega))]
        exact ⟨_, rfl⟩
      · rw [if_neg (nI_ge (by omega) (by omega)), nI_1, ← ha]
        exact ih (d + 1) _ hn ha (by omega) (by omega)
  unfold FX7_holds FX8_holds
  rw [in_i (p := 0) (q := 60) rfl rfl, in_i (p := 0) (q := 100) rfl rfl, bo_s]
  have z0 : (0 : Int32).toInt = 0 := rfl
  have z60 : (60 : Int32).toInt = 60 := rfl
  have z100 : (100 : Int32).toInt = 100 := rfl
  by_cases q : 0 ≤ a.toInt ∧ a.toInt ≤ 60
  · have n1 : ¬ a < 0 := fun z => by have := i_lt.mp z; omega
    have n2 : ¬ 60 < a := fun z => by have := i_lt.mp z; omega
    rw [if_neg n1, if_neg n2, if_pos q, if_neg (show ¬ (1 : Int32) = 0 by decide), bo_s]
    by_cases q2 : 0 ≤ b.toInt ∧ b.toInt ≤ 100
    · have n3 : ¬ b < 0 := fun z => by have := i_lt.mp z; omega
      have n4 : b ≤ 100 := i_le.mpr (by omega)
      rw [if_neg n3, if_pos n4, if_pos q2, if_neg (show ¬ (1 : Int32) = 0 by decide), L]
      obtain ⟨n, hn, ha⟩ := i_nat (a := a) (n := 61) ⟨by omega, by omega⟩
      obtain ⟨r, hr⟩ := T n 0 fuelN 1000000000 (by omega) ha (by omega) (show n - 0 < 100000 by omega)
      exact ⟨r, hr, hr⟩
    · rw [if_neg q2, if_pos (show (0 : Int32) = 0 from rfl)]
      refine ⟨_, ?_, rfl⟩
      by_cases n3 : b < 0
      · rw [if_pos n3]
      · have g3 : ¬ b.toInt < (0 : Int32).toInt := fun z => n3 (i_lt.mpr z)
        rw [if_neg n3, if_neg (fun z => by have := i_le.mp z; omega)]
  · rw [if_neg q, if_pos (show (0 : Int32) = 0 from rfl)]
    refine ⟨_, ?_, rfl⟩
    by_cases n1 : a < 0
    · rw [if_pos n1]
    · have g1 : ¬ a.toInt < (0 : Int32).toInt := fun z => n1 (i_lt.mpr z)
      rw [if_neg n1, if_pos (i_lt.mpr (by omega))]
