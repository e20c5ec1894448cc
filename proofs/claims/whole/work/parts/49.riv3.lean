/-! ===== rivals: the reference's game ===== -/
noncomputable def AFT (o n : Nat) (K : MM → Option (Int32 × MM)) (k : Nat) (M : MM) : Nat → Option (Int32 × MM)
  | 0 => FX8_rivals_L55 (nI o) (nI n) K k (-1) M
  | t + 1 => bo (FX8_weighs (nI t) (M.1 15 (t + 1)) M) (fun M2 => FX8_rivals_L55 (nI o) (nI n) K k (nI t) M2)
/-- what follows when one has gone to the next turn -/
noncomputable def NXT (o n : Nat) (K : MM → Option (Int32 × MM)) (k t : Nat) (M : MM) : Option (Int32 × MM) := if nI (t + 1) = nI n then bo (FX8_weighs (nI t) (M.1 10 o) M) (fun M2 => FX8_rivals_L55 (nI o) (nI n) K k (nI t) M2) else bo (FX8_beginsStep (nI (t + 1)) M) (fun M2 => FX8_rivals_L55 (nI o) (nI n) K k (nI (t + 1)) M2)
theorem it_go {M : MM} {o n t k f nf : Nat} {K : MM → Option (Int32 × MM)} (ho : o < 5) (ht : t < 4) (hnf : nf ≤ 8) (h2 : M.1 1 2 = nI nf) (h14 : M.1 14 t + 1 = nI f) (hf : f ≤ nf) : FX8_rivals_L55 (nI o) (nI n) K (k + 1) (nI t) M = bd (FX8_goes (nI t) (um M 14 t (nI f))) (fun (r_12 : Int32) (M_13 : MM) => (if r_12 = 0 then FX8_rivals_L55 (nI o) (nI n) K k (nI t) M_13 else NXT o n K k t M_13)) := by
  have hi : inb (nI t) 5 := inb_n (by omega) (by decide)
  have e14 : (um M 14 t (nI f)).1 14 t = nI f := by rw [um_at, if_pos ⟨rfl, rfl⟩]
  have e12 : (um M 14 t (nI f)).1 1 2 = nI nf := by rw [um_at, if_neg (by omega)]; exact h2
  rw [FX8_rivals_L55, if_neg (nI_pos (by omega)), if_pos hi, if_pos hi, if_pos hi, ix_n (show t < 2 ^ 31 by omega), h14, e14, e12, if_pos (nI_le hf (by omega))]
  refine congrArg (bd _) (funext fun r => funext fun M13 => ?_)
  unfold NXT
  rw [nI_1, if_pos (show inb (nI o) 17 from inb_n (by omega) (by decide)), ix_n (show o < 2 ^ 31 by omega)]
theorem pred_n (t : Nat) : nI (t + 1) + (-1) = nI t := by
  rw [← nI_1, Int32.add_assoc, show (1 : Int32) + (-1) = 0 by decide, Int32.add_zero]
theorem it_exit {M : MM} {o n t k nf : Nat} {K : MM → Option (Int32 × MM)} (ht : t < 4) (hnf : nf ≤ 8) (h2 : M.1 1 2 = nI nf) (h14 : M.1 14 t + 1 = nI (nf + 1)) : FX8_rivals_L55 (nI o) (nI n) K (k + 1) (nI t) M = AFT o n K k (um M 14 t (nI (nf + 1))) t := by
  have hi : inb (nI t) 5 := inb_n (by omega) (by decide)
  have e14 : (um M 14 t (nI (nf + 1))).1 14 t = nI (nf + 1) := by rw [um_at, if_pos ⟨rfl, rfl⟩]
  have e12 : (um M 14 t (nI (nf + 1))).1 1 2 = nI nf := by rw [um_at, if_neg (by omega)]; exact h2
  rw [FX8_rivals_L55, if_neg (nI_pos (by omega)), if_pos hi, if_pos hi, if_pos hi, ix_n (show t < 2 ^ 31 by omega), h14, e14, e12, if_neg (nI_ge (by omega) (by omega))]
  cases t with
  | zero =>
    rw [show nI 0 + (-1) = -1 by decide, if_pos (by decide)]
    rfl
  | succ t =>
    rw [pred_n, if_neg (nI_pos (by omega)), nI_1, if_pos hi, ix_n (show t + 1 < 2 ^ 31 by omega)]
    rfl
def CC : Nat → Nat
  | 0 => 0
  | e + 1 => 9 * (CC e + 1) + 1
/-- from a turn that begins on: e turns are left -/
def Claim (g : Nat → Int32) (nf o n so : Nat) (K : MM → Option (Int32 × MM)) (e : Nat) : Prop := ∀ (t p N k : Nat) (u : Nat → Int32) (M : MM), t + e = n → CC e ≤ k → M.1 1 = g → M.1 3 13 = nI so → BelI u → RdI u N → N + e < 2 ^ 29 → p < 2 ^ nf → (∀ j, j < 17 → M.1 12 (17 * t + j) = u j) → M.1 13 t = nI p → M.1 14 t = -1 → M.1 15 t = -1 → ∃ (M2 : MM) (k2 : Nat), k ≤ k2 + CC e ∧ FrL t M M2 ∧ M2.1 15 t = sV g nf o e t u (mN p so) ∧ FX8_rivals_L55 (nI o) (nI n) K k (nI t) M = AFT o n K k2 M2 t
/-- from a turn t behind which one has gone: e turns are left behind it -/
def Child (g : Nat → Int32) (nf o n so : Nat) (K : MM → Option (Int32 × MM)) (e : Nat) : Prop := ∀ (t p N k : Nat) (u : Nat → Int32) (M : MM) (b : Int32), t + 1 + e = n → CC e ≤ k → M.1 1 = g → M.1 3 13 = nI so → BelI u → RdI u N → N + e < 2 ^ 29 → p < 2 ^ nf → (∀ j, j < 17 → M.1 10 j = u j) → (∀ j, j < 17 → M.1 12 (17 * (t + 1) + j) = u j) → M.1 13 (t + 1) = nI p → M.1 15 t = b → ∃ (M2 : MM) (k2 : Nat), k ≤ k2 + CC e ∧ FrL t M M2 ∧ M2.1 14 t = M.1 14 t ∧ M2.1 15 t = wg t b (sV g nf o e (t + 1) u (mN p so)) ∧ NXT o n K k t M = FX8_rivals_L55 (nI o) (nI n) K k2 (nI t) M2
theorem child_0 {g : Nat → Int32} {nf o n so : Nat} {K : MM → Option (Int32 × MM)} (ho : o < 5) (hn : n ≤ 4) : Child g nf o n so K 0 := by
  intro t p N k u M b hte hk eg hso B R hN hp h10 h12 h13 h15
  refine ⟨um M 15 t (wg t b (u o)), k, by omega, FrL_um (Or.inr rfl) (Nat.le_refl _), by rw [um_at, if_neg (by omega)], by rw [um_at, if_pos ⟨rfl, rfl⟩]; rfl, ?_⟩
  unfold NXT
  rw [if_pos (by rw [show t + 1 = n by omega]), h10 o (by omega), m_weighs (by omega) h15, bo_s]
theorem child_s {g : Nat → Int32} {nf o n so e : Nat} {K : MM → Option (Int32 × MM)} (hn : n ≤ 4) (H : Claim g nf o n so K (e + 1)) : Child g nf o n so K (e + 1) := by
  intro t p N k u M b hte hk eg hso B R hN hp h10 h12 h13 h15
  obtain ⟨M1, eM1⟩ : ∃ M1, M1 = um (um M 14 (t + 1) (-1)) 15 (t + 1) (-1) := ⟨_, rfl⟩
  have F1 : FrL (t + 1) M M1 := by rw [eM1]; exact FrL_tr (FrL_um (Or.inl rfl) (Nat.le_refl _)) (FrL_um (Or.inr rfl) (Nat.le_refl _))
  have o12 : M1.1 12 = M.1 12 := by funext j; rw [eM1, um_at, if_neg (by omega), um_at, if_neg (by omega)]
  obtain ⟨M2, k2, y1, y2, y3, y4⟩ := H (t + 1) p N k u M1 (by omega) hk (by rw [F1.1.1 1 (by decide) (by decide) (by decide) (by decide) (by decide)]; exact eg) (by rw [F1.1.1 3 (by decide) (by decide) (by decide) (by decide) (by decide)]; exact hso) B R hN hp (fun j hj => by rw [o12]; exact h12 j hj) (by rw [F1.2.2.1 (t + 1) (Nat.le_refl _)]; exact h13) (by rw [eM1, um_at, if_neg (by omega), um_at, if_pos ⟨rfl, rfl⟩]) (by rw [eM1, um_at, if_pos ⟨rfl, rfl⟩])
  have F2 : FrL (t + 1) M M2 := FrL_tr F1 y2
  have b2 : M2.1 15 t = b := by rw [(F2.2.2.2 t (by omega)).2]; exact h15
  refine ⟨um M2 15 t (wg t b (sV g nf o (e + 1) (t + 1) u (mN p so))), k2, y1, FrL_tr (FrL_up F2) (FrL_um (Or.inr rfl) (Nat.le_refl _)), by rw [um_at, if_neg (by omega)]; exact (F2.2.2.2 t (by omega)).1, by rw [um_at, if_pos ⟨rfl, rfl⟩], ?_⟩
  unfold NXT
  rw [if_neg (fun z => by have := (nI_eq (by omega) (by omega)).mp z; omega), m_stepB (by omega), bo_s, ← eM1, y4]
  show bo (FX8_weighs (nI t) (M2.1 15 (t + 1)) M2) _ = _
  rw [y3, m_weighs (by omega) b2, bo_s]
theorem mN_or {p so f : Nat} (hs : so < 256) : mN (p ||| 2 ^ f) so = mN (2 ^ f) (mN p so) := by
  have h2 : mN p so < 256 := Nat.lt_of_le_of_lt (mN_le _ _) hs
  apply Nat.eq_of_testBit_eq
  intro i
  rw [mN_bit _ _ _ hs, mN_bit _ _ _ h2, mN_bit _ _ _ hs, Nat.testBit_or]
  cases so.testBit i <;> cases p.testBit i <;> cases (2 ^ f).testBit i <;> rfl
theorem sV_0 {g : Nat → Int32} {nf o t : Nat} {u : Nat → Int32} : ∀ e, sV g nf o e t u 0 = u o := by
  intro e
  cases e with
  | zero => rfl
  | succ e => rw [sV, if_pos rfl]
theorem sFd_0 (t : Nat) (val : Nat → Int32) : ∀ n, sFd t 0 val n = -1 := by
  intro n
  induction n with
  | zero => rfl
  | succ n ih => rw [sFd, if_neg (by rw [Nat.zero_testBit]; decide), ih]
theorem claim_s {g : Nat → Int32} {kk no nf hh o n so e : Nat} {K : MM → Option (Int32 × MM)} (C : CityI g kk no nf hh) (ho : o < 5) (hn : n ≤ 4) (hs : so < 2 ^ nf) (H : Child g nf o n so K e) : Claim g nf o n so K (e + 1) := by
  intro t p N k u M0 hte hk eg hso B R hN hp h12 h13 h14 h15
  obtain ⟨g0, g1, g2, g3, hk3, hno, hnf, -, -, hF⟩ := id C
  have p256 : 2 ^ nf ≤ 2 ^ 8 := Nat.pow_le_pow_right (by decide) hnf
  obtain ⟨s, es⟩ : ∃ s, s = mN p so := ⟨_, rfl⟩
  obtain ⟨val, ev⟩ : ∃ val : Nat → Int32, val = fun f => sV g nf o e (t + 1) (sRead g (byG g) u f) (mN (2 ^ f) s) := ⟨_, rfl⟩
  obtain ⟨x, ex⟩ : ∃ x, x = CC e + 1 := ⟨_, rfl⟩
  rw [← es]
  have hV : sV g nf o (e + 1) t u s = if s = 0 then u o else sFd t s val nf := by rw [sV, ev]
  have L : ∀ (r f k : Nat) (M : MM), f + r = nf + 1 → r * x + 1 ≤ k → FrL t M0 M → M.1 14 t + 1 = nI f → M.1 15 t = (if f ≤ nf then sFd t s val f else sV g nf o (e + 1) t u s) → ∃ (M2 : MM) (k2 : Nat), k ≤ k2 + (r * x + 1) ∧ FrL t M0 M2 ∧ M2.1 15 t = sV g nf o (e + 1) t u s ∧ FX8_rivals_L55 (nI o) (nI n) K k (nI t) M = AFT o n K k2 M2 t := by
    intro r
    induction r with
    | zero =>
      intro f k M hf hk2 F q14 q15
      obtain ⟨k, rfl⟩ : ∃ z, k = z + 1 := ⟨k - 1, by omega⟩
      have e : f = nf + 1 := by omega
      subst e
      rw [if_neg (by omega)] at q15
      have s1 : M.1 1 = g := (F.1.1 1 (by decide) (by decide) (by decide) (by decide) (by decide)).trans eg
      exact ⟨um M 14 t (nI (nf + 1)), k, by omega, FrL_tr F (FrL_um (Or.inl rfl) (Nat.le_refl _)), by rw [um_at, if_neg (by omega)]; exact q15, it_exit (by omega) hnf (by rw [s1]; exact g2) q14⟩
    | succ r ih =>
      intro f k M hf hk2 F q14 q15
      obtain ⟨k, rfl⟩ : ∃ z, k = z + 1 := ⟨k - 1, by omega⟩
      have rx : (r + 1) * x = r * x + x := Nat.succ_mul r x
      rw [if_pos (by omega)] at q15
      have s1 : M.1 1 = g := (F.1.1 1 (by decide) (by decide) (by decide) (by decide) (by decide)).trans eg
      obtain ⟨M1, eM1⟩ : ∃ M1, M1 = um M 14 t (nI f) := ⟨_, rfl⟩
      have F1 : FrL t M0 M1 := by rw [eM1]; exact FrL_tr F (FrL_um (Or.inl rfl) (Nat.le_refl _))
      have t1 : M1.1 1 = g := (F1.1.1 1 (by decide) (by decide) (by decide) (by decide) (by decide)).trans eg
      have t3 : M1.1 3 13 = nI so := by rw [F1.1.1 3 (by decide) (by decide) (by decide) (by decide) (by decide)]; exact hso
      have t14 : M1.1 14 t = nI f := by rw [eM1, um_at, if_pos ⟨rfl, rfl⟩]
      have t15 : M1.1 15 t = sFd t s val f := by rw [eM1, um_at, if_neg (by omega)]; exact q15
      have t13 : M1.1 13 t = nI p := (F1.2.2.1 t (Nat.le_refl _)).trans h13
      have step := it_go (K := K) (n := n) (k := k) ho (show t < 4 by omega) hnf (show M.1 1 2 = nI nf by rw [s1]; exact g2) q14 (show f ≤ nf by omega)
      rw [← eM1] at step
      rw [step]
      -- the next fact, when one has not gone
      have skip : FX8_goes (nI t) M1 = some (0, M1) → sFd t s val f = (if f + 1 ≤ nf then sFd t s val (f + 1) else sV g nf o (e + 1) t u s) → ∃ (M2 : MM) (k2 : Nat), k + 1 ≤ k2 + ((r + 1) * x + 1) ∧ FrL t M0 M2 ∧ M2.1 15 t = sV g nf o (e + 1) t u s ∧ bd (FX8_goes (nI t) M1) (fun (r_12 : Int32) (M_13 : MM) => (if r_12 = 0 then FX8_rivals_L55 (nI o) (nI n) K k (nI t) M_13 else NXT o n K k t M_13)) = AFT o n K k2 M2 t := by
        intro hg hv
        obtain ⟨M2, k2, y1, y2, y3, y4⟩ := ih (f + 1) k M1 (by omega) (by omega) F1 (by rw [t14, nI_1]) (by rw [t15]; exact hv)
        exact ⟨M2, k2, by omega, y2, y3, by rw [hg, bd_s, if_pos rfl]; exact y4⟩
      -- one has gone
      have gone : ∀ (u2 : Nat → Int32) (p2 : Nat) (M2 : MM), FX8_goes (nI t) M1 = some (1, M2) → Gs t u2 p2 M1 M2 → BelI u2 → (∃ N2, RdI u2 N2 ∧ N2 + e < 2 ^ 29) → p2 < 2 ^ nf → wg t (sFd t s val f) (sV g nf o e (t + 1) u2 (mN p2 so)) = (if f + 1 ≤ nf then sFd t s val (f + 1) else sV g nf o (e + 1) t u s) → ∃ (M2 : MM) (k2 : Nat), k + 1 ≤ k2 + ((r + 1) * x + 1) ∧ FrL t M0 M2 ∧ M2.1 15 t = sV g nf o (e + 1) t u s ∧ bd (FX8_goes (nI t) M1) (fun (r_12 : Int32) (M_13 : MM) => (if r_12 = 0 then FX8_rivals_L55 (nI o) (nI n) K k (nI t) M_13 else NXT o n K k t M_13)) = AFT o n K k2 M2 t := by
        intro u2 p2 M2 hg G B2 ⟨N2, R2, hN2⟩ hp2 hv
        obtain ⟨w1, w2, w3, w4, w5, w6, w7, w8⟩ := G
        have F2 : FrL t M0 M2 := FrL_tr F1 ⟨w1, w2, w3, fun j hj => ⟨by rw [w4], by rw [w5]⟩⟩
        obtain ⟨M3, k3, y1, y2, y3, y4, y5⟩ := H t p2 N2 k u2 M2 (sFd t s val f) (by omega) (by omega) ((F2.1.1 1 (by decide) (by decide) (by decide) (by decide) (by decide)).trans eg) (by rw [F2.1.1 3 (by decide) (by decide) (by decide) (by decide) (by decide)]; exact hso) B2 R2 hN2 hp2 w6 w7 w8 (by rw [w5]; exact t15)
        obtain ⟨M4, k4, z1, z2, z3, z4⟩ := ih (f + 1) k3 M3 (by omega) (by omega) (FrL_tr F2 y2) (by rw [y3, w4, t14, nI_1]) (by rw [y4]; exact hv)
        exact ⟨M4, k4, by omega, z2, z3, by rw [hg, bd_s, if_neg (show ¬ (1 : Int32) = 0 by decide), y5]; exact z4⟩
      rcases m_goes C t1 (show t < 4 by omega) (show f ≤ nf by omega) t14 t13 t3 (by omega) (by omega) (fun j hj => (F1.2.1 _ (by omega)).trans (h12 j hj)) R (by omega) with ⟨hcase, hg⟩ | ⟨hlt, hb, M2, hg, G⟩ | ⟨heq, h0, M2, hg, G⟩
      · refine skip hg ?_
        rw [← es] at hcase
        rcases hcase with ⟨hlt, hb⟩ | ⟨heq, h0⟩
        · rw [if_pos (by omega), sFd, if_neg hb]
        · rw [if_neg (by omega), hV, if_neg h0, heq]
      · have hb2 : s.testBit f = true := by rw [es]; exact hb
        refine gone _ _ M2 hg G (sRead_bel C hlt B) ⟨N + 1, sRead_rd C hlt R, by omega⟩ (Nat.or_lt_two_pow hp (Nat.pow_lt_pow_right (by decide) hlt)) ?_
        rw [if_pos (by omega), sFd, if_pos hb2, mN_or (by omega), ← es, ev]
      · have h00 : s = 0 := by rw [es]; exact h0
        refine gone _ _ M2 hg G B ⟨N, R, by omega⟩ hp ?_
        rw [if_neg (by omega), hV, if_pos h00, h00, sFd_0, ← es, h00, sV_0]
        rfl
  have c9 : CC (e + 1) = 9 * x + 1 := by rw [ex]; rfl
  have le9 : (nf + 1) * x ≤ 9 * x := Nat.mul_le_mul_right x (by omega)
  obtain ⟨M2, k2, y1, y2, y3, y4⟩ := L (nf + 1) 0 k M0 (by omega) (by omega) (FrL_rf t M0) (by rw [h14]; rfl) (by rw [if_pos (by omega), h15]; rfl)
  exact ⟨M2, k2, by omega, y2, y3, y4⟩
theorem claim_all {g : Nat → Int32} {kk no nf hh o n so : Nat} {K : MM → Option (Int32 × MM)} (C : CityI g kk no nf hh) (ho : o < 5) (hn : n ≤ 4) (hs : so < 2 ^ nf) : ∀ e, Claim g nf o n so K (e + 1) := by
  intro e
  induction e with
  | zero => exact claim_s C ho hn hs (child_0 ho hn)
  | succ e ih => exact claim_s C ho hn hs (child_s hn ih)
