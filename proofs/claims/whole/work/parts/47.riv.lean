/-! ===== rivals: the value of a game, and the program's ===== -/
def wg (t : Nat) (b v : Int32) : Int32 := if b = -1 then v else if t % 2 = 0 then (if v ≤ b then b else v) else (if b ≤ v then b else v)
def sFd (t s : Nat) (val : Nat → Int32) : Nat → Int32
  | 0 => -1
  | n + 1 => if s.testBit n = true then wg t (sFd t s val n) (val n) else sFd t s val n
/-- d turns are left, the turn t comes, the facts s are left -/
def sV (g : Nat → Int32) (nf o : Nat) : Nat → Nat → (Nat → Int32) → Nat → Int32
  | 0, _, u, _ => u o
  | d + 1, t, u, s => if s = 0 then u o else sFd t s (fun f => sV g nf o d (t + 1) (sRead g (byG g) u f) (mN (2 ^ f) s)) nf
def sVal (v : Int32) : Prop := ∃ b, b ≤ 20 ∧ v = nI b
theorem sVal_ne {v : Int32} (h : sVal v) : ¬ v = -1 := by
  obtain ⟨b, hb, rfl⟩ := h
  exact nI_m1n (by omega)
theorem wg_val {t : Nat} {b v : Int32} (hb : b = -1 ∨ sVal b) (hv : sVal v) : sVal (wg t b v) := by
  unfold wg
  by_cases h : b = -1
  · rw [if_pos h]; exact hv
  · have hb2 : sVal b := by
      rcases hb with z | z
      · exact absurd z h
      · exact z
    rw [if_neg h]
    by_cases h2 : t % 2 = 0
    · rw [if_pos h2]
      by_cases h3 : v ≤ b
      · rw [if_pos h3]; exact hb2
      · rw [if_neg h3]; exact hv
    · rw [if_neg h2]
      by_cases h3 : b ≤ v
      · rw [if_pos h3]; exact hb2
      · rw [if_neg h3]; exact hv
theorem sFd_val {t s : Nat} {val : Nat → Int32} : ∀ n, (∀ f, f < n → sVal (val f)) → ((sFd t s val n = -1 ∧ ∀ f, f < n → s.testBit f = false) ∨ sVal (sFd t s val n)) := by
  intro n
  induction n with
  | zero => exact fun _ => Or.inl ⟨rfl, fun f hf => by omega⟩
  | succ n ih =>
    intro hv
    have I := ih (fun f hf => hv f (by omega))
    rw [sFd]
    by_cases h : s.testBit n = true
    · rw [if_pos h]
      refine Or.inr (wg_val ?_ (hv n (by omega)))
      rcases I with ⟨z, -⟩ | z
      · exact Or.inl z
      · exact Or.inr z
    · rw [if_neg h]
      rcases I with ⟨z, w⟩ | z
      · refine Or.inl ⟨z, fun f hf => ?_⟩
        by_cases hfn : f = n
        · subst hfn; exact Bool.eq_false_iff.mpr h
        · exact w f (by omega)
      · exact Or.inr z
theorem bits0 {s n : Nat} (hs : s < 2 ^ n) (h : ∀ f, f < n → s.testBit f = false) : s = 0 := by
  apply Nat.eq_of_testBit_eq
  intro i
  rw [Nat.zero_testBit]
  rcases Nat.lt_or_ge i n with q | q
  · exact h i q
  · exact Nat.testBit_lt_two_pow (Nat.lt_of_lt_of_le hs (Nat.pow_le_pow_right (by decide) q))
theorem sV_val {g : Nat → Int32} {kk no nf hh o : Nat} (C : CityI g kk no nf hh) (ho : o < 5) : ∀ d t u s, BelI u → s < 2 ^ nf → sVal (sV g nf o d t u s) := by
  intro d
  induction d with
  | zero => exact fun t u s B _ => B o ho
  | succ d ih =>
    intro t u s B hs
    rw [sV]
    by_cases h0 : s = 0
    · rw [if_pos h0]; exact B o ho
    · rw [if_neg h0]
      rcases sFd_val (t := t) (s := s) (val := fun f => sV g nf o d (t + 1) (sRead g (byG g) u f) (mN (2 ^ f) s)) nf (fun f hf => ih (t + 1) _ _ (sRead_bel C hf B) (Nat.lt_of_le_of_lt (mN_le _ _) hs)) with ⟨z, w⟩ | z
      · exact absurd (bits0 hs w) h0
      · exact z
theorem pow_256 : ∀ f, f < 8 → 2 ^ f < 256 := by decide
/-- the program's game: the mind is as it was when it ends -/
theorem x_game {M0 : XM} {g : Nat → Int32} {kk no nf hh o n : Nat} (C : CityI g kk no nf hh) (X : CityX M0 3 g nf (byG g)) (ho : o < no) (hn : n ≤ 4) : ∀ (D e t s N : Nat) (u : Nat → Int32) (M : XM), t + e = n → e < D → s < 2 ^ nf → BelI u → RdI u N → N + 8 < 2 ^ 30 → e + N < 2 ^ 29 → FrX 20 M0 M → BelX M 20 u → RdX M 20 u → ∃ M2, FX7_rivalsEnd D 3 20 (nI o) (nI t) (nI n) (nI s) M = some (sV g nf o e t u s, M2) ∧ FrX 20 M0 M2 ∧ BelX M2 20 u ∧ RdX M2 20 u := by
  obtain ⟨g0, g1, g2, g3, hk, hno, hnf, -, -, hF⟩ := id C
  have p256 : 2 ^ nf ≤ 2 ^ 8 := Nat.pow_le_pow_right (by decide) hnf
  intro D
  induction D with
  | zero => exact fun e t s N u M _ h => by omega
  | succ D ih =>
    intro e t s N u M hte heD hs B R hN hN2 F BX RX
    rw [FX7_rivalsEnd]
    obtain ⟨fu, efu⟩ : ∃ z, z = fuelN := ⟨_, rfl⟩
    have lfu : nf < fu := by rw [efu]; exact (show nf < 100000 by omega)
    rw [← efu]
    have leaf : bo (FX7_at (20 + 1) (nI o) M) (fun (r_1 : Int32) => some (r_1, M)) = some (u o, M) := by
      rw [at_ok (c := 20 + 1) (show o < 5 by omega), bo_s, BX o (by omega)]
    rw [jn_s, leaf]
    cases e with
    | zero =>
      rw [if_pos (nI_le (by omega) (by omega))]
      exact ⟨M, rfl, F, BX, RX⟩
    | succ e =>
      rw [if_neg (nI_ge (by omega) (by omega)), if_neg (show ¬ (4 : Int32) ≤ nI t from nI_ge (b := 4) (by omega) (by decide))]
      by_cases h0 : s = 0
      · rw [if_pos (by rw [h0]; rfl), sV, if_pos h0]
        exact ⟨M, rfl, F, BX, RX⟩
      have ns0 : ¬ nI s = 0 := nI_ne0 (by omega) (by omega)
      rw [if_neg ns0, sV, if_neg h0]
      obtain ⟨val, ev⟩ : ∃ val : Nat → Int32, val = fun f => sV g nf o e (t + 1) (sRead g (byG g) u f) (mN (2 ^ f) s) := ⟨_, rfl⟩
      have hval : ∀ f, f < nf → sVal (val f) := fun f hf => by rw [ev]; exact sV_val C (by omega) e (t + 1) _ _ (sRead_bel C hf B) (Nat.lt_of_le_of_lt (mN_le _ _) hs)
      rw [← ev]
      have hfin : sVal (sFd t s val nf) := by
        rcases sFd_val (t := t) (s := s) (val := val) nf hval with ⟨z, w⟩ | z
        · exact absurd (bits0 hs w) h0
        · exact z
      -- one fact: it is read, the rest is played, it is read no more
      have one : ∀ f, f < nf → ∀ M1, FrX 20 M0 M1 → BelX M1 20 u → RdX M1 20 u → ∃ M3, FrX 20 M0 M3 ∧ BelX M3 20 u ∧ RdX M3 20 u ∧ ∀ (Z : Int32 → XM → Option (Int32 × XM)), bo (FX7_at (3 + 2) (nI f) M1) (fun (r_17 : Int32) => bo (FX7_at (20 + 1) r_17 M1) (fun (r_18 : Int32) => bd (FX3_readFact 20 3 (nI f) M1) (fun (r_19 : Int32) (M_20 : XM) => bd (FX7_rivalsEnd D 3 20 (nI o) (nI t + 1) (nI n) ((nI s) &&& ((1 <<< ((nI f) &&& 31)) ^^^ (-1))) M_20) (fun (r_21 : Int32) (M_22 : XM) => bo (FX3_unread 20 (nI f) r_17 r_18 M_22) (fun (M_23 : XM) => Z r_21 M_23))))) = Z (val f) M3 := by
        intro f hf M1 F1 B1 R1
        obtain ⟨o1, h1, h2, h3, e1, e2⟩ := fact_o C hf
        have X1 := CityX_fr (show x_is3 20 by decide) (show x_is1 3 by decide) F1 X
        have sB : ∀ j, j < 5 → sRead g (byG g) u f j = if j = o1 then sAfter g (byG g) u f else u j := fun j hj => by
          unfold sRead
          rw [upd_at, if_neg (by omega), upd_at, e2]
        have sR : ∀ j, j < 8 → sRead g (byG g) u f (5 + j) = if j = f then u (5 + f) + 1 else u (5 + j) := fun j hj => by
          unfold sRead
          rw [upd_at, upd_at, e2]
          by_cases hjf : j = f
          · rw [if_pos (by omega), if_pos hjf]
          · rw [if_neg (by omega), if_neg hjf, if_neg (by omega)]
        have rd := x_read (by_ := byG g) (c := 20) (d := 3) (by decide) (by decide) C X1 B1 R1 R (by omega) hf
        obtain ⟨Ma, eMa⟩ : ∃ Ma, Ma = upd2 (upd2 M1 (20 + 1) (ix (g (10 + f))) (sAfter g (byG g) u f)) (20 + 2) f (u (5 + f) + 1) := ⟨_, rfl⟩
        rw [← eMa] at rd
        have Fa : FrX 20 M0 Ma := fun a q1 q2 q3 => by rw [eMa, upd2_n _ _ _ q3, upd2_n _ _ _ q2]; exact F1 a q1 q2 q3
        have Ba : BelX Ma 20 (sRead g (byG g) u f) := fun j hj => by
          rw [sB j hj, eMa, upd2_at, if_neg (by omega), upd2_at, e2]
          by_cases hjo : j = o1
          · rw [if_pos ⟨rfl, hjo⟩, if_pos hjo]
          · rw [if_neg (fun z => hjo z.2), if_neg hjo]; exact B1 j hj
        have Ra : RdX Ma 20 (sRead g (byG g) u f) := fun j hj => by
          rw [sR j hj, eMa, upd2_at]
          by_cases hjf : j = f
          · rw [if_pos ⟨rfl, hjf⟩, if_pos hjf]
          · rw [if_neg (fun z => hjf z.2), if_neg hjf, upd2_at, if_neg (by omega)]; exact R1 j hj
        have pf := pow_256 f (by omega)
        obtain ⟨M2, e4, F2, B2, R2⟩ := ih e (t + 1) (mN (2 ^ f) s) (N + 1) (sRead g (byG g) u f) Ma (by omega) (by omega) (Nat.lt_of_le_of_lt (mN_le _ _) hs) (sRead_bel C hf B) (sRead_rd C hf R) (by omega) (by omega) Fa Ba Ra
        obtain ⟨q, hq, eq⟩ := R f (by omega)
        have s5f : sRead g (byG g) u f (5 + f) = nI (q + 1) := by rw [sR f (by omega), if_pos rfl, eq, nI_1]
        have v22 : M2 22 f = nI (q + 1) := (R2 f (by omega)).trans s5f
        obtain ⟨M3, eM3⟩ : ∃ M3, M3 = upd2 (upd2 M2 (20 + 1) o1 (u o1)) (20 + 2) f (nI q) := ⟨_, rfl⟩
        have un : FX3_unread 20 (nI f) (nI o1) (u o1) M2 = some M3 := by
          unfold FX3_unread
          rw [put_ok (c := 20 + 1) (show o1 < 5 by omega), bo_s, at_ok (c := 20 + 2) (show f < 8 by omega), bo_s, put_ok (c := 20 + 2) (show f < 8 by omega), bo_s, upd2_n _ _ _ (show (20 + 2 : Nat) ≠ 20 + 1 by decide), show M2 (20 + 2) f = nI (q + 1) from v22, eM3]
          have : nI (q + 1) - 1 = nI q := by
            rw [show (1 : Int32) = nI 1 from rfl, pk_sub (by omega)]
            rfl
          rw [this]
        refine ⟨M3, fun a q1 q2 q3 => ?_, fun j hj => ?_, fun j hj => ?_, fun Z => ?_⟩
        · rw [eM3, upd2_n _ _ _ q3, upd2_n _ _ _ q2]; exact F2 a q1 q2 q3
        · rw [eM3, upd2_at, if_neg (by omega), upd2_at]
          by_cases hjo : j = o1
          · rw [if_pos ⟨rfl, hjo⟩, hjo]
          · rw [if_neg (fun z => hjo z.2), B2 j hj, sB j hj, if_neg hjo]
        · rw [eM3, upd2_at]
          by_cases hjf : j = f
          · rw [if_pos ⟨rfl, hjf⟩, hjf, eq]
          · rw [if_neg (fun z => hjf z.2), upd2_at, if_neg (by omega), R2 j hj, sR j hj, if_neg hjf]
        · rw [at_ok (c := 3 + 2) (show f < 8 by omega), bo_s, show M1 (3 + 2) f = nI o1 from ((X1.2.2.2.2 f hf).1).trans e1, at_ok (c := 20 + 1) (show o1 < 5 by omega), bo_s, show M1 (20 + 1) o1 = u o1 from B1 o1 (by omega), rd, bd_s, nI_1, shl1 f (by omega), and_not (by omega) pf, e4, bd_s, un, bo_s, ev]
      -- the loop
      have L : ∀ (b6 : Int32) (start : Int32), (∀ v w : Int32, (v = -1 ∨ sVal v) → sVal w → (if b6 = 0 then (if w < (if v = -1 then start else v) then w else (if v = -1 then start else v)) else (if (if v = -1 then start else v) < w then w else (if v = -1 then start else v))) = wg t v w) → ∀ (d i k : Nat) (M1 : XM), i + d = nf → d < k → FrX 20 M0 M1 → BelX M1 20 u → RdX M1 20 u → ∃ M2, FX7_rivalsEnd_L54 3 20 (nI o) (nI t) (nI n) (nI s) b6 (fun c0 c1 a2 a3 a4 a5 M => FX7_rivalsEnd D c0 c1 a2 a3 a4 a5 M) (fun (k7_7 : Int32) (M_8 : XM) => some (k7_7, M_8)) k (if sFd t s val i = -1 then start else sFd t s val i) (nI i) M1 = some (sFd t s val nf, M2) ∧ FrX 20 M0 M2 ∧ BelX M2 20 u ∧ RdX M2 20 u := by
        intro b6 start hw d
        induction d with
        | zero =>
          intro i k M1 hi hk2 F1 B1 R1
          obtain ⟨k, rfl⟩ : ∃ z, k = z + 1 := ⟨k - 1, by omega⟩
          have e : i = nf := by omega
          subst e
          have X1 := CityX_fr (show x_is3 20 by decide) (show x_is1 3 by decide) F1 X
          refine ⟨M1, ?_, F1, B1, R1⟩
          rw [FX7_rivalsEnd_L54, X1.2.2.1, g2, if_pos (nI_le (by omega) (by omega)), if_neg (sVal_ne hfin)]
        | succ d ihd =>
          intro i k M1 hi hk2 F1 B1 R1
          obtain ⟨k, rfl⟩ : ∃ z, k = z + 1 := ⟨k - 1, by omega⟩
          have X1 := CityX_fr (show x_is3 20 by decide) (show x_is1 3 by decide) F1 X
          rw [FX7_rivalsEnd_L54, X1.2.2.1, g2, if_neg (nI_ge (by omega) (by omega)), has_x _ (by omega), bo_s, jn_s, nI_1]
          by_cases hb : s.testBit i = true
          · rw [if_pos ((has_bit i (by omega) s (by omega)).mpr hb), if_neg (show ¬ (1 : Int32) = 0 by decide)]
            obtain ⟨M3, F3, B3, R3, hZ⟩ := one i (by omega) M1 F1 B1 R1
            obtain ⟨M4, y1, y2⟩ := ihd (i + 1) k M3 (by omega) (by omega) F3 B3 R3
            have hv : sFd t s val i = -1 ∨ sVal (sFd t s val i) := by
              rcases sFd_val (t := t) (s := s) (val := val) i (fun f hf => hval f (by omega)) with ⟨z, -⟩ | z
              · exact Or.inl z
              · exact Or.inr z
            rw [sFd, if_pos hb, if_neg (sVal_ne (wg_val hv (hval i (by omega)))), ← hw _ _ hv (hval i (by omega))] at y1
            refine ⟨M4, (hZ _).trans ?_, y2⟩
            rw [jn_s]
            by_cases h6 : b6 = 0
            · rw [if_pos h6] at y1 ⊢; exact y1
            · rw [if_neg h6] at y1 ⊢; exact y1
          · rw [if_neg (fun z => hb ((has_bit i (by omega) s (by omega)).mp z)), if_pos rfl]
            have I := ihd (i + 1) k M1 (by omega) (by omega) F1 B1 R1
            rw [sFd, if_neg hb] at I
            exact I
      have et : nI t - nI t / 2 * 2 = nI (t % 2) := rem_n (a := t) (d := 2) (by omega) (by decide) (by decide)
      rw [et]
      by_cases h2 : t % 2 = 0
      · rw [h2, jn_s, if_pos (show nI 0 = 0 from rfl)]
        obtain ⟨M2, y1, y2⟩ := L 1 (-1) (fun v w hv hw => by
          obtain ⟨c, hc, rfl⟩ := hw
          rw [if_neg (show ¬ (1 : Int32) = 0 by decide)]
          unfold wg
          by_cases hv1 : v = -1
          · rw [if_pos hv1, if_pos hv1, if_pos (show (-1 : Int32) < nI c from i_lt.mpr (by rw [nI_toInt (by omega), show (-1 : Int32).toInt = -1 from rfl]; omega))]
          · rw [if_neg hv1, if_neg hv1, if_pos h2]
            by_cases hl : nI c ≤ v
            · have := i_le.mp hl
              rw [if_pos hl, if_neg (fun z => by have := i_lt.mp z; omega)]
            · have h3 : ¬ (nI c).toInt ≤ v.toInt := fun z => hl (i_le.mpr z)
              rw [if_neg hl, if_pos (i_lt.mpr (by omega))]) nf 0 fu M (by omega) lfu F BX RX
        rw [sFd, if_pos rfl] at y1
        refine ⟨M2, ?_, y2⟩
        show (if (1 : Int32) = 0 then FX7_rivalsEnd_L54 3 20 (nI o) (nI t) (nI n) (nI s) 1 (fun c0 c1 a2 a3 a4 a5 M => FX7_rivalsEnd D c0 c1 a2 a3 a4 a5 M) (fun (k7_7 : Int32) (M_8 : XM) => some (k7_7, M_8)) fu 21 0 M else FX7_rivalsEnd_L54 3 20 (nI o) (nI t) (nI n) (nI s) 1 (fun c0 c1 a2 a3 a4 a5 M => FX7_rivalsEnd D c0 c1 a2 a3 a4 a5 M) (fun (k7_7 : Int32) (M_8 : XM) => some (k7_7, M_8)) fu (-1) 0 M) = _
        rw [if_neg (show ¬ (1 : Int32) = 0 by decide)]
        exact y1
      · have h21 : t % 2 = 1 := by omega
        rw [h21, jn_s, if_neg (show ¬ nI 1 = 0 by decide)]
        obtain ⟨M2, y1, y2⟩ := L 0 21 (fun v w hv hw => by
          obtain ⟨c, hc, rfl⟩ := hw
          rw [if_pos rfl]
          unfold wg
          by_cases hv1 : v = -1
          · rw [if_pos hv1, if_pos hv1, if_pos (show nI c < (21 : Int32) from nI_lt (b := 21) (by omega) (by decide))]
          · rw [if_neg hv1, if_neg hv1, if_neg h2]
            by_cases hl : v ≤ nI c
            · have := i_le.mp hl
              rw [if_pos hl, if_neg (fun z => by have := i_lt.mp z; omega)]
            · have h3 : ¬ v.toInt ≤ (nI c).toInt := fun z => hl (i_le.mpr z)
              rw [if_neg hl, if_pos (i_lt.mpr (by omega))]) nf 0 fu M (by omega) lfu F BX RX
        rw [sFd, if_pos rfl] at y1
        refine ⟨M2, ?_, y2⟩
        show (if (0 : Int32) = 0 then FX7_rivalsEnd_L54 3 20 (nI o) (nI t) (nI n) (nI s) 0 (fun c0 c1 a2 a3 a4 a5 M => FX7_rivalsEnd D c0 c1 a2 a3 a4 a5 M) (fun (k7_7 : Int32) (M_8 : XM) => some (k7_7, M_8)) fu 21 0 M else FX7_rivalsEnd_L54 3 20 (nI o) (nI t) (nI n) (nI s) 0 (fun c0 c1 a2 a3 a4 a5 M => FX7_rivalsEnd D c0 c1 a2 a3 a4 a5 M) (fun (k7_7 : Int32) (M_8 : XM) => some (k7_7, M_8)) fu (-1) 0 M) = _
        rw [if_pos rfl]
        exact y1
