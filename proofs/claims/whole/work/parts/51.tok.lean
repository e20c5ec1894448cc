/-! ===== city: letters, blanks, figures ===== -/
def ch (r : Nat → Int32) (n p : Nat) : Int32 := if p < n then r p else -1
def TX (M : XM) (r : Nat → Int32) (n : Nat) : Prop := M 1 1 = nI n ∧ n ≤ 240 ∧ ∀ i, i < n → M 2 i = r i ∧ ∃ x : Nat, x ≤ 255 ∧ r i = nI x
def TM (M : MM) (r : Nat → Int32) (n : Nat) : Prop := M.1 0 9 = nI n ∧ n ≤ 240 ∧ M.1 7 = r
abbrev isD (c : Int32) : Prop := 48 ≤ c.toInt ∧ c.toInt ≤ 57
theorem x_next {M : XM} {r : Nat → Int32} {n p : Nat} (T : TX M r n) (h : M 1 2 = nI p) (hp : p ≤ n) : FX2_next M = some (ch r n p) := by
  obtain ⟨t1, t2, t3⟩ := T
  unfold FX2_next ch
  rw [t1, h]
  by_cases q : p < n
  · rw [if_neg (nI_ge (by omega) (by omega)), if_pos q, at_ok (c := 2) (show p < 240 by omega), bo_s, (t3 p q).1]
  · rw [if_pos (nI_le (by omega) (by omega)), if_neg q]
theorem m_here {M : MM} {r : Nat → Int32} {n p : Nat} (T : TM M r n) (h : M.1 0 15 = nI p) (hp : p ≤ n) : FX8_here M = some (ch r n p) := by
  obtain ⟨t1, t2, t3⟩ := T
  unfold FX8_here ch
  rw [t1, h]
  by_cases q : p < n
  · rw [if_neg (nI_ge (by omega) (by omega)), if_pos q, if_pos (inb_n (by omega) (by decide)), ix_n (by omega), t3]
  · rw [if_pos (nI_le (by omega) (by omega)), if_neg q]
/-- past blanks -/
def sk (r : Nat → Int32) : Nat → Nat → Nat
  | 0, p => p
  | d + 1, p => if r p = 32 then sk r d (p + 1) else p
def SK (r : Nat → Int32) (n p : Nat) : Nat := sk r (n - p) p
theorem SK_b {r : Nat → Int32} {n p : Nat} (h : ch r n p = 32) : p < n ∧ SK r n p = SK r n (p + 1) := by
  unfold ch at h
  by_cases q : p < n
  · rw [if_pos q] at h
    refine ⟨q, ?_⟩
    unfold SK
    obtain ⟨d, ed⟩ : ∃ d, n - p = d + 1 := ⟨n - p - 1, by omega⟩
    rw [ed, show n - (p + 1) = d by omega, sk, if_pos h]
  · rw [if_neg q] at h
    exact absurd h (by decide)
theorem SK_n {r : Nat → Int32} {n p : Nat} (h : ¬ ch r n p = 32) : SK r n p = p := by
  unfold ch at h
  unfold SK
  by_cases q : p < n
  · rw [if_pos q] at h
    obtain ⟨d, ed⟩ : ∃ d, n - p = d + 1 := ⟨n - p - 1, by omega⟩
    rw [ed, sk, if_neg h]
  · rw [show n - p = 0 by omega]
    rfl
theorem SK_ok {r : Nat → Int32} {n : Nat} : ∀ d p, p + d = n → p ≤ SK r n p ∧ SK r n p ≤ n ∧ ¬ ch r n (SK r n p) = 32 := by
  intro d
  induction d with
  | zero =>
    intro p h
    have e : ¬ ch r n p = 32 := fun z => by have := (SK_b z).1; omega
    rw [SK_n e]
    exact ⟨Nat.le_refl _, by omega, e⟩
  | succ d ih =>
    intro p h
    by_cases e : ch r n p = 32
    · obtain ⟨a, b, c⟩ := ih (p + 1) (by omega)
      rw [(SK_b e).2]
      exact ⟨by omega, b, c⟩
    · rw [SK_n e]
      exact ⟨Nat.le_refl _, by omega, e⟩
theorem upd2_self (M : XM) {c k : Nat} {v : Int32} (h : M c k = v) : upd2 M c k v = M := by
  funext a b
  rw [upd2_at]
  by_cases q : a = c ∧ b = k
  · rw [if_pos q, q.1, q.2, h]
  · rw [if_neg q]
theorem TX_upd {M : XM} {r : Nat → Int32} {n k : Nat} {v : Int32} (T : TX M r n) (hk : k ≠ 1) : TX (upd2 M 1 k v) r n := by
  obtain ⟨t1, t2, t3⟩ := T
  exact ⟨by rw [upd2_at, if_neg (fun z => hk z.2.symm)]; exact t1, t2, fun i hi => by rw [upd2_at, if_neg (by omega)]; exact t3 i hi⟩
theorem x_skip {M : XM} {r : Nat → Int32} {n p : Nat} (T : TX M r n) (h : M 1 2 = nI p) (hp : p ≤ n) : FX2_skipBlanks M = some (upd2 M 1 2 (nI (SK r n p))) := by
  have L : ∀ (d i j k : Nat) (M : XM), i + d = n → d < k → j ≤ i → TX M r n → M 1 2 = nI i → FX2_skipBlanks_L2 (fun (M_1 : XM) => some M_1) k (nI j) M = some (upd2 M 1 2 (nI (SK r n i))) := by
    intro d
    induction d with
    | zero =>
      intro i j k M hi hk hj T h
      obtain ⟨k, rfl⟩ : ∃ z, k = z + 1 := ⟨k - 1, by omega⟩
      have e : ¬ ch r n i = 32 := fun z => by have := (SK_b z).1; omega
      rw [SK_n e, upd2_self M h, FX2_skipBlanks_L2]
      by_cases q : (240 : Int32) ≤ nI j
      · rw [if_pos q]
      · rw [if_neg q, x_next T h (by omega), bo_s, if_neg e]
    | succ d ih =>
      intro i j k M hi hk hj T h
      obtain ⟨k, rfl⟩ : ∃ z, k = z + 1 := ⟨k - 1, by omega⟩
      have t2 := T.2.1
      rw [FX2_skipBlanks_L2, if_neg (show ¬ (240 : Int32) ≤ nI j from nI_ge (b := 240) (by omega) (by decide)), x_next T h (by omega), bo_s]
      by_cases e : ch r n i = 32
      · rw [if_pos e, (SK_b e).2, h, nI_1, nI_1, ih (i + 1) (j + 1) k _ (by omega) (by omega) (by omega) (TX_upd T (by decide)) (by rw [upd2_at, if_pos ⟨rfl, rfl⟩]), upd2_upd2]
      · rw [if_neg e, SK_n e, upd2_self M h]
  have t2 := T.2.1
  exact L (n - p) p 0 fuelN M (by omega) (show n - p < 100000 by omega) (by omega) T h
theorem x_fig {M : XM} {r : Nat → Int32} {n p : Nat} (T : TX M r n) (h : M 1 2 = nI p) (hp : p ≤ n) : FX2_atFigure M = some (if isD (ch r n p) then 1 else 0) := by
  unfold FX2_atFigure
  rw [x_next T h hp, bo_s, bo_s]
  have z1 : (48 : Int32).toInt = 48 := rfl
  have z2 : (57 : Int32).toInt = 57 := rfl
  by_cases q1 : ch r n p < 48
  · have := i_lt.mp q1
    rw [if_pos q1, if_neg (fun z => by have := z.1; omega)]
  · have q1' : ¬ (ch r n p).toInt < 48 := fun z => q1 (i_lt.mpr (by rw [z1]; exact z))
    rw [if_neg q1]
    by_cases q2 : 57 < ch r n p
    · have := i_lt.mp q2
      rw [if_pos q2, if_neg (fun z => by have := z.2; omega)]
    · have q2' : ¬ 57 < (ch r n p).toInt := fun z => q2 (i_lt.mpr (by rw [z2]; exact z))
      rw [if_neg q2, if_pos ⟨by omega, by omega⟩]
/-- past figures -/
def sd (r : Nat → Int32) : Nat → Nat → Nat
  | 0, p => p
  | d + 1, p => if isD (r p) then sd r d (p + 1) else p
def SD (r : Nat → Int32) (n p : Nat) : Nat := sd r (n - p) p
theorem SD_d {r : Nat → Int32} {n p : Nat} (h : isD (ch r n p)) : p < n ∧ SD r n p = SD r n (p + 1) := by
  unfold ch at h
  by_cases q : p < n
  · rw [if_pos q] at h
    refine ⟨q, ?_⟩
    unfold SD
    obtain ⟨d, ed⟩ : ∃ d, n - p = d + 1 := ⟨n - p - 1, by omega⟩
    rw [ed, show n - (p + 1) = d by omega, sd, if_pos h]
  · rw [if_neg q] at h
    exact absurd h.1 (by decide)
theorem SD_n {r : Nat → Int32} {n p : Nat} (h : ¬ isD (ch r n p)) : SD r n p = p := by
  unfold ch at h
  unfold SD
  by_cases q : p < n
  · rw [if_pos q] at h
    obtain ⟨d, ed⟩ : ∃ d, n - p = d + 1 := ⟨n - p - 1, by omega⟩
    rw [ed, sd, if_neg h]
  · rw [show n - p = 0 by omega]
    rfl
theorem SD_ok {r : Nat → Int32} {n : Nat} : ∀ d p, p + d = n → p ≤ SD r n p ∧ SD r n p ≤ n := by
  intro d
  induction d with
  | zero =>
    intro p h
    have e : ¬ isD (ch r n p) := fun z => by have := (SD_d z).1; omega
    rw [SD_n e]
    exact ⟨Nat.le_refl _, by omega⟩
  | succ d ih =>
    intro p h
    by_cases e : isD (ch r n p)
    · obtain ⟨a, b⟩ := ih (p + 1) (by omega)
      rw [(SD_d e).2]
      exact ⟨by omega, b⟩
    · rw [SD_n e]
      exact ⟨Nat.le_refl _, by omega⟩
/-- the number of the first j figures at q -/
def dv (r : Nat → Int32) (q : Nat) : Nat → Nat
  | 0 => 0
  | j + 1 => dv r q j * 10 + ((r (q + j)).toInt - 48).toNat
theorem dv_lt {r : Nat → Int32} {q : Nat} : ∀ j, (∀ i, i < j → isD (r (q + i))) → dv r q j < 10 ^ j := by
  intro j
  induction j with
  | zero => exact fun _ => (show (0 : Nat) < 10 ^ 0 by decide)
  | succ j ih =>
    intro h
    have := ih (fun i hi => h i (by omega))
    have := h j (by omega)
    have p1 : 10 ^ (j + 1) = 10 ^ j * 10 := Nat.pow_succ 10 j
    rw [dv]
    omega
theorem fig_add {c : Int32} {v : Nat} (hv : v < 1000) (h : isD c) : nI v * 10 + c - 48 = nI (v * 10 + (c.toInt - 48).toNat) := by
  obtain ⟨x, hx, rfl⟩ := i_nat (a := c) (n := 58) ⟨by have := h.1; omega, by have := h.2; omega⟩
  have ex := nI_toInt (n := x) (by omega)
  have h1 := h.1
  rw [show (10 : Int32) = nI 10 from rfl, mul_n, add_n, show (48 : Int32) = nI 48 from rfl, pk_sub (by omega)]
  exact congrArg nI (by omega)
theorem ch_lt {r : Nat → Int32} {n p : Nat} (h : p < n) : ch r n p = r p := if_pos h
/-- the program's figures -/
theorem x_figs {r : Nat → Int32} {n q : Nat} {b1 b2 : Int32} (K : Int32 → XM → Option (Int32 × XM)) : ∀ (d p k : Nat) (v : Int32) (M : XM), p + d = n → d < k → q ≤ p → TX M r n → M 1 2 = nI p → (∀ i, q + i < p → isD (r (q + i))) → (p - q ≤ 3 → v = nI (dv r q (p - q))) → ∃ w, (SD r n p - q ≤ 3 → w = nI (dv r q (SD r n p - q))) ∧ (∀ i, q + i < SD r n p → isD (r (q + i))) ∧ FX2_readNumber_L42 b1 b2 K k v (nI (p - q)) M = K w (upd2 M 1 2 (nI (SD r n p))) := by
  intro d
  induction d with
  | zero =>
    intro p k v M hp hk hq T h hd hv
    obtain ⟨k, rfl⟩ : ∃ z, k = z + 1 := ⟨k - 1, by omega⟩
    have e : ¬ isD (ch r n p) := fun z => by have := (SD_d z).1; omega
    rw [SD_n e, upd2_self M h, FX2_readNumber_L42]
    refine ⟨v, hv, hd, ?_⟩
    by_cases q2 : (240 : Int32) ≤ nI (p - q)
    · rw [if_pos q2]
    · rw [if_neg q2, x_fig T h (by omega), bo_s, if_neg e, if_pos rfl]
  | succ d ih =>
    intro p k v M hp hk hq T h hd hv
    obtain ⟨k, rfl⟩ : ∃ z, k = z + 1 := ⟨k - 1, by omega⟩
    have t2 := T.2.1
    rw [FX2_readNumber_L42, if_neg (show ¬ (240 : Int32) ≤ nI (p - q) from nI_ge (b := 240) (by omega) (by decide)), x_fig T h (by omega), bo_s]
    by_cases e : isD (ch r n p)
    · rw [if_pos e, if_neg (show ¬ (1 : Int32) = 0 by decide), x_next T h (by omega), bo_s, (SD_d e).2, h, nI_1, nI_1, lt_s0]
      have hlt := (SD_d e).1
      have er : ch r n p = r p := ch_lt hlt
      obtain ⟨x, ex⟩ : ∃ x, x = (if v * 10 + ch r n p - 48 < 1000 then v * 10 + ch r n p - 48 else 1000) := ⟨_, rfl⟩
      have hd2 : ∀ i, q + i < p + 1 → isD (r (q + i)) := fun i hi => by
        by_cases hip : q + i = p
        · rw [hip, ← er]; exact e
        · exact hd i (by omega)
      have s1 : p + 1 - q = p - q + 1 := by omega
      obtain ⟨w, w1, w2, w3⟩ := ih (p + 1) k x (upd2 M 1 2 (nI (p + 1))) (by omega) (by omega) (by omega) (TX_upd T (by decide)) (by rw [upd2_at, if_pos ⟨rfl, rfl⟩]) hd2 (fun h3 => by
        have hl := dv_lt (r := r) (q := q) (p - q) (fun i hi => hd i (by omega))
        have hp2 : 10 ^ (p - q) ≤ 10 ^ 2 := Nat.pow_le_pow_right (by decide) (by omega)
        have hl2 := dv_lt (r := r) (q := q) (p - q + 1) (fun i hi => hd2 i (by omega))
        have hp3 : 10 ^ (p - q + 1) ≤ 10 ^ 3 := Nat.pow_le_pow_right (by decide) (by omega)
        have ev : nI (dv r q (p - q)) * 10 + ch r n p - 48 = nI (dv r q (p - q + 1)) := by
          rw [fig_add (by omega) e, er, dv, show q + (p - q) = p by omega]
        rw [ex, hv (by omega), ev, s1, if_pos (show nI (dv r q (p - q + 1)) < (1000 : Int32) from nI_lt (b := 1000) (by omega) (by decide))])
      rw [upd2_upd2, s1] at w3
      refine ⟨w, w1, w2, ?_⟩
      rw [← ex]
      exact w3
    · rw [if_neg e, if_pos rfl, SD_n e, upd2_self M h]
      exact ⟨v, hv, hd, rfl⟩
