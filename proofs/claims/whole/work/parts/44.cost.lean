/-! ===== least: sets, costs ===== -/
def mN (so s : Nat) : Nat := s &&& (so ^^^ 255)
theorem inv_255 : ∀ b, b < 256 → nI 255 &&& (nI b ^^^ (-1)) = nI (b ^^^ 255) := by decide +kernel
theorem and_not {a b : Nat} (ha : a < 256) (hb : b < 256) : nI a &&& (nI b ^^^ (-1)) = nI (mN b a) := by
  have e : nI a = nI a &&& nI 255 := by
    rw [and_n]
    have : a &&& 255 = a := by
      rw [show (255 : Nat) = 2 ^ 8 - 1 from rfl, Nat.and_two_pow_sub_one_eq_mod]
      omega
    rw [this]
  rw [e, Int32.and_assoc, inv_255 b hb, and_n]
  rfl
theorem bit_255 (i : Nat) : (255 : Nat).testBit i = decide (i < 8) := by
  rw [show (255 : Nat) = 2 ^ 8 - 1 from rfl, Nat.testBit_two_pow_sub_one]
theorem bit_hi {a i : Nat} (ha : a < 256) (hi : 8 ≤ i) : a.testBit i = false := Nat.testBit_lt_two_pow (Nat.lt_of_lt_of_le ha (Nat.pow_le_pow_right (n := 2) (i := 8) (by decide) hi))
theorem mN_bit (b a i : Nat) (ha : a < 256) : (mN b a).testBit i = (a.testBit i && !(b.testBit i)) := by
  unfold mN
  rw [Nat.testBit_and, Nat.testBit_xor, bit_255]
  rcases Nat.lt_or_ge i 8 with h | h
  · rw [decide_eq_true h]
    cases a.testBit i <;> cases b.testBit i <;> rfl
  · rw [bit_hi ha h, Bool.false_and, Bool.false_and]
theorem mN_le (b a : Nat) : mN b a ≤ a := Nat.and_le_left
/-- what is missing meets nothing of the set -/
theorem mN_dis {b a : Nat} (ha : a < 256) : mN b a &&& b = 0 := by
  apply Nat.eq_of_testBit_eq
  intro i
  rw [Nat.testBit_and, mN_bit b a i ha, Nat.zero_testBit]
  cases a.testBit i <;> cases b.testBit i <;> rfl
theorem mN_in {b a : Nat} (ha : a < 256) : mN (b ||| mN b a) a = 0 := by
  apply Nat.eq_of_testBit_eq
  intro i
  rw [mN_bit _ a i ha, Nat.testBit_or, mN_bit b a i ha, Nat.zero_testBit]
  cases a.testBit i <;> cases b.testBit i <;> rfl
theorem mN_sub {b a t : Nat} (ha : a < 256) (h : mN (b ||| t) a = 0) : ∀ i, (mN b a).testBit i = true → t.testBit i = true := by
  intro i
  have z := congrArg (fun v => Nat.testBit v i) h
  simp only [mN_bit _ a i ha, Nat.testBit_or, Nat.zero_testBit] at z
  rw [mN_bit b a i ha]
  cases h1 : a.testBit i <;> cases h2 : b.testBit i <;> cases h3 : t.testBit i <;> rw [h1, h2, h3] at z <;> first | exact fun _ => rfl | exact fun q => absurd q (by decide) | exact absurd z (by decide)
theorem sub_le {m t : Nat} (h : ∀ i, m.testBit i = true → t.testBit i = true) : m ≤ t := by
  have e : m &&& t = m := by
    apply Nat.eq_of_testBit_eq
    intro i
    rw [Nat.testBit_and]
    cases h1 : m.testBit i
    · rfl
    · rw [h i h1]; rfl
  rw [← e]
  exact Nat.and_le_right
def sC (cf : Nat → Nat) (t : Nat) : Nat → Nat
  | 0 => 0
  | n + 1 => sC cf t n + (if t.testBit n then cf n else 0)
theorem sC_mono {cf : Nat → Nat} {m t : Nat} (h : ∀ i, m.testBit i = true → t.testBit i = true) : ∀ n, sC cf m n ≤ sC cf t n := by
  intro n
  induction n with
  | zero => exact Nat.le_refl _
  | succ n ih =>
    unfold sC
    by_cases q : m.testBit n = true
    · rw [if_pos q, if_pos (h n q)]; omega
    · rw [if_neg q]; omega
theorem sC_le {cf : Nat → Nat} {t nf : Nat} (h : ∀ f, f < nf → cf f ≤ 9) : ∀ n, n ≤ nf → sC cf t n ≤ 9 * n := by
  intro n
  induction n with
  | zero => exact fun _ => Nat.le_refl _
  | succ n ih =>
    intro hn
    have := ih (by omega)
    have := h n (by omega)
    unfold sC
    by_cases q : t.testBit n = true
    · rw [if_pos q]; omega
    · rw [if_neg q]; omega
theorem has_bit : ∀ f, f < 8 → ∀ t, t < 256 → (sHas (nI t) f ↔ t.testBit f = true) := by decide +kernel
def cfG (g : Nat → Int32) : Nat → Nat := fun f => (g (42 + f)).toInt.toNat
theorem cfG_ok {g : Nat → Int32} {kk no nf hh f : Nat} (C : CityI g kk no nf hh) (hf : f < nf) : g (42 + f) = nI (cfG g f) ∧ cfG g f ≤ 9 := by
  obtain ⟨-, -, -, -, -, -, -, -, -, hF⟩ := C
  obtain ⟨-, -, -, -, c, hc, ec⟩ := hF f hf
  have e : cfG g f = c := by
    unfold cfG
    rw [ec, nI_toInt (by omega)]
    omega
  rw [e]
  exact ⟨ec, hc⟩
theorem cost_x {M : XM} {g by_ : Nat → Int32} {kk no nf hh t : Nat} (C : CityI g kk no nf hh) (X : CityX M 3 g nf by_) (ht : t < 256) : FX1_costOf 3 (nI t) M = some (nI (sC (cfG g) t nf)) := by
  have hnf : nf ≤ 8 := C.2.2.2.2.2.2.1
  have L : ∀ (d i k : Nat), i + d = nf → d < k → FX1_costOf_L4 3 (nI t) M (fun (k2_1 : Int32) => some k2_1) k (nI (sC (cfG g) t i)) (nI i) = some (nI (sC (cfG g) t nf)) := by
    intro d
    induction d with
    | zero =>
      intro i k hi hk
      obtain ⟨k, rfl⟩ : ∃ z, k = z + 1 := ⟨k - 1, by omega⟩
      have e : i = nf := by omega
      subst e
      rw [FX1_costOf_L4, X.2.2.1, C.2.2.1, if_pos (nI_le (by omega) (by omega))]
    | succ d ih =>
      intro i k hi hk
      obtain ⟨k, rfl⟩ : ∃ z, k = z + 1 := ⟨k - 1, by omega⟩
      obtain ⟨ec, hc⟩ := cfG_ok C (show i < nf by omega)
      have I := ih (i + 1) k (by omega) (by omega)
      rw [sC] at I
      rw [FX1_costOf_L4, X.2.2.1, C.2.2.1, if_neg (nI_ge (by omega) (by omega)), has_x _ (by omega), bo_s, jn_s, nI_1]
      by_cases h : t.testBit i = true
      · rw [if_pos h, ← add_n] at I
        rw [if_pos ((has_bit i (by omega) t ht).mpr h), if_neg (show ¬ (1 : Int32) = 0 by decide), at_ok (c := 3 + 6) (show i < 8 by omega), bo_s, (X.2.2.2.2 i (by omega)).2.2.2.2, ec]
        exact I
      · rw [if_neg h, ← add_n] at I
        rw [if_neg (fun z => h ((has_bit i (by omega) t ht).mp z)), if_pos rfl]
        exact I
  exact L nf 0 fuelN (by omega) (show nf < 100000 by omega)
theorem cost_m {M : MM} {kk no nf hh t : Nat} (C : CityI (M.1 1) kk no nf hh) (ht : t < 256) : FX8_costOf (nI t) M = some (nI (sC (cfG (M.1 1)) t nf)) := by
  have hnf : nf ≤ 8 := C.2.2.2.2.2.2.1
  have L : ∀ (d i k : Nat), i + d = nf → d < k → FX8_costOf_L4 (nI t) M (fun (k2_1 : Int32) => some k2_1) k (nI (sC (cfG (M.1 1)) t i)) (nI i) = some (nI (sC (cfG (M.1 1)) t nf)) := by
    intro d
    induction d with
    | zero =>
      intro i k hi hk
      obtain ⟨k, rfl⟩ : ∃ z, k = z + 1 := ⟨k - 1, by omega⟩
      have e : i = nf := by omega
      subst e
      rw [FX8_costOf_L4, C.2.2.1, if_pos (nI_le (by omega) (by omega))]
    | succ d ih =>
      intro i k hi hk
      obtain ⟨k, rfl⟩ : ∃ z, k = z + 1 := ⟨k - 1, by omega⟩
      obtain ⟨ec, hc⟩ := cfG_ok C (show i < nf by omega)
      have I := ih (i + 1) k (by omega) (by omega)
      rw [sC] at I
      have e42 : (42 : Int32) + nI i = nI (42 + i) := add_n 42 i
      rw [FX8_costOf_L4, C.2.2.1, if_neg (nI_ge (by omega) (by omega)), has_m, bo_s, jn_s, nI_1, e42]
      by_cases h : t.testBit i = true
      · rw [if_pos h, ← add_n] at I
        rw [if_pos ((has_bit i (by omega) t ht).mpr h), if_neg (show ¬ (1 : Int32) = 0 by decide), if_pos (inb_n (by omega) (by decide)), ix_n (by omega), ec]
        exact I
      · rw [if_neg h, ← add_n] at I
        rw [if_neg (fun z => h ((has_bit i (by omega) t ht).mp z)), if_pos rfl]
        exact I
  exact L nf 0 fuelN (by omega) (show nf < 100000 by omega)
/-- the bits of what one is convinced of -/
theorem sCv_bit (g u : Nat → Int32) : ∀ n, n ≤ 5 → ∃ s, s < 2 ^ n ∧ sCv g u n = nI s ∧ ∀ o, o < n → (s.testBit o = true ↔ ¬ u o < g 3) := by
  intro n
  induction n with
  | zero => exact fun _ => ⟨0, by decide, rfl, fun o ho => by omega⟩
  | succ n ih =>
    intro hn
    obtain ⟨s, hs, es, hb⟩ := ih (by omega)
    have p1 : 2 ^ n < 2 ^ (n + 1) := Nat.pow_lt_pow_right (by decide) (by omega)
    rw [sCv, es]
    by_cases h : u n < g 3
    · rw [if_pos h, or_0]
      refine ⟨s, by omega, rfl, fun o ho => ?_⟩
      by_cases ho2 : o = n
      · subst ho2
        rw [Nat.testBit_lt_two_pow hs]
        exact ⟨fun z => absurd z (by decide), fun z => absurd h z⟩
      · exact hb o (by omega)
    · rw [if_neg h, shl1 n (by omega), or_n]
      refine ⟨s ||| 2 ^ n, Nat.or_lt_two_pow (by omega) p1, rfl, fun o ho => ?_⟩
      rw [Nat.testBit_or, Nat.testBit_two_pow]
      by_cases ho2 : o = n
      · subst ho2
        rw [decide_eq_true rfl, Bool.or_true]
        exact ⟨fun _ => h, fun _ => rfl⟩
      · rw [decide_eq_false (fun z => ho2 z.symm), Bool.or_false]
        exact hb o (by omega)
theorem sCv_has {g u : Nat → Int32} {no o : Nat} (hno : no ≤ 5) (ho : o < no) : sHas (sCv g u no) o ↔ ¬ u o < g 3 := by
  obtain ⟨s, hs, es, hb⟩ := sCv_bit g u no hno
  have p32 : 2 ^ no ≤ 2 ^ 5 := Nat.pow_le_pow_right (by decide) hno
  rw [es, has_bit o (by omega) s (by omega)]
  exact hb o ho
