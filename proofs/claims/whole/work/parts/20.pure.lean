/-! ===== pure rows: the shapes, numbers, reading and writing ===== -/
abbrev XM : Type := Nat → Nat → Int32
theorem bo_s {α γ : Type} (a : α) (f : α → Option γ) : bo (some a) f = f a := rfl
theorem bd_s {α β γ : Type} (a : α) (b : β) (f : α → β → Option γ) : bd (some (a, b)) f = f a b := rfl
theorem jn_s {α β : Type} (k : α) (f : α → β) : jn k f = f k := rfl
theorem lt_s0 {α β : Type} (k : α) (f : α → β) : lt k f = f k := rfl
theorem if_t {c : Prop} [Decidable c] {α : Type} {a b : α} (h : c) : (if c then a else b) = a := if_pos h
theorem um_at (M : MM) (c k : Nat) (v : Int32) (a b : Nat) : (um M c k v).1 a b = if a = c ∧ b = k then v else M.1 a b := upd2_at M.1 c k v a b
theorem um_2 (M : MM) (c k : Nat) (v : Int32) : (um M c k v).2 = M.2 := rfl
theorem us_1 (M : MM) (v : Int64) : (us M v).1 = M.1 := rfl
theorem us_2 (M : MM) (v : Int64) : (us M v).2 = v := rfl
theorem upd_at (f : Nat → Int32) (k : Nat) (v : Int32) (j : Nat) : upd f k v j = if j = k then v else f j := rfl
theorem ix_n {n : Nat} (h : n < 2 ^ 31) : ix (nI n) = n := nI_clamp h
theorem inb_n {n N : Nat} (h : n < N) (hN : N < 2 ^ 31) : inb (nI n) N := by
  have e : (nI n).toInt = (n : Int) := nI_toInt (by omega)
  refine ⟨?_, ?_⟩
  · rw [e]; omega
  · rw [e]; omega
theorem i_le {a b : Int32} : a ≤ b ↔ a.toInt ≤ b.toInt := Int32.le_iff_toInt_le
theorem i_lt {a b : Int32} : a < b ↔ a.toInt < b.toInt := Int32.lt_iff_toInt_lt
theorem x_len_le (c : Nat) : x_len c ≤ 340 := by
  unfold x_len
  split <;> decide
theorem at_ok {c j : Nat} {M : XM} (h : j < x_len c) : FX7_at c (nI j) M = some (M c j) := by
  have hl := x_len_le c
  unfold FX7_at
  rw [if_neg (nI_pos (by omega)), if_neg (show ¬ Int32.ofNat (x_len c) ≤ nI j from nI_ge h (by omega)), if_pos (inb_n h (by omega)), ix_n (by omega)]
theorem put_ok {c j : Nat} {v : Int32} {M : XM} (h : j < x_len c) : FX7_put c (nI j) v M = some (upd2 M c j v) := by
  have hl := x_len_le c
  unfold FX7_put
  rw [if_neg (nI_pos (by omega)), if_neg (show ¬ Int32.ofNat (x_len c) ≤ nI j from nI_ge h (by omega)), if_pos (inb_n h (by omega)), ix_n (by omega)]
theorem lg_cases (x y : Int64) : (y.toInt < x.toInt ∧ lg_cmp x y = 1) ∨ (x.toInt = y.toInt ∧ lg_cmp x y = 0) ∨ (x.toInt < y.toInt ∧ lg_cmp x y = -1) := by
  unfold lg_cmp
  by_cases h1 : x > y
  · rw [if_pos h1]
    exact Or.inl ⟨Int64.lt_iff_toInt_lt.mp h1, rfl⟩
  · rw [if_neg h1]
    by_cases h2 : x = y
    · rw [if_pos h2]
      exact Or.inr (Or.inl ⟨by rw [h2], rfl⟩)
    · rw [if_neg h2]
      have h3 : ¬ y.toInt < x.toInt := fun q => h1 (Int64.lt_iff_toInt_lt.mpr q)
      have h4 : ¬ x.toInt = y.toInt := fun q => h2 (Int64.toInt_inj.mp q)
      exact Or.inr (Or.inr ⟨by omega, rfl⟩)
theorem lg_lt0 {x y : Int64} : lg_cmp x y < 0 ↔ x.toInt < y.toInt := by
  rcases lg_cases x y with ⟨h, e⟩ | ⟨h, e⟩ | ⟨h, e⟩ <;> rw [e]
  · exact ⟨fun q => absurd q (by decide), fun q => by omega⟩
  · exact ⟨fun q => absurd q (by decide), fun q => by omega⟩
  · exact ⟨fun _ => h, fun _ => by decide⟩
theorem lg_gt0 {x y : Int64} : 0 < lg_cmp x y ↔ y.toInt < x.toInt := by
  rcases lg_cases x y with ⟨h, e⟩ | ⟨h, e⟩ | ⟨h, e⟩ <;> rw [e]
  · exact ⟨fun _ => h, fun _ => by decide⟩
  · exact ⟨fun q => absurd q (by decide), fun q => by omega⟩
  · exact ⟨fun q => absurd q (by decide), fun q => by omega⟩
theorem in_ok (a b c : Int64) : FX8_in a b c = some (if b.toInt ≤ a.toInt ∧ a.toInt ≤ c.toInt then 1 else 0) := by
  unfold FX8_in
  by_cases h1 : lg_cmp a b < 0
  · rw [if_pos h1, if_neg]
    have := lg_lt0.mp h1
    omega
  · rw [if_neg h1]
    have g1 : ¬ a.toInt < b.toInt := fun q => h1 (lg_lt0.mpr q)
    by_cases h2 : 0 < lg_cmp a c
    · rw [if_pos h2, if_neg]
      have := lg_gt0.mp h2
      omega
    · rw [if_neg h2, if_pos]
      have g2 : ¬ c.toInt < a.toInt := fun q => h2 (lg_gt0.mpr q)
      omega
theorem l_of (x : Int32) : x.toInt64.toInt = x.toInt := Int32.toInt_toInt64 x
/-- a test of an int against two numbers -/
theorem in_i {a : Int32} {b c : Int64} {p q : Int} (hb : b.toInt = p) (hc : c.toInt = q) : FX8_in a.toInt64 b c = some (if p ≤ a.toInt ∧ a.toInt ≤ q then 1 else 0) := by
  rw [in_ok, l_of, hb, hc]
theorem subI {a b : Nat} (ha : a < 2 ^ 30) (hb : b < 2 ^ 30) : (nI a - nI b).toInt = (a : Int) - b := pk_sub_toInt ha hb
theorem opin_m {M : MM} {no : Nat} (h : M.1 1 1 = nI no) (hn : no ≤ 5) (a : Int32) : FX8_isOpinion a M = some (if 0 ≤ a.toInt ∧ a.toInt < no then 1 else 0) := by
  unfold FX8_isOpinion
  rw [in_i (p := 0) (q := (no : Int) - 1) rfl (by rw [l_of, h]; exact subI (by omega) (by decide)), bo_s]
  by_cases q : 0 ≤ a.toInt ∧ a.toInt < no
  · rw [if_pos (show 0 ≤ a.toInt ∧ a.toInt ≤ (no : Int) - 1 by omega), if_pos q]; rfl
  · rw [if_neg (show ¬ (0 ≤ a.toInt ∧ a.toInt ≤ (no : Int) - 1) by omega), if_neg q]; rfl
theorem fact_m {M : MM} {nf : Nat} (h : M.1 1 2 = nI nf) (hn : nf ≤ 8) (a : Int32) : FX8_isFact a M = some (if 0 ≤ a.toInt ∧ a.toInt < nf then 1 else 0) := by
  unfold FX8_isFact
  rw [in_i (p := 0) (q := (nf : Int) - 1) rfl (by rw [l_of, h]; exact subI (by omega) (by decide)), bo_s]
  by_cases q : 0 ≤ a.toInt ∧ a.toInt < nf
  · rw [if_pos (show 0 ≤ a.toInt ∧ a.toInt ≤ (nf : Int) - 1 by omega), if_pos q]; rfl
  · rw [if_neg (show ¬ (0 ≤ a.toInt ∧ a.toInt ≤ (nf : Int) - 1) by omega), if_neg q]; rfl
theorem opin_x {M : XM} {c no : Nat} (h : M c 1 = nI no) (hn : no ≤ 5) (a : Int32) : FX1_hasOpinion c a M = some (if 0 ≤ a.toInt ∧ a.toInt < no then 1 else 0) := by
  unfold FX1_hasOpinion
  rw [h]
  have e : (nI no).toInt = (no : Int) := nI_toInt (by omega)
  by_cases h1 : a < 0
  · rw [if_pos h1, if_neg]
    have := i_lt.mp h1
    have z : (0 : Int32).toInt = 0 := rfl
    omega
  · rw [if_neg h1]
    have g1 : ¬ a.toInt < (0 : Int32).toInt := fun q => h1 (i_lt.mpr q)
    have z : (0 : Int32).toInt = 0 := rfl
    by_cases h2 : nI no ≤ a
    · rw [if_pos h2, if_neg]
      have := i_le.mp h2
      omega
    · rw [if_neg h2, if_pos]
      have g2 : ¬ (nI no).toInt ≤ a.toInt := fun q => h2 (i_le.mpr q)
      omega
theorem fact_x {M : XM} {c nf : Nat} (h : M c 2 = nI nf) (hn : nf ≤ 8) (a : Int32) : FX1_hasFact c a M = some (if 0 ≤ a.toInt ∧ a.toInt < nf then 1 else 0) := by
  unfold FX1_hasFact
  rw [h]
  have e : (nI nf).toInt = (nf : Int) := nI_toInt (by omega)
  have z : (0 : Int32).toInt = 0 := rfl
  by_cases h1 : a < 0
  · rw [if_pos h1, if_neg]
    have := i_lt.mp h1
    omega
  · rw [if_neg h1]
    have g1 : ¬ a.toInt < (0 : Int32).toInt := fun q => h1 (i_lt.mpr q)
    by_cases h2 : nI nf ≤ a
    · rw [if_pos h2, if_neg]
      have := i_le.mp h2
      omega
    · rw [if_neg h2, if_pos]
      have g2 : ¬ (nI nf).toInt ≤ a.toInt := fun q => h2 (i_le.mpr q)
      omega
/-- an int in bounds is a number -/
theorem i_nat {a : Int32} {n : Nat} (h : 0 ≤ a.toInt ∧ a.toInt < n) : ∃ j : Nat, j < n ∧ a = nI j := by
  refine ⟨a.toInt.toNat, by omega, ?_⟩
  have h1 := a.toInt_lt
  apply Int32.toInt_inj.mp
  rw [nI_toInt (by omega)]
  omega
theorem blf_x (a : Int32) : FX7_isBelief a = some (if 0 ≤ a.toInt ∧ a.toInt ≤ 20 then 1 else 0) := by
  unfold FX7_isBelief
  have z : (0 : Int32).toInt = 0 := rfl
  have z2 : (20 : Int32).toInt = 20 := rfl
  by_cases h1 : a < 0
  · rw [if_pos h1, if_neg]
    have := i_lt.mp h1
    omega
  · rw [if_neg h1]
    have g1 : ¬ a.toInt < (0 : Int32).toInt := fun q => h1 (i_lt.mpr q)
    by_cases h2 : 20 < a
    · rw [if_pos h2, if_neg]
      have := i_lt.mp h2
      omega
    · rw [if_neg h2, if_pos]
      have g2 : ¬ (20 : Int32).toInt < a.toInt := fun q => h2 (i_lt.mpr q)
      omega
