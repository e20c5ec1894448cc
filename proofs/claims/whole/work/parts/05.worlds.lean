def x_len : Nat → Nat := fun a => match a with
  | 2 => 240
  | 4 => 5
  | 5 => 8
  | 6 => 8
  | 7 => 8
  | 8 => 8
  | 9 => 8
  | 11 => 5
  | 12 => 8
  | 13 => 8
  | 14 => 8
  | 15 => 8
  | 16 => 8
  | 18 => 5
  | 19 => 8
  | 21 => 5
  | 22 => 8
  | 24 => 5
  | 25 => 8
  | 29 => 340
  | 31 => 34
  | 32 => 2
  | 34 => 6
  | 35 => 6
  | 37 => 15
  | 38 => 15
  | _ => 0
def x_cell (kI : ClassId) (ad : Nat → Nat) (c : Nat) (r : Nat → Int32) : va_E :=
  if c = 0 then .inr (7, [.ref (ad 1), .ref (ad 3), .ref (ad 10), .ref (ad 17), .ref (ad 20), .ref (ad 23), .ref (ad 26), .ref (ad 27), .ref (ad 30), .ref (ad 32), .int (r 10), .int (r 11), .ref (ad 33), .ref (ad 36)]) else
  if c = 1 then .inr (2, [.ref (ad (c + 1)), .int (r 1), .int (r 2), .int (r 3), .int (r 4), .int (r 5), .int (r 6)]) else
  if c = 3 ∨ c = 10 then .inr (1, [.int (r 0), .int (r 1), .int (r 2), .int (r 3), .ref (ad (c + 1)), .ref (ad (c + 2)), .ref (ad (c + 3)), .ref (ad (c + 4)), .ref (ad (c + 5)), .ref (ad (c + 6))]) else
  if c = 17 ∨ c = 20 ∨ c = 23 then .inr (3, [.ref (ad (c + 1)), .ref (ad (c + 2)), .int (r 2), .int (r 3), .int (r 4), .int (r 5)]) else
  if c = 26 then .inr (5, [.int (r 0), .int (r 1), .int (r 2)]) else
  if c = 27 then .inr (4, [.ref (ad (c + 1)), .int (r 1), .int (r 2)]) else
  if c = 28 ∨ c = 30 then .inr (6, [.ref (ad (c + 1))]) else
  if c = 33 ∨ c = 36 then .inr (0, [.ref (ad (c + 1)), .ref (ad (c + 2)), .int (r 2)]) else
  .inl (kI, x_len c, .inl r)
abbrev x_is7 (c : Nat) : Prop := c = 0
abbrev x_is2 (c : Nat) : Prop := c = 1
abbrev x_is1 (c : Nat) : Prop := c = 3 ∨ c = 10
abbrev x_is3 (c : Nat) : Prop := c = 17 ∨ c = 20 ∨ c = 23
abbrev x_is5 (c : Nat) : Prop := c = 26
abbrev x_is4 (c : Nat) : Prop := c = 27
abbrev x_is6 (c : Nat) : Prop := c = 28 ∨ c = 30
abbrev x_is0 (c : Nat) : Prop := c = 33 ∨ c = 36
abbrev x_arr (c : Nat) : Prop := c < 39 ∧ ¬ c = 0 ∧ ¬ c = 1 ∧ ¬ c = 3 ∧ ¬ c = 10 ∧ ¬ c = 17 ∧ ¬ c = 20 ∧ ¬ c = 23 ∧ ¬ c = 26 ∧ ¬ c = 27 ∧ ¬ c = 28 ∧ ¬ c = 30 ∧ ¬ c = 33 ∧ ¬ c = 36
def x_w (kI : ClassId) (ad : Nat → Nat) (M : Nat → Nat → Int32) : va_W := (List.range 39).map (fun c => (ad c, x_cell kI ad c (M c)))
theorem x_at {kI : ClassId} {ad : Nat → Nat} {M : Nat → Nat → Int32} {c : Nat} (h : c < 39) : (x_w kI ad M)[c]? = some (ad c, x_cell kI ad c (M c)) := by
  unfold x_w
  rw [List.getElem?_map, List.getElem?_range h]
  rfl
theorem x_set {kI : ClassId} {ad : Nat → Nat} {M : Nat → Nat → Int32} {M2 : Nat → Nat → Int32} {c : Nat} {e : va_E} (h : c < 39) (h1 : x_cell kI ad c (M2 c) = e) (h2 : ∀ j, j ≠ c → x_cell kI ad j (M2 j) = x_cell kI ad j (M j)) : (x_w kI ad M).set c (ad c, e) = x_w kI ad M2 := by
  refine List.ext_getElem? fun j => ?_
  rw [List.getElem?_set]
  by_cases hj : c = j
  · subst hj
    rw [if_pos rfl, if_pos (by simp [x_w]; exact h), x_at h, h1]
  · rw [if_neg hj]
    rcases Nat.lt_or_ge j 39 with q | q
    · rw [x_at q, x_at q, h2 j (fun z => hj z.symm)]
    · rw [List.getElem?_eq_none (by simp [x_w]; exact q), List.getElem?_eq_none (by simp [x_w]; exact q)]
theorem x_at7 {kI : ClassId} {ad : Nat → Nat} {M : Nat → Nat → Int32} {c : Nat} (h : x_is7 c) : (x_w kI ad M)[c]? = some (ad c, .inr (7, [.ref (ad 1), .ref (ad 3), .ref (ad 10), .ref (ad 17), .ref (ad 20), .ref (ad 23), .ref (ad 26), .ref (ad 27), .ref (ad 30), .ref (ad 32), .int (M c 10), .int (M c 11), .ref (ad 33), .ref (ad 36)])) := by
  subst h
  exact x_at (Nat.le_of_ble_eq_true rfl)
theorem x_put7_10 {kI : ClassId} {ad : Nat → Nat} {M : Nat → Nat → Int32} {c : Nat} (h : x_is7 c) (v : Int32) : (x_w kI ad M).set c (ad c, .inr (7, [.ref (ad 1), .ref (ad 3), .ref (ad 10), .ref (ad 17), .ref (ad 20), .ref (ad 23), .ref (ad 26), .ref (ad 27), .ref (ad 30), .ref (ad 32), .int (M c 10), .int (M c 11), .ref (ad 33), .ref (ad 36)].set 10 (.int v))) = x_w kI ad (upd2 M c 10 v) := by
  subst h
  · refine x_set (Nat.le_of_ble_eq_true rfl) ?_ (fun j hj => by rw [upd2_n M 10 v hj])
    rw [upd2_c]
    rfl
theorem x_put7_11 {kI : ClassId} {ad : Nat → Nat} {M : Nat → Nat → Int32} {c : Nat} (h : x_is7 c) (v : Int32) : (x_w kI ad M).set c (ad c, .inr (7, [.ref (ad 1), .ref (ad 3), .ref (ad 10), .ref (ad 17), .ref (ad 20), .ref (ad 23), .ref (ad 26), .ref (ad 27), .ref (ad 30), .ref (ad 32), .int (M c 10), .int (M c 11), .ref (ad 33), .ref (ad 36)].set 11 (.int v))) = x_w kI ad (upd2 M c 11 v) := by
  subst h
  · refine x_set (Nat.le_of_ble_eq_true rfl) ?_ (fun j hj => by rw [upd2_n M 11 v hj])
    rw [upd2_c]
    rfl
theorem x_at2 {kI : ClassId} {ad : Nat → Nat} {M : Nat → Nat → Int32} {c : Nat} (h : x_is2 c) : (x_w kI ad M)[c]? = some (ad c, .inr (2, [.ref (ad (c + 1)), .int (M c 1), .int (M c 2), .int (M c 3), .int (M c 4), .int (M c 5), .int (M c 6)])) := by
  subst h
  exact x_at (Nat.le_of_ble_eq_true rfl)
theorem x_put2_1 {kI : ClassId} {ad : Nat → Nat} {M : Nat → Nat → Int32} {c : Nat} (h : x_is2 c) (v : Int32) : (x_w kI ad M).set c (ad c, .inr (2, [.ref (ad (c + 1)), .int (M c 1), .int (M c 2), .int (M c 3), .int (M c 4), .int (M c 5), .int (M c 6)].set 1 (.int v))) = x_w kI ad (upd2 M c 1 v) := by
  subst h
  · refine x_set (Nat.le_of_ble_eq_true rfl) ?_ (fun j hj => by rw [upd2_n M 1 v hj])
    rw [upd2_c]
    rfl
theorem x_put2_2 {kI : ClassId} {ad : Nat → Nat} {M : Nat → Nat → Int32} {c : Nat} (h : x_is2 c) (v : Int32) : (x_w kI ad M).set c (ad c, .inr (2, [.ref (ad (c + 1)), .int (M c 1), .int (M c 2), .int (M c 3), .int (M c 4), .int (M c 5), .int (M c 6)].set 2 (.int v))) = x_w kI ad (upd2 M c 2 v) := by
  subst h
  · refine x_set (Nat.le_of_ble_eq_true rfl) ?_ (fun j hj => by rw [upd2_n M 2 v hj])
    rw [upd2_c]
    rfl
theorem x_put2_3 {kI : ClassId} {ad : Nat → Nat} {M : Nat → Nat → Int32} {c : Nat} (h : x_is2 c) (v : Int32) : (x_w kI ad M).set c (ad c, .inr (2, [.ref (ad (c + 1)), .int (M c 1), .int (M c 2), .int (M c 3), .int (M c 4), .int (M c 5), .int (M c 6)].set 3 (.int v))) = x_w kI ad (upd2 M c 3 v) := by
  subst h
  · refine x_set (Nat.le_of_ble_eq_true rfl) ?_ (fun j hj => by rw [upd2_n M 3 v hj])
    rw [upd2_c]
    rfl
theorem x_put2_4 {kI : ClassId} {ad : Nat → Nat} {M : Nat → Nat → Int32} {c : Nat} (h : x_is2 c) (v : Int32) : (x_w kI ad M).set c (ad c, .inr (2, [.ref (ad (c + 1)), .int (M c 1), .int (M c 2), .int (M c 3), .int (M c 4), .int (M c 5), .int (M c 6)].set 4 (.int v))) = x_w kI ad (upd2 M c 4 v) := by
  subst h
  · refine x_set (Nat.le_of_ble_eq_true rfl) ?_ (fun j hj => by rw [upd2_n M 4 v hj])
    rw [upd2_c]
    rfl
theorem x_put2_5 {kI : ClassId} {ad : Nat → Nat} {M : Nat → Nat → Int32} {c : Nat} (h : x_is2 c) (v : Int32) : (x_w kI ad M).set c (ad c, .inr (2, [.ref (ad (c + 1)), .int (M c 1), .int (M c 2), .int (M c 3), .int (M c 4), .int (M c 5), .int (M c 6)].set 5 (.int v))) = x_w kI ad (upd2 M c 5 v) := by
  subst h
  · refine x_set (Nat.le_of_ble_eq_true rfl) ?_ (fun j hj => by rw [upd2_n M 5 v hj])
    rw [upd2_c]
    rfl
theorem x_put2_6 {kI : ClassId} {ad : Nat → Nat} {M : Nat → Nat → Int32} {c : Nat} (h : x_is2 c) (v : Int32) : (x_w kI ad M).set c (ad c, .inr (2, [.ref (ad (c + 1)), .int (M c 1), .int (M c 2), .int (M c 3), .int (M c 4), .int (M c 5), .int (M c 6)].set 6 (.int v))) = x_w kI ad (upd2 M c 6 v) := by
  subst h
  · refine x_set (Nat.le_of_ble_eq_true rfl) ?_ (fun j hj => by rw [upd2_n M 6 v hj])
    rw [upd2_c]
    rfl
theorem x_at1 {kI : ClassId} {ad : Nat → Nat} {M : Nat → Nat → Int32} {c : Nat} (h : x_is1 c) : (x_w kI ad M)[c]? = some (ad c, .inr (1, [.int (M c 0), .int (M c 1), .int (M c 2), .int (M c 3), .ref (ad (c + 1)), .ref (ad (c + 2)), .ref (ad (c + 3)), .ref (ad (c + 4)), .ref (ad (c + 5)), .ref (ad (c + 6))])) := by
  rcases h with rfl | rfl <;> exact x_at (Nat.le_of_ble_eq_true rfl)
theorem x_put1_0 {kI : ClassId} {ad : Nat → Nat} {M : Nat → Nat → Int32} {c : Nat} (h : x_is1 c) (v : Int32) : (x_w kI ad M).set c (ad c, .inr (1, [.int (M c 0), .int (M c 1), .int (M c 2), .int (M c 3), .ref (ad (c + 1)), .ref (ad (c + 2)), .ref (ad (c + 3)), .ref (ad (c + 4)), .ref (ad (c + 5)), .ref (ad (c + 6))].set 0 (.int v))) = x_w kI ad (upd2 M c 0 v) := by
  rcases h with rfl | rfl
  · refine x_set (Nat.le_of_ble_eq_true rfl) ?_ (fun j hj => by rw [upd2_n M 0 v hj])
    rw [upd2_c]
    rfl
  · refine x_set (Nat.le_of_ble_eq_true rfl) ?_ (fun j hj => by rw [upd2_n M 0 v hj])
    rw [upd2_c]
    rfl
theorem x_put1_1 {kI : ClassId} {ad : Nat → Nat} {M : Nat → Nat → Int32} {c : Nat} (h : x_is1 c) (v : Int32) : (x_w kI ad M).set c (ad c, .inr (1, [.int (M c 0), .int (M c 1), .int (M c 2), .int (M c 3), .ref (ad (c + 1)), .ref (ad (c + 2)), .ref (ad (c + 3)), .ref (ad (c + 4)), .ref (ad (c + 5)), .ref (ad (c + 6))].set 1 (.int v))) = x_w kI ad (upd2 M c 1 v) := by
  rcases h with rfl | rfl
  · refine x_set (Nat.le_of_ble_eq_true rfl) ?_ (fun j hj => by rw [upd2_n M 1 v hj])
    rw [upd2_c]
    rfl
  · refine x_set (Nat.le_of_ble_eq_true rfl) ?_ (fun j hj => by rw [upd2_n M 1 v hj])
    rw [upd2_c]
    rfl
theorem x_put1_2 {kI : ClassId} {ad : Nat → Nat} {M : Nat → Nat → Int32} {c : Nat} (h : x_is1 c) (v : Int32) : (x_w kI ad M).set c (ad c, .inr (1, [.int (M c 0), .int (M c 1), .int (M c 2), .int (M c 3), .ref (ad (c + 1)), .ref (ad (c + 2)), .ref (ad (c + 3)), .ref (ad (c + 4)), .ref (ad (c + 5)), .ref (ad (c + 6))].set 2 (.int v))) = x_w kI ad (upd2 M c 2 v) := by
  rcases h with rfl | rfl
  · refine x_set (Nat.le_of_ble_eq_true rfl) ?_ (fun j hj => by rw [upd2_n M 2 v hj])
    rw [upd2_c]
    rfl
  · refine x_set (Nat.le_of_ble_eq_true rfl) ?_ (fun j hj => by rw [upd2_n M 2 v hj])
    rw [upd2_c]
    rfl
theorem x_put1_3 {kI : ClassId} {ad : Nat → Nat} {M : Nat → Nat → Int32} {c : Nat} (h : x_is1 c) (v : Int32) : (x_w kI ad M).set c (ad c, .inr (1, [.int (M c 0), .int (M c 1), .int (M c 2), .int (M c 3), .ref (ad (c + 1)), .ref (ad (c + 2)), .ref (ad (c + 3)), .ref (ad (c + 4)), .ref (ad (c + 5)), .ref (ad (c + 6))].set 3 (.int v))) = x_w kI ad (upd2 M c 3 v) := by
  rcases h with rfl | rfl
  · refine x_set (Nat.le_of_ble_eq_true rfl) ?_ (fun j hj => by rw [upd2_n M 3 v hj])
    rw [upd2_c]
    rfl
  · refine x_set (Nat.le_of_ble_eq_true rfl) ?_ (fun j hj => by rw [upd2_n M 3 v hj])
    rw [upd2_c]
    rfl
theorem x_at3 {kI : ClassId} {ad : Nat → Nat} {M : Nat → Nat → Int32} {c : Nat} (h : x_is3 c) : (x_w kI ad M)[c]? = some (ad c, .inr (3, [.ref (ad (c + 1)), .ref (ad (c + 2)), .int (M c 2), .int (M c 3), .int (M c 4), .int (M c 5)])) := by
  rcases h with rfl | rfl | rfl <;> exact x_at (Nat.le_of_ble_eq_true rfl)
theorem x_put3_2 {kI : ClassId} {ad : Nat → Nat} {M : Nat → Nat → Int32} {c : Nat} (h : x_is3 c) (v : Int32) : (x_w kI ad M).set c (ad c, .inr (3, [.ref (ad (c + 1)), .ref (ad (c + 2)), .int (M c 2), .int (M c 3), .int (M c 4), .int (M c 5)].set 2 (.int v))) = x_w kI ad (upd2 M c 2 v) := by
  rcases h with rfl | rfl | rfl
  · refine x_set (Nat.le_of_ble_eq_true rfl) ?_ (fun j hj => by rw [upd2_n M 2 v hj])
    rw [upd2_c]
    rfl
  · refine x_set (Nat.le_of_ble_eq_true rfl) ?_ (fun j hj => by rw [upd2_n M 2 v hj])
    rw [upd2_c]
    rfl
  · refine x_set (Nat.le_of_ble_eq_true rfl) ?_ (fun j hj => by rw [upd2_n M 2 v hj])
    rw [upd2_c]
    rfl
theorem x_put3_3 {kI : ClassId} {ad : Nat → Nat} {M : Nat → Nat → Int32} {c : Nat} (h : x_is3 c) (v : Int32) : (x_w kI ad M).set c (ad c, .inr (3, [.ref (ad (c + 1)), .ref (ad (c + 2)), .int (M c 2), .int (M c 3), .int (M c 4), .int (M c 5)].set 3 (.int v))) = x_w kI ad (upd2 M c 3 v) := by
  rcases h with rfl | rfl | rfl
  · refine x_set (Nat.le_of_ble_eq_true rfl) ?_ (fun j hj => by rw [upd2_n M 3 v hj])
    rw [upd2_c]
    rfl
  · refine x_set (Nat.le_of_ble_eq_true rfl) ?_ (fun j hj => by rw [upd2_n M 3 v hj])
    rw [upd2_c]
    rfl
  · refine x_set (Nat.le_of_ble_eq_true rfl) ?_ (fun j hj => by rw [upd2_n M 3 v hj])
    rw [upd2_c]
    rfl
theorem x_put3_4 {kI : ClassId} {ad : Nat → Nat} {M : Nat → Nat → Int32} {c : Nat} (h : x_is3 c) (v : Int32) : (x_w kI ad M).set c (ad c, .inr (3, [.ref (ad (c + 1)), .ref (ad (c + 2)), .int (M c 2), .int (M c 3), .int (M c 4), .int (M c 5)].set 4 (.int v))) = x_w kI ad (upd2 M c 4 v) := by
  rcases h with rfl | rfl | rfl
  · refine x_set (Nat.le_of_ble_eq_true rfl) ?_ (fun j hj => by rw [upd2_n M 4 v hj])
    rw [upd2_c]
    rfl
  · refine x_set (Nat.le_of_ble_eq_true rfl) ?_ (fun j hj => by rw [upd2_n M 4 v hj])
    rw [upd2_c]
    rfl
  · refine x_set (Nat.le_of_ble_eq_true rfl) ?_ (fun j hj => by rw [upd2_n M 4 v hj])
    rw [upd2_c]
    rfl
theorem x_put3_5 {kI : ClassId} {ad : Nat → Nat} {M : Nat → Nat → Int32} {c : Nat} (h : x_is3 c) (v : Int32) : (x_w kI ad M).set c (ad c, .inr (3, [.ref (ad (c + 1)), .ref (ad (c + 2)), .int (M c 2), .int (M c 3), .int (M c 4), .int (M c 5)].set 5 (.int v))) = x_w kI ad (upd2 M c 5 v) := by
  rcases h with rfl | rfl | rfl
  · refine x_set (Nat.le_of_ble_eq_true rfl) ?_ (fun j hj => by rw [upd2_n M 5 v hj])
    rw [upd2_c]
    rfl
  · refine x_set (Nat.le_of_ble_eq_true rfl) ?_ (fun j hj => by rw [upd2_n M 5 v hj])
    rw [upd2_c]
    rfl
  · refine x_set (Nat.le_of_ble_eq_true rfl) ?_ (fun j hj => by rw [upd2_n M 5 v hj])
    rw [upd2_c]
    rfl
theorem x_at5 {kI : ClassId} {ad : Nat → Nat} {M : Nat → Nat → Int32} {c : Nat} (h : x_is5 c) : (x_w kI ad M)[c]? = some (ad c, .inr (5, [.int (M c 0), .int (M c 1), .int (M c 2)])) := by
  subst h
  exact x_at (Nat.le_of_ble_eq_true rfl)
theorem x_put5_0 {kI : ClassId} {ad : Nat → Nat} {M : Nat → Nat → Int32} {c : Nat} (h : x_is5 c) (v : Int32) : (x_w kI ad M).set c (ad c, .inr (5, [.int (M c 0), .int (M c 1), .int (M c 2)].set 0 (.int v))) = x_w kI ad (upd2 M c 0 v) := by
  subst h
  · refine x_set (Nat.le_of_ble_eq_true rfl) ?_ (fun j hj => by rw [upd2_n M 0 v hj])
    rw [upd2_c]
    rfl
theorem x_put5_1 {kI : ClassId} {ad : Nat → Nat} {M : Nat → Nat → Int32} {c : Nat} (h : x_is5 c) (v : Int32) : (x_w kI ad M).set c (ad c, .inr (5, [.int (M c 0), .int (M c 1), .int (M c 2)].set 1 (.int v))) = x_w kI ad (upd2 M c 1 v) := by
  subst h
  · refine x_set (Nat.le_of_ble_eq_true rfl) ?_ (fun j hj => by rw [upd2_n M 1 v hj])
    rw [upd2_c]
    rfl
theorem x_put5_2 {kI : ClassId} {ad : Nat → Nat} {M : Nat → Nat → Int32} {c : Nat} (h : x_is5 c) (v : Int32) : (x_w kI ad M).set c (ad c, .inr (5, [.int (M c 0), .int (M c 1), .int (M c 2)].set 2 (.int v))) = x_w kI ad (upd2 M c 2 v) := by
  subst h
  · refine x_set (Nat.le_of_ble_eq_true rfl) ?_ (fun j hj => by rw [upd2_n M 2 v hj])
    rw [upd2_c]
    rfl
theorem x_at4 {kI : ClassId} {ad : Nat → Nat} {M : Nat → Nat → Int32} {c : Nat} (h : x_is4 c) : (x_w kI ad M)[c]? = some (ad c, .inr (4, [.ref (ad (c + 1)), .int (M c 1), .int (M c 2)])) := by
  subst h
  exact x_at (Nat.le_of_ble_eq_true rfl)
theorem x_put4_1 {kI : ClassId} {ad : Nat → Nat} {M : Nat → Nat → Int32} {c : Nat} (h : x_is4 c) (v : Int32) : (x_w kI ad M).set c (ad c, .inr (4, [.ref (ad (c + 1)), .int (M c 1), .int (M c 2)].set 1 (.int v))) = x_w kI ad (upd2 M c 1 v) := by
  subst h
  · refine x_set (Nat.le_of_ble_eq_true rfl) ?_ (fun j hj => by rw [upd2_n M 1 v hj])
    rw [upd2_c]
    rfl
theorem x_put4_2 {kI : ClassId} {ad : Nat → Nat} {M : Nat → Nat → Int32} {c : Nat} (h : x_is4 c) (v : Int32) : (x_w kI ad M).set c (ad c, .inr (4, [.ref (ad (c + 1)), .int (M c 1), .int (M c 2)].set 2 (.int v))) = x_w kI ad (upd2 M c 2 v) := by
  subst h
  · refine x_set (Nat.le_of_ble_eq_true rfl) ?_ (fun j hj => by rw [upd2_n M 2 v hj])
    rw [upd2_c]
    rfl
theorem x_at6 {kI : ClassId} {ad : Nat → Nat} {M : Nat → Nat → Int32} {c : Nat} (h : x_is6 c) : (x_w kI ad M)[c]? = some (ad c, .inr (6, [.ref (ad (c + 1))])) := by
  rcases h with rfl | rfl <;> exact x_at (Nat.le_of_ble_eq_true rfl)
theorem x_at0 {kI : ClassId} {ad : Nat → Nat} {M : Nat → Nat → Int32} {c : Nat} (h : x_is0 c) : (x_w kI ad M)[c]? = some (ad c, .inr (0, [.ref (ad (c + 1)), .ref (ad (c + 2)), .int (M c 2)])) := by
  rcases h with rfl | rfl <;> exact x_at (Nat.le_of_ble_eq_true rfl)
theorem x_put0_2 {kI : ClassId} {ad : Nat → Nat} {M : Nat → Nat → Int32} {c : Nat} (h : x_is0 c) (v : Int32) : (x_w kI ad M).set c (ad c, .inr (0, [.ref (ad (c + 1)), .ref (ad (c + 2)), .int (M c 2)].set 2 (.int v))) = x_w kI ad (upd2 M c 2 v) := by
  rcases h with rfl | rfl
  · refine x_set (Nat.le_of_ble_eq_true rfl) ?_ (fun j hj => by rw [upd2_n M 2 v hj])
    rw [upd2_c]
    rfl
  · refine x_set (Nat.le_of_ble_eq_true rfl) ?_ (fun j hj => by rw [upd2_n M 2 v hj])
    rw [upd2_c]
    rfl
theorem x_cellA {kI : ClassId} {ad : Nat → Nat}  {c : Nat} (h : x_arr c) (r : Nat → Int32) : x_cell kI ad c r = .inl (kI, x_len c, .inl r) := by
  unfold x_cell
  rw [if_neg (by omega), if_neg (by omega), if_neg (by omega), if_neg (by omega), if_neg (by omega), if_neg (by omega), if_neg (by omega), if_neg (by omega)]
theorem x_atA {kI : ClassId} {ad : Nat → Nat} {M : Nat → Nat → Int32} {c : Nat} (h : x_arr c) : (x_w kI ad M)[c]? = some (ad c, .inl (kI, x_len c, .inl (M c))) := by rw [x_at h.1, x_cellA h]
theorem x_putA {kI : ClassId} {ad : Nat → Nat} {M : Nat → Nat → Int32} {c : Nat} (h : x_arr c) (k : Nat) (v : Int32) : (x_w kI ad M).set c (ad c, .inl (kI, x_len c, .inl (upd (M c) k v))) = x_w kI ad (upd2 M c k v) := x_set h.1 (by rw [upd2_c, x_cellA h]) (fun j hj => by rw [upd2_n M k v hj])
def x_A (ad : Nat → Nat) : Nat → Prop := fun q => ∃ c, c < 39 ∧ q = ad c
def ad_inj_x (ad : Nat → Nat) : Prop := ∀ i j : Nat, i < 39 → j < 39 → ad i = ad j → i = j
theorem x_D {kI : ClassId} {ad : Nat → Nat} {M : Nat → Nat → Int32} (h : ad_inj_x ad) : va_D (x_A ad) (x_w kI ad M) := by
  have hs : ∀ (i : Nat) (q : Nat × va_E), (x_w kI ad M)[i]? = some q → i < 39 ∧ q.1 = ad i := by
    intro i q hq
    rcases Nat.lt_or_ge i 39 with z | z
    · rw [x_at z] at hq
      cases hq
      exact ⟨z, rfl⟩
    · rw [List.getElem?_eq_none (by simp [x_w]; exact z)] at hq
      cases hq
  refine ⟨fun i j p q hp hq e => ?_, fun k q hq => ⟨k, (hs k q hq).1, (hs k q hq).2⟩⟩
  obtain ⟨a1, a2⟩ := hs i p hp
  obtain ⟨b1, b2⟩ := hs j q hq
  exact h i j a1 b1 (by rw [← a2, ← b2]; exact e)
def x_Kn (dC : Nat → ClassId) (dI : Nat → Nat → Nat) (kI : ClassId) (ad : Nat → Nat) (U : State) : Prop := va_K (dC, dI) vwCl [(kI, .int)] U ∧ ad_inj_x ad ∧ NestOK U
theorem x_KnB {dC : Nat → ClassId} {dI : Nat → Nat → Nat} {kI : ClassId} {ad : Nat → Nat} : knB (x_Kn dC dI kI ad) := fun a U g mk q => ⟨va_K.moved (u := U) (U := U.calling g mk a) (Vm.Alike.refl U.vm) q.1, q.2.1, nestOK_blind (s := U) (U := U.calling g mk a) rfl q.2.2⟩
theorem x_KnW {dC : Nat → ClassId} {dI : Nat → Nat → Nat} {kI : ClassId} {ad : Nat → Nat} {s : State} (h : x_Kn dC dI kI ad s) : knW (x_Kn dC dI kI ad) s := fun U hW => ⟨va_K.moved hW.alike h.1, h.2.1, nestOK_warm hW h.2.2⟩
abbrev x_Wd (dC : Nat → ClassId) (dI : Nat → Nat → Nat) (kI : ClassId) (ad : Nat → Nat) : (Nat → Nat → Int32) → Heap → Prop := fun M H => va_P (dC, dI) vwCl (x_w kI ad M) H
theorem x_rc7 {kI : ClassId} {ad : Nat → Nat} {M : Nat → Nat → Int32} {dC : Nat → ClassId} {dI : Nat → Nat → Nat} {s : State} {H : Heap} {c : Nat} (h : x_is7 c) (hK : x_Kn dC dI kI ad s) (hP : va_P (dC, dI) vwCl (x_w kI ad M) H) : ∃ cell : Cell, H[ad c]? = some cell ∧ cell.vm.isStatics = false ∧ s.vm.findClass RX7 = some cell.cls := va_recv hK.1 hP (ci := 7) (q0 := c) rfl (x_at7 h)
theorem x_rc2 {kI : ClassId} {ad : Nat → Nat} {M : Nat → Nat → Int32} {dC : Nat → ClassId} {dI : Nat → Nat → Nat} {s : State} {H : Heap} {c : Nat} (h : x_is2 c) (hK : x_Kn dC dI kI ad s) (hP : va_P (dC, dI) vwCl (x_w kI ad M) H) : ∃ cell : Cell, H[ad c]? = some cell ∧ cell.vm.isStatics = false ∧ s.vm.findClass RX2 = some cell.cls := va_recv hK.1 hP (ci := 2) (q0 := c) rfl (x_at2 h)
theorem x_rc1 {kI : ClassId} {ad : Nat → Nat} {M : Nat → Nat → Int32} {dC : Nat → ClassId} {dI : Nat → Nat → Nat} {s : State} {H : Heap} {c : Nat} (h : x_is1 c) (hK : x_Kn dC dI kI ad s) (hP : va_P (dC, dI) vwCl (x_w kI ad M) H) : ∃ cell : Cell, H[ad c]? = some cell ∧ cell.vm.isStatics = false ∧ s.vm.findClass RX1 = some cell.cls := va_recv hK.1 hP (ci := 1) (q0 := c) rfl (x_at1 h)
theorem x_rc3 {kI : ClassId} {ad : Nat → Nat} {M : Nat → Nat → Int32} {dC : Nat → ClassId} {dI : Nat → Nat → Nat} {s : State} {H : Heap} {c : Nat} (h : x_is3 c) (hK : x_Kn dC dI kI ad s) (hP : va_P (dC, dI) vwCl (x_w kI ad M) H) : ∃ cell : Cell, H[ad c]? = some cell ∧ cell.vm.isStatics = false ∧ s.vm.findClass RX3 = some cell.cls := va_recv hK.1 hP (ci := 3) (q0 := c) rfl (x_at3 h)
theorem x_rc5 {kI : ClassId} {ad : Nat → Nat} {M : Nat → Nat → Int32} {dC : Nat → ClassId} {dI : Nat → Nat → Nat} {s : State} {H : Heap} {c : Nat} (h : x_is5 c) (hK : x_Kn dC dI kI ad s) (hP : va_P (dC, dI) vwCl (x_w kI ad M) H) : ∃ cell : Cell, H[ad c]? = some cell ∧ cell.vm.isStatics = false ∧ s.vm.findClass RX5 = some cell.cls := va_recv hK.1 hP (ci := 5) (q0 := c) rfl (x_at5 h)
theorem x_rc4 {kI : ClassId} {ad : Nat → Nat} {M : Nat → Nat → Int32} {dC : Nat → ClassId} {dI : Nat → Nat → Nat} {s : State} {H : Heap} {c : Nat} (h : x_is4 c) (hK : x_Kn dC dI kI ad s) (hP : va_P (dC, dI) vwCl (x_w kI ad M) H) : ∃ cell : Cell, H[ad c]? = some cell ∧ cell.vm.isStatics = false ∧ s.vm.findClass RX4 = some cell.cls := va_recv hK.1 hP (ci := 4) (q0 := c) rfl (x_at4 h)
theorem x_rc6 {kI : ClassId} {ad : Nat → Nat} {M : Nat → Nat → Int32} {dC : Nat → ClassId} {dI : Nat → Nat → Nat} {s : State} {H : Heap} {c : Nat} (h : x_is6 c) (hK : x_Kn dC dI kI ad s) (hP : va_P (dC, dI) vwCl (x_w kI ad M) H) : ∃ cell : Cell, H[ad c]? = some cell ∧ cell.vm.isStatics = false ∧ s.vm.findClass RX6 = some cell.cls := va_recv hK.1 hP (ci := 6) (q0 := c) rfl (x_at6 h)
theorem x_rc0 {kI : ClassId} {ad : Nat → Nat} {M : Nat → Nat → Int32} {dC : Nat → ClassId} {dI : Nat → Nat → Nat} {s : State} {H : Heap} {c : Nat} (h : x_is0 c) (hK : x_Kn dC dI kI ad s) (hP : va_P (dC, dI) vwCl (x_w kI ad M) H) : ∃ cell : Cell, H[ad c]? = some cell ∧ cell.vm.isStatics = false ∧ s.vm.findClass RX0 = some cell.cls := va_recv hK.1 hP (ci := 0) (q0 := c) rfl (x_at0 h)
theorem x_ar2_1 {c : Nat} (h : x_is2 c) : x_arr (c + 1) := by subst h; decide
theorem x_ar1_1 {c : Nat} (h : x_is1 c) : x_arr (c + 1) := by rcases h with rfl | rfl <;> decide
theorem x_ar1_2 {c : Nat} (h : x_is1 c) : x_arr (c + 2) := by rcases h with rfl | rfl <;> decide
theorem x_ar1_3 {c : Nat} (h : x_is1 c) : x_arr (c + 3) := by rcases h with rfl | rfl <;> decide
theorem x_ar1_4 {c : Nat} (h : x_is1 c) : x_arr (c + 4) := by rcases h with rfl | rfl <;> decide
theorem x_ar1_5 {c : Nat} (h : x_is1 c) : x_arr (c + 5) := by rcases h with rfl | rfl <;> decide
theorem x_ar1_6 {c : Nat} (h : x_is1 c) : x_arr (c + 6) := by rcases h with rfl | rfl <;> decide
theorem x_ar3_1 {c : Nat} (h : x_is3 c) : x_arr (c + 1) := by rcases h with rfl | rfl | rfl <;> decide
theorem x_ar3_2 {c : Nat} (h : x_is3 c) : x_arr (c + 2) := by rcases h with rfl | rfl | rfl <;> decide
theorem x_ar6_1 {c : Nat} (h : x_is6 c) : x_arr (c + 1) := by rcases h with rfl | rfl <;> decide
theorem x_ar0_1 {c : Nat} (h : x_is0 c) : x_arr (c + 1) := by rcases h with rfl | rfl <;> decide
theorem x_ar0_2 {c : Nat} (h : x_is0 c) : x_arr (c + 2) := by rcases h with rfl | rfl <;> decide
def m_len : Nat → Nat := fun a => match a with
  | 1 => 50
  | 2 => 50
  | 3 => 17
  | 4 => 340
  | 5 => 36
  | 6 => 2
  | 7 => 240
  | 8 => 12
  | 9 => 30
  | 10 => 17
  | 11 => 17
  | 12 => 85
  | 13 => 5
  | 14 => 5
  | 15 => 5
  | _ => 0
def m_cell (kI kZ : ClassId) (ad : Nat → Nat) (L : Int64) (c : Nat) (r : Nat → Int32) : va_E :=
  if c = 0 then .inr (8, [.ref (ad 1), .ref (ad 2), .ref (ad 3), .ref (ad 4), .int (r 4), .ref (ad 5), .ref (ad 6), .long L, .ref (ad 7), .int (r 9), .int (r 10), .ref (ad 8), .int (r 12), .ref (ad 9), .int (r 14), .int (r 15), .int (r 16), .int (r 17), .int (r 18), .int (r 19), .int (r 20), .ref (ad 10), .ref (ad 11), .int (r 23), .int (r 24), .ref (ad 12), .ref (ad 13), .ref (ad 14), .ref (ad 15)]) else
  if c = 6 then .inl (kZ, 2, .inl r) else
  .inl (kI, m_len c, .inl r)
abbrev m_is8 (c : Nat) : Prop := c = 0
abbrev m_arr (c : Nat) : Prop := c < 16 ∧ ¬ c = 0 ∧ ¬ c = 6
def m_w (kI kZ : ClassId) (ad : Nat → Nat) (M : Nat → Nat → Int32) (L : Int64) : va_W := (List.range 16).map (fun c => (ad c, m_cell kI kZ ad L c (M c)))
theorem m_at {kI kZ : ClassId} {ad : Nat → Nat} {M : Nat → Nat → Int32} {L : Int64} {c : Nat} (h : c < 16) : (m_w kI kZ ad M L)[c]? = some (ad c, m_cell kI kZ ad L c (M c)) := by
  unfold m_w
  rw [List.getElem?_map, List.getElem?_range h]
  rfl
theorem m_set {kI kZ : ClassId} {ad : Nat → Nat} {M : Nat → Nat → Int32} {L : Int64} {M2 : Nat → Nat → Int32} {L2 : Int64} {c : Nat} {e : va_E} (h : c < 16) (h1 : m_cell kI kZ ad L2 c (M2 c) = e) (h2 : ∀ j, j ≠ c → m_cell kI kZ ad L2 j (M2 j) = m_cell kI kZ ad L j (M j)) : (m_w kI kZ ad M L).set c (ad c, e) = m_w kI kZ ad M2 L2 := by
  refine List.ext_getElem? fun j => ?_
  rw [List.getElem?_set]
  by_cases hj : c = j
  · subst hj
    rw [if_pos rfl, if_pos (by simp [m_w]; exact h), m_at h, h1]
  · rw [if_neg hj]
    rcases Nat.lt_or_ge j 16 with q | q
    · rw [m_at q, m_at q, h2 j (fun z => hj z.symm)]
    · rw [List.getElem?_eq_none (by simp [m_w]; exact q), List.getElem?_eq_none (by simp [m_w]; exact q)]
theorem m_at8 {kI kZ : ClassId} {ad : Nat → Nat} {M : Nat → Nat → Int32} {L : Int64} {c : Nat} (h : m_is8 c) : (m_w kI kZ ad M L)[c]? = some (ad c, .inr (8, [.ref (ad 1), .ref (ad 2), .ref (ad 3), .ref (ad 4), .int (M c 4), .ref (ad 5), .ref (ad 6), .long L, .ref (ad 7), .int (M c 9), .int (M c 10), .ref (ad 8), .int (M c 12), .ref (ad 9), .int (M c 14), .int (M c 15), .int (M c 16), .int (M c 17), .int (M c 18), .int (M c 19), .int (M c 20), .ref (ad 10), .ref (ad 11), .int (M c 23), .int (M c 24), .ref (ad 12), .ref (ad 13), .ref (ad 14), .ref (ad 15)])) := by
  subst h
  exact m_at (Nat.le_of_ble_eq_true rfl)
theorem m_put8_4 {kI kZ : ClassId} {ad : Nat → Nat} {M : Nat → Nat → Int32} {L : Int64} {c : Nat} (h : m_is8 c) (v : Int32) : (m_w kI kZ ad M L).set c (ad c, .inr (8, [.ref (ad 1), .ref (ad 2), .ref (ad 3), .ref (ad 4), .int (M c 4), .ref (ad 5), .ref (ad 6), .long L, .ref (ad 7), .int (M c 9), .int (M c 10), .ref (ad 8), .int (M c 12), .ref (ad 9), .int (M c 14), .int (M c 15), .int (M c 16), .int (M c 17), .int (M c 18), .int (M c 19), .int (M c 20), .ref (ad 10), .ref (ad 11), .int (M c 23), .int (M c 24), .ref (ad 12), .ref (ad 13), .ref (ad 14), .ref (ad 15)].set 4 (.int v))) = m_w kI kZ ad (upd2 M c 4 v) L := by
  subst h
  · refine m_set (Nat.le_of_ble_eq_true rfl) ?_ (fun j hj => by rw [upd2_n M 4 v hj])
    rw [upd2_c]
    rfl
theorem m_put8_7 {kI kZ : ClassId} {ad : Nat → Nat} {M : Nat → Nat → Int32} {L : Int64} {c : Nat} (h : m_is8 c) (v : Int64) : (m_w kI kZ ad M L).set c (ad c, .inr (8, [.ref (ad 1), .ref (ad 2), .ref (ad 3), .ref (ad 4), .int (M c 4), .ref (ad 5), .ref (ad 6), .long L, .ref (ad 7), .int (M c 9), .int (M c 10), .ref (ad 8), .int (M c 12), .ref (ad 9), .int (M c 14), .int (M c 15), .int (M c 16), .int (M c 17), .int (M c 18), .int (M c 19), .int (M c 20), .ref (ad 10), .ref (ad 11), .int (M c 23), .int (M c 24), .ref (ad 12), .ref (ad 13), .ref (ad 14), .ref (ad 15)].set 7 (.long v))) = m_w kI kZ ad M v := by
  subst h
  refine m_set (Nat.le_of_ble_eq_true rfl) rfl (fun j hj => ?_)
  unfold m_cell
  rw [if_neg hj, if_neg hj]
theorem m_put8_9 {kI kZ : ClassId} {ad : Nat → Nat} {M : Nat → Nat → Int32} {L : Int64} {c : Nat} (h : m_is8 c) (v : Int32) : (m_w kI kZ ad M L).set c (ad c, .inr (8, [.ref (ad 1), .ref (ad 2), .ref (ad 3), .ref (ad 4), .int (M c 4), .ref (ad 5), .ref (ad 6), .long L, .ref (ad 7), .int (M c 9), .int (M c 10), .ref (ad 8), .int (M c 12), .ref (ad 9), .int (M c 14), .int (M c 15), .int (M c 16), .int (M c 17), .int (M c 18), .int (M c 19), .int (M c 20), .ref (ad 10), .ref (ad 11), .int (M c 23), .int (M c 24), .ref (ad 12), .ref (ad 13), .ref (ad 14), .ref (ad 15)].set 9 (.int v))) = m_w kI kZ ad (upd2 M c 9 v) L := by
  subst h
  · refine m_set (Nat.le_of_ble_eq_true rfl) ?_ (fun j hj => by rw [upd2_n M 9 v hj])
    rw [upd2_c]
    rfl
theorem m_put8_10 {kI kZ : ClassId} {ad : Nat → Nat} {M : Nat → Nat → Int32} {L : Int64} {c : Nat} (h : m_is8 c) (v : Int32) : (m_w kI kZ ad M L).set c (ad c, .inr (8, [.ref (ad 1), .ref (ad 2), .ref (ad 3), .ref (ad 4), .int (M c 4), .ref (ad 5), .ref (ad 6), .long L, .ref (ad 7), .int (M c 9), .int (M c 10), .ref (ad 8), .int (M c 12), .ref (ad 9), .int (M c 14), .int (M c 15), .int (M c 16), .int (M c 17), .int (M c 18), .int (M c 19), .int (M c 20), .ref (ad 10), .ref (ad 11), .int (M c 23), .int (M c 24), .ref (ad 12), .ref (ad 13), .ref (ad 14), .ref (ad 15)].set 10 (.int v))) = m_w kI kZ ad (upd2 M c 10 v) L := by
  subst h
  · refine m_set (Nat.le_of_ble_eq_true rfl) ?_ (fun j hj => by rw [upd2_n M 10 v hj])
    rw [upd2_c]
    rfl
theorem m_put8_12 {kI kZ : ClassId} {ad : Nat → Nat} {M : Nat → Nat → Int32} {L : Int64} {c : Nat} (h : m_is8 c) (v : Int32) : (m_w kI kZ ad M L).set c (ad c, .inr (8, [.ref (ad 1), .ref (ad 2), .ref (ad 3), .ref (ad 4), .int (M c 4), .ref (ad 5), .ref (ad 6), .long L, .ref (ad 7), .int (M c 9), .int (M c 10), .ref (ad 8), .int (M c 12), .ref (ad 9), .int (M c 14), .int (M c 15), .int (M c 16), .int (M c 17), .int (M c 18), .int (M c 19), .int (M c 20), .ref (ad 10), .ref (ad 11), .int (M c 23), .int (M c 24), .ref (ad 12), .ref (ad 13), .ref (ad 14), .ref (ad 15)].set 12 (.int v))) = m_w kI kZ ad (upd2 M c 12 v) L := by
  subst h
  · refine m_set (Nat.le_of_ble_eq_true rfl) ?_ (fun j hj => by rw [upd2_n M 12 v hj])
    rw [upd2_c]
    rfl
theorem m_put8_14 {kI kZ : ClassId} {ad : Nat → Nat} {M : Nat → Nat → Int32} {L : Int64} {c : Nat} (h : m_is8 c) (v : Int32) : (m_w kI kZ ad M L).set c (ad c, .inr (8, [.ref (ad 1), .ref (ad 2), .ref (ad 3), .ref (ad 4), .int (M c 4), .ref (ad 5), .ref (ad 6), .long L, .ref (ad 7), .int (M c 9), .int (M c 10), .ref (ad 8), .int (M c 12), .ref (ad 9), .int (M c 14), .int (M c 15), .int (M c 16), .int (M c 17), .int (M c 18), .int (M c 19), .int (M c 20), .ref (ad 10), .ref (ad 11), .int (M c 23), .int (M c 24), .ref (ad 12), .ref (ad 13), .ref (ad 14), .ref (ad 15)].set 14 (.int v))) = m_w kI kZ ad (upd2 M c 14 v) L := by
  subst h
  · refine m_set (Nat.le_of_ble_eq_true rfl) ?_ (fun j hj => by rw [upd2_n M 14 v hj])
    rw [upd2_c]
    rfl
theorem m_put8_15 {kI kZ : ClassId} {ad : Nat → Nat} {M : Nat → Nat → Int32} {L : Int64} {c : Nat} (h : m_is8 c) (v : Int32) : (m_w kI kZ ad M L).set c (ad c, .inr (8, [.ref (ad 1), .ref (ad 2), .ref (ad 3), .ref (ad 4), .int (M c 4), .ref (ad 5), .ref (ad 6), .long L, .ref (ad 7), .int (M c 9), .int (M c 10), .ref (ad 8), .int (M c 12), .ref (ad 9), .int (M c 14), .int (M c 15), .int (M c 16), .int (M c 17), .int (M c 18), .int (M c 19), .int (M c 20), .ref (ad 10), .ref (ad 11), .int (M c 23), .int (M c 24), .ref (ad 12), .ref (ad 13), .ref (ad 14), .ref (ad 15)].set 15 (.int v))) = m_w kI kZ ad (upd2 M c 15 v) L := by
  subst h
  · refine m_set (Nat.le_of_ble_eq_true rfl) ?_ (fun j hj => by rw [upd2_n M 15 v hj])
    rw [upd2_c]
    rfl
theorem m_put8_16 {kI kZ : ClassId} {ad : Nat → Nat} {M : Nat → Nat → Int32} {L : Int64} {c : Nat} (h : m_is8 c) (v : Int32) : (m_w kI kZ ad M L).set c (ad c, .inr (8, [.ref (ad 1), .ref (ad 2), .ref (ad 3), .ref (ad 4), .int (M c 4), .ref (ad 5), .ref (ad 6), .long L, .ref (ad 7), .int (M c 9), .int (M c 10), .ref (ad 8), .int (M c 12), .ref (ad 9), .int (M c 14), .int (M c 15), .int (M c 16), .int (M c 17), .int (M c 18), .int (M c 19), .int (M c 20), .ref (ad 10), .ref (ad 11), .int (M c 23), .int (M c 24), .ref (ad 12), .ref (ad 13), .ref (ad 14), .ref (ad 15)].set 16 (.int v))) = m_w kI kZ ad (upd2 M c 16 v) L := by
  subst h
  · refine m_set (Nat.le_of_ble_eq_true rfl) ?_ (fun j hj => by rw [upd2_n M 16 v hj])
    rw [upd2_c]
    rfl
theorem m_put8_17 {kI kZ : ClassId} {ad : Nat → Nat} {M : Nat → Nat → Int32} {L : Int64} {c : Nat} (h : m_is8 c) (v : Int32) : (m_w kI kZ ad M L).set c (ad c, .inr (8, [.ref (ad 1), .ref (ad 2), .ref (ad 3), .ref (ad 4), .int (M c 4), .ref (ad 5), .ref (ad 6), .long L, .ref (ad 7), .int (M c 9), .int (M c 10), .ref (ad 8), .int (M c 12), .ref (ad 9), .int (M c 14), .int (M c 15), .int (M c 16), .int (M c 17), .int (M c 18), .int (M c 19), .int (M c 20), .ref (ad 10), .ref (ad 11), .int (M c 23), .int (M c 24), .ref (ad 12), .ref (ad 13), .ref (ad 14), .ref (ad 15)].set 17 (.int v))) = m_w kI kZ ad (upd2 M c 17 v) L := by
  subst h
  · refine m_set (Nat.le_of_ble_eq_true rfl) ?_ (fun j hj => by rw [upd2_n M 17 v hj])
    rw [upd2_c]
    rfl
theorem m_put8_18 {kI kZ : ClassId} {ad : Nat → Nat} {M : Nat → Nat → Int32} {L : Int64} {c : Nat} (h : m_is8 c) (v : Int32) : (m_w kI kZ ad M L).set c (ad c, .inr (8, [.ref (ad 1), .ref (ad 2), .ref (ad 3), .ref (ad 4), .int (M c 4), .ref (ad 5), .ref (ad 6), .long L, .ref (ad 7), .int (M c 9), .int (M c 10), .ref (ad 8), .int (M c 12), .ref (ad 9), .int (M c 14), .int (M c 15), .int (M c 16), .int (M c 17), .int (M c 18), .int (M c 19), .int (M c 20), .ref (ad 10), .ref (ad 11), .int (M c 23), .int (M c 24), .ref (ad 12), .ref (ad 13), .ref (ad 14), .ref (ad 15)].set 18 (.int v))) = m_w kI kZ ad (upd2 M c 18 v) L := by
  subst h
  · refine m_set (Nat.le_of_ble_eq_true rfl) ?_ (fun j hj => by rw [upd2_n M 18 v hj])
    rw [upd2_c]
    rfl
theorem m_put8_19 {kI kZ : ClassId} {ad : Nat → Nat} {M : Nat → Nat → Int32} {L : Int64} {c : Nat} (h : m_is8 c) (v : Int32) : (m_w kI kZ ad M L).set c (ad c, .inr (8, [.ref (ad 1), .ref (ad 2), .ref (ad 3), .ref (ad 4), .int (M c 4), .ref (ad 5), .ref (ad 6), .long L, .ref (ad 7), .int (M c 9), .int (M c 10), .ref (ad 8), .int (M c 12), .ref (ad 9), .int (M c 14), .int (M c 15), .int (M c 16), .int (M c 17), .int (M c 18), .int (M c 19), .int (M c 20), .ref (ad 10), .ref (ad 11), .int (M c 23), .int (M c 24), .ref (ad 12), .ref (ad 13), .ref (ad 14), .ref (ad 15)].set 19 (.int v))) = m_w kI kZ ad (upd2 M c 19 v) L := by
  subst h
  · refine m_set (Nat.le_of_ble_eq_true rfl) ?_ (fun j hj => by rw [upd2_n M 19 v hj])
    rw [upd2_c]
    rfl
theorem m_put8_20 {kI kZ : ClassId} {ad : Nat → Nat} {M : Nat → Nat → Int32} {L : Int64} {c : Nat} (h : m_is8 c) (v : Int32) : (m_w kI kZ ad M L).set c (ad c, .inr (8, [.ref (ad 1), .ref (ad 2), .ref (ad 3), .ref (ad 4), .int (M c 4), .ref (ad 5), .ref (ad 6), .long L, .ref (ad 7), .int (M c 9), .int (M c 10), .ref (ad 8), .int (M c 12), .ref (ad 9), .int (M c 14), .int (M c 15), .int (M c 16), .int (M c 17), .int (M c 18), .int (M c 19), .int (M c 20), .ref (ad 10), .ref (ad 11), .int (M c 23), .int (M c 24), .ref (ad 12), .ref (ad 13), .ref (ad 14), .ref (ad 15)].set 20 (.int v))) = m_w kI kZ ad (upd2 M c 20 v) L := by
  subst h
  · refine m_set (Nat.le_of_ble_eq_true rfl) ?_ (fun j hj => by rw [upd2_n M 20 v hj])
    rw [upd2_c]
    rfl
theorem m_put8_23 {kI kZ : ClassId} {ad : Nat → Nat} {M : Nat → Nat → Int32} {L : Int64} {c : Nat} (h : m_is8 c) (v : Int32) : (m_w kI kZ ad M L).set c (ad c, .inr (8, [.ref (ad 1), .ref (ad 2), .ref (ad 3), .ref (ad 4), .int (M c 4), .ref (ad 5), .ref (ad 6), .long L, .ref (ad 7), .int (M c 9), .int (M c 10), .ref (ad 8), .int (M c 12), .ref (ad 9), .int (M c 14), .int (M c 15), .int (M c 16), .int (M c 17), .int (M c 18), .int (M c 19), .int (M c 20), .ref (ad 10), .ref (ad 11), .int (M c 23), .int (M c 24), .ref (ad 12), .ref (ad 13), .ref (ad 14), .ref (ad 15)].set 23 (.int v))) = m_w kI kZ ad (upd2 M c 23 v) L := by
  subst h
  · refine m_set (Nat.le_of_ble_eq_true rfl) ?_ (fun j hj => by rw [upd2_n M 23 v hj])
    rw [upd2_c]
    rfl
theorem m_put8_24 {kI kZ : ClassId} {ad : Nat → Nat} {M : Nat → Nat → Int32} {L : Int64} {c : Nat} (h : m_is8 c) (v : Int32) : (m_w kI kZ ad M L).set c (ad c, .inr (8, [.ref (ad 1), .ref (ad 2), .ref (ad 3), .ref (ad 4), .int (M c 4), .ref (ad 5), .ref (ad 6), .long L, .ref (ad 7), .int (M c 9), .int (M c 10), .ref (ad 8), .int (M c 12), .ref (ad 9), .int (M c 14), .int (M c 15), .int (M c 16), .int (M c 17), .int (M c 18), .int (M c 19), .int (M c 20), .ref (ad 10), .ref (ad 11), .int (M c 23), .int (M c 24), .ref (ad 12), .ref (ad 13), .ref (ad 14), .ref (ad 15)].set 24 (.int v))) = m_w kI kZ ad (upd2 M c 24 v) L := by
  subst h
  · refine m_set (Nat.le_of_ble_eq_true rfl) ?_ (fun j hj => by rw [upd2_n M 24 v hj])
    rw [upd2_c]
    rfl
theorem m_cellA {kI kZ : ClassId} {ad : Nat → Nat}  {L : Int64} {c : Nat} (h : m_arr c) (r : Nat → Int32) : m_cell kI kZ ad L c r = .inl (kI, m_len c, .inl r) := by
  unfold m_cell
  rw [if_neg (by omega), if_neg (by omega)]
theorem m_atA {kI kZ : ClassId} {ad : Nat → Nat} {M : Nat → Nat → Int32} {L : Int64} {c : Nat} (h : m_arr c) : (m_w kI kZ ad M L)[c]? = some (ad c, .inl (kI, m_len c, .inl (M c))) := by rw [m_at h.1, m_cellA h]
theorem m_putA {kI kZ : ClassId} {ad : Nat → Nat} {M : Nat → Nat → Int32} {L : Int64} {c : Nat} (h : m_arr c) (k : Nat) (v : Int32) : (m_w kI kZ ad M L).set c (ad c, .inl (kI, m_len c, .inl (upd (M c) k v))) = m_w kI kZ ad (upd2 M c k v) L := m_set h.1 (by rw [upd2_c, m_cellA h]) (fun j hj => by rw [upd2_n M k v hj])
theorem m_atZ {kI kZ : ClassId} {ad : Nat → Nat} {M : Nat → Nat → Int32} {L : Int64} : (m_w kI kZ ad M L)[6]? = some (ad 6, .inl (kZ, 2, .inl (M 6))) := m_at (Nat.le_of_ble_eq_true rfl)
theorem m_putZ {kI kZ : ClassId} {ad : Nat → Nat} {M : Nat → Nat → Int32} {L : Int64} (k : Nat) (v : Int32) : (m_w kI kZ ad M L).set 6 (ad 6, .inl (kZ, 2, .inl (upd (M 6) k v))) = m_w kI kZ ad (upd2 M 6 k v) L := m_set (Nat.le_of_ble_eq_true rfl) (by rw [upd2_c]; rfl) (fun j hj => by rw [upd2_n M k v hj])
def m_A (ad : Nat → Nat) : Nat → Prop := fun q => ∃ c, c < 16 ∧ q = ad c
def ad_inj_m (ad : Nat → Nat) : Prop := ∀ i j : Nat, i < 16 → j < 16 → ad i = ad j → i = j
theorem m_D {kI kZ : ClassId} {ad : Nat → Nat} {M : Nat → Nat → Int32} {L : Int64} (h : ad_inj_m ad) : va_D (m_A ad) (m_w kI kZ ad M L) := by
  have hs : ∀ (i : Nat) (q : Nat × va_E), (m_w kI kZ ad M L)[i]? = some q → i < 16 ∧ q.1 = ad i := by
    intro i q hq
    rcases Nat.lt_or_ge i 16 with z | z
    · rw [m_at z] at hq
      cases hq
      exact ⟨z, rfl⟩
    · rw [List.getElem?_eq_none (by simp [m_w]; exact z)] at hq
      cases hq
  refine ⟨fun i j p q hp hq e => ?_, fun k q hq => ⟨k, (hs k q hq).1, (hs k q hq).2⟩⟩
  obtain ⟨a1, a2⟩ := hs i p hp
  obtain ⟨b1, b2⟩ := hs j q hq
  exact h i j a1 b1 (by rw [← a2, ← b2]; exact e)
def m_Kn (dC : Nat → ClassId) (dI : Nat → Nat → Nat) (kI kZ : ClassId) (ad : Nat → Nat) (U : State) : Prop := va_K (dC, dI) vwCl [(kI, .int), (kZ, .boolean)] U ∧ ad_inj_m ad ∧ NestOK U
theorem m_KnB {dC : Nat → ClassId} {dI : Nat → Nat → Nat} {kI kZ : ClassId} {ad : Nat → Nat} : knB (m_Kn dC dI kI kZ ad) := fun a U g mk q => ⟨va_K.moved (u := U) (U := U.calling g mk a) (Vm.Alike.refl U.vm) q.1, q.2.1, nestOK_blind (s := U) (U := U.calling g mk a) rfl q.2.2⟩
theorem m_KnW {dC : Nat → ClassId} {dI : Nat → Nat → Nat} {kI kZ : ClassId} {ad : Nat → Nat} {s : State} (h : m_Kn dC dI kI kZ ad s) : knW (m_Kn dC dI kI kZ ad) s := fun U hW => ⟨va_K.moved hW.alike h.1, h.2.1, nestOK_warm hW h.2.2⟩
abbrev m_Wd (dC : Nat → ClassId) (dI : Nat → Nat → Nat) (kI kZ : ClassId) (ad : Nat → Nat) : (Nat → Nat → Int32) × Int64 → Heap → Prop := fun M H => va_P (dC, dI) vwCl (m_w kI kZ ad M.1 M.2) H
theorem m_rc8 {kI kZ : ClassId} {ad : Nat → Nat} {M : Nat → Nat → Int32} {L : Int64} {dC : Nat → ClassId} {dI : Nat → Nat → Nat} {s : State} {H : Heap} {c : Nat} (h : m_is8 c) (hK : m_Kn dC dI kI kZ ad s) (hP : va_P (dC, dI) vwCl (m_w kI kZ ad M L) H) : ∃ cell : Cell, H[ad c]? = some cell ∧ cell.vm.isStatics = false ∧ s.vm.findClass RX8 = some cell.cls := va_recv hK.1 hP (ci := 8) (q0 := c) rfl (m_at8 h)
abbrev MM : Type := (Nat → Nat → Int32) × Int64
def um (M : MM) (c k : Nat) (v : Int32) : MM := (upd2 M.1 c k v, M.2)
def us (M : MM) (v : Int64) : MM := (M.1, v)
