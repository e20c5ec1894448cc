/-! ===== rows copied, minds copied, stored, fetched ===== -/
def setX (M : XM) (c : Nat) (r : Nat → Int32) : XM := fun a => if a = c then r else M a
theorem setX_c (M : XM) (c : Nat) (r : Nat → Int32) : setX M c r c = r := if_pos rfl
theorem setX_n (M : XM) (r : Nat → Int32) {a c : Nat} (h : a ≠ c) : setX M c r a = M a := if_neg h
theorem upd2_setX (M : XM) (c k : Nat) (v : Int32) : upd2 M c k v = setX M c (upd (M c) k v) := by
  unfold upd2 setX
  funext a
  by_cases h : a = c
  · rw [if_pos h, if_pos h, h]
  · rw [if_neg h, if_neg h]
theorem setX_setX (M : XM) (c : Nat) (r r2 : Nat → Int32) : setX (setX M c r) c r2 = setX M c r2 := by
  unfold setX
  funext a
  by_cases h : a = c
  · rw [if_pos h, if_pos h]
  · rw [if_neg h, if_neg h, if_neg h]
theorem setX_self (M : XM) (c : Nat) : setX M c (M c) = M := by
  unfold setX
  funext a
  by_cases h : a = c
  · rw [if_pos h, h]
  · rw [if_neg h]
/-- n numbers of f put into g from the place a on -/
def pt (g f : Nat → Int32) (a n : Nat) : Nat → Int32 := fun k => if a ≤ k ∧ k < a + n then f (k - a) else g k
theorem pt_0 (g f : Nat → Int32) (a : Nat) : pt g f a 0 = g := by
  funext k
  exact if_neg (by omega)
theorem pt_s (g f : Nat → Int32) (a n : Nat) {v : Int32} (h : v = f n) : upd (pt g f a n) (a + n) v = pt g f a (n + 1) := by
  funext k
  show (if k = a + n then v else if a ≤ k ∧ k < a + n then f (k - a) else g k) = if a ≤ k ∧ k < a + (n + 1) then f (k - a) else g k
  by_cases h1 : k = a + n
  · rw [if_pos h1, if_pos (by omega), h, h1, Nat.add_sub_cancel_left]
  · rw [if_neg h1]
    by_cases h2 : a ≤ k ∧ k < a + n
    · rw [if_pos h2, if_pos (by omega)]
    · rw [if_neg h2, if_neg (by omega)]
theorem pt_app (g f : Nat → Int32) (a n m : Nat) : pt (pt g f a n) (fun k => f (n + k)) (a + n) m = pt g f a (n + m) := by
  funext k
  show (if a + n ≤ k ∧ k < a + n + m then f (n + (k - (a + n))) else if a ≤ k ∧ k < a + n then f (k - a) else g k) = if a ≤ k ∧ k < a + (n + m) then f (k - a) else g k
  by_cases h1 : a + n ≤ k ∧ k < a + n + m
  · rw [if_pos h1, if_pos (by omega)]
    congr 1
    omega
  · rw [if_neg h1]
    by_cases h2 : a ≤ k ∧ k < a + n
    · rw [if_pos h2, if_pos (by omega)]
    · rw [if_neg h2, if_neg (by omega)]
theorem pt_in {g f : Nat → Int32} {a n k : Nat} (h : k < n) : pt g f a n (a + k) = f k := by
  show (if a ≤ a + k ∧ a + k < a + n then f (a + k - a) else g (a + k)) = f k
  rw [if_pos (by omega), Nat.add_sub_cancel_left]
theorem pt_out {g f : Nat → Int32} {a n k : Nat} (h : k < a ∨ a + n ≤ k) : pt g f a n k = g k := if_neg (by omega)
theorem m_copies {M : MM} {c0 c2 i j n : Nat} (h : c0 ≠ c2) (hi : i + n ≤ m_len c0) (hj : j + n ≤ m_len c2) (l0 : m_len c0 < 1000) (l2 : m_len c2 < 1000) : FX8_copies c0 (nI i) c2 (nI j) (nI n) M = some (setR M c2 (pt (M.1 c2) (fun k => M.1 c0 (i + k)) j n)) := by
  have L : ∀ (d v k : Nat), v + d = n → d < k → FX8_copies_L3 c0 (nI i) c2 (nI j) (nI n) (fun (M_1 : MM) => some M_1) k (nI v) (setR M c2 (pt (M.1 c2) (fun k => M.1 c0 (i + k)) j v)) = some (setR M c2 (pt (M.1 c2) (fun k => M.1 c0 (i + k)) j n)) := by
    intro d
    induction d with
    | zero =>
      intro v k hv hk
      obtain ⟨k, rfl⟩ : ∃ z, k = z + 1 := ⟨k - 1, by omega⟩
      have e : v = n := by omega
      subst e
      rw [FX8_copies_L3, if_pos (nI_le (Nat.le_refl _) (by omega))]
    | succ d ih =>
      intro v k hv hk
      obtain ⟨k, rfl⟩ : ∃ z, k = z + 1 := ⟨k - 1, by omega⟩
      rw [FX8_copies_L3, if_neg (nI_ge (by omega) (by omega)), add_n, add_n, if_pos (inb_n (by omega) (by omega)), if_pos (inb_n (by omega) (by omega)), ix_n (by omega), ix_n (by omega), nI_1, setR_n _ _ h, um_setR, setR_setR, setR_c, pt_s _ _ _ _ rfl]
      exact ih (v + 1) k (by omega) (by omega)
  have h0 := L n 0 fuelN (by omega) (show n < 100000 by omega)
  rw [pt_0, setR_self] at h0
  exact h0
def mindFn (M : XM) (c : Nat) : Nat → Int32 := fun k => if k < 5 then M (c + 1) k else if k < 13 then M (c + 2) (k - 5) else M c (k - 11)
theorem mindX_iff {M : XM} {c : Nat} {u : Nat → Int32} : MindX M c u ↔ ∀ k, k < 17 → mindFn M c k = u k := by
  constructor
  · rintro ⟨B, R, a2, a3, a4, a5⟩ k hk
    unfold mindFn
    by_cases h1 : k < 5
    · rw [if_pos h1]; exact B k h1
    · rw [if_neg h1]
      by_cases h2 : k < 13
      · rw [if_pos h2, R (k - 5) (by omega)]
        congr 1
        omega
      · rw [if_neg h2]
        rcases (show k = 13 ∨ k = 14 ∨ k = 15 ∨ k = 16 by omega) with rfl | rfl | rfl | rfl
        · exact a2
        · exact a3
        · exact a4
        · exact a5
  · intro h
    refine ⟨fun o ho => ?_, fun f hf => ?_, h 13 (by omega), h 14 (by omega), h 15 (by omega), h 16 (by omega)⟩
    · have := h o (by omega)
      unfold mindFn at this
      rw [if_pos ho] at this
      exact this
    · have := h (5 + f) (by omega)
      unfold mindFn at this
      rw [if_neg (by omega), if_pos (by omega), Nat.add_sub_cancel_left] at this
      exact this
theorem mindFn_X (M : XM) (c : Nat) : MindX M c (mindFn M c) := mindX_iff.mpr fun _ _ => rfl
theorem x_copy {M : XM} {c0 c1 : Nat} (h0 : x_is3 c0) (h1 : x_is3 c1) (hn : c0 ≠ c1) : ∃ M2, FX3_copyFrom c0 c1 M = some M2 ∧ MindX M2 c0 (mindFn M c1) ∧ FrX c0 M M2 := by
  have ap : c0 + 2 < c1 ∨ c1 + 2 < c0 := by
    rcases h0 with rfl | rfl | rfl <;> rcases h1 with rfl | rfl | rfl <;> first | exact absurd rfl hn | decide
  have LB : ∀ (Mb : XM) (K : XM → Option XM) (d v k : Nat), v + d = 5 → d < k → FX3_copyFrom_L34 c0 c1 K k (nI v) (setX Mb (c0 + 1) (pt (Mb (c0 + 1)) (fun j => Mb (c1 + 1) j) 0 v)) = K (setX Mb (c0 + 1) (pt (Mb (c0 + 1)) (fun j => Mb (c1 + 1) j) 0 5)) := by
    intro Mb K d
    induction d with
    | zero =>
      intro v k hv hk
      obtain ⟨k, rfl⟩ : ∃ z, k = z + 1 := ⟨k - 1, by omega⟩
      have e : v = 5 := by omega
      subst e
      rw [FX3_copyFrom_L34, if_pos (by decide)]
    | succ d ih =>
      intro v k hv hk
      obtain ⟨k, rfl⟩ : ∃ z, k = z + 1 := ⟨k - 1, by omega⟩
      rw [FX3_copyFrom_L34, if_neg (show ¬ (5 : Int32) ≤ nI v from nI_ge (b := 5) (by omega) (by decide)), at_ok (by rw [len3_1 h1]; omega), bo_s, put_ok (by rw [len3_1 h0]; omega), bo_s, nI_1, setX_n _ _ (by omega), upd2_setX, setX_setX, setX_c]
      have e := pt_s (Mb (c0 + 1)) (fun j => Mb (c1 + 1) j) 0 v rfl
      rw [Nat.zero_add] at e
      rw [e]
      exact ih (v + 1) k (by omega) (by omega)
  have LR : ∀ (Mb : XM) (K : XM → Option XM) (d v k : Nat), v + d = 8 → d < k → FX3_copyFrom_L63 c0 c1 K k (nI v) (setX Mb (c0 + 2) (pt (Mb (c0 + 2)) (fun j => Mb (c1 + 2) j) 0 v)) = K (setX Mb (c0 + 2) (pt (Mb (c0 + 2)) (fun j => Mb (c1 + 2) j) 0 8)) := by
    intro Mb K d
    induction d with
    | zero =>
      intro v k hv hk
      obtain ⟨k, rfl⟩ : ∃ z, k = z + 1 := ⟨k - 1, by omega⟩
      have e : v = 8 := by omega
      subst e
      rw [FX3_copyFrom_L63, if_pos (by decide)]
    | succ d ih =>
      intro v k hv hk
      obtain ⟨k, rfl⟩ : ∃ z, k = z + 1 := ⟨k - 1, by omega⟩
      rw [FX3_copyFrom_L63, if_neg (show ¬ (8 : Int32) ≤ nI v from nI_ge (b := 8) (by omega) (by decide)), at_ok (by rw [len3_2 h1]; omega), bo_s, put_ok (by rw [len3_2 h0]; omega), bo_s, nI_1, setX_n _ _ (by omega), upd2_setX, setX_setX, setX_c]
      have e := pt_s (Mb (c0 + 2)) (fun j => Mb (c1 + 2) j) 0 v rfl
      rw [Nat.zero_add] at e
      rw [e]
      exact ih (v + 1) k (by omega) (by omega)
  obtain ⟨Ma, eMa, ha⟩ : ∃ Ma : XM, Ma = (upd2 (upd2 (upd2 (upd2 M c0 2 (M c1 2)) c0 3 (upd2 M c0 2 (M c1 2) c1 3)) c0 4 (upd2 (upd2 M c0 2 (M c1 2)) c0 3 (upd2 M c0 2 (M c1 2) c1 3) c1 4)) c0 5 (upd2 (upd2 (upd2 M c0 2 (M c1 2)) c0 3 (upd2 M c0 2 (M c1 2) c1 3)) c0 4 (upd2 (upd2 M c0 2 (M c1 2)) c0 3 (upd2 M c0 2 (M c1 2) c1 3) c1 4) c1 5)) ∧ (∀ a, a ≠ c0 → Ma a = M a) ∧ Ma c0 2 = M c1 2 ∧ Ma c0 3 = M c1 3 ∧ Ma c0 4 = M c1 4 ∧ Ma c0 5 = M c1 5 := by
    refine ⟨_, rfl, fun a h => ?_, ?_, ?_, ?_, ?_⟩
    · rw [upd2_n _ _ _ h, upd2_n _ _ _ h, upd2_n _ _ _ h, upd2_n _ _ _ h]
    all_goals simp [upd2_at, hn, Ne.symm hn]
  obtain ⟨ho, a2, a3, a4, a5⟩ := ha
  have e1 := LB Ma (fun (M_1 : XM) => FX3_copyFrom_L63 c0 c1 (fun (M_2 : XM) => some M_2) fuelN 0 M_1) 5 0 fuelN rfl (show 5 < 100000 by omega)
  rw [pt_0, setX_self] at e1
  obtain ⟨Mb, eMb⟩ : ∃ Mb, Mb = setX Ma (c0 + 1) (pt (Ma (c0 + 1)) (fun j => Ma (c1 + 1) j) 0 5) := ⟨_, rfl⟩
  rw [← eMb] at e1
  have e2 := LR Mb (fun (M_2 : XM) => some M_2) 8 0 fuelN rfl (show 8 < 100000 by omega)
  rw [pt_0, setX_self] at e2
  have hF : FX3_copyFrom c0 c1 M = some (setX Mb (c0 + 2) (pt (Mb (c0 + 2)) (fun j => Mb (c1 + 2) j) 0 8)) := by
    unfold FX3_copyFrom
    rw [← eMa]
    exact e1.trans e2
  refine ⟨_, hF, ?_, ?_⟩
  · refine ⟨fun o ho2 => ?_, fun f hf => ?_, ?_, ?_, ?_, ?_⟩
    · rw [setX_n _ _ (by omega), eMb, setX_c]
      have := pt_in (g := Ma (c0 + 1)) (f := fun j => Ma (c1 + 1) j) (a := 0) ho2
      rw [Nat.zero_add] at this
      rw [this, ho _ (by omega)]
      unfold mindFn
      rw [if_pos ho2]
    · rw [setX_c]
      have := pt_in (g := Mb (c0 + 2)) (f := fun j => Mb (c1 + 2) j) (a := 0) hf
      rw [Nat.zero_add] at this
      rw [this, eMb, setX_n _ _ (by omega), ho _ (by omega)]
      unfold mindFn
      rw [if_neg (by omega), if_pos (by omega), Nat.add_sub_cancel_left]
    all_goals rw [setX_n _ _ (by omega), eMb, setX_n _ _ (by omega)]
    · exact a2
    · exact a3
    · exact a4
    · exact a5
  · intro a h1 h2 h3
    rw [setX_n _ _ h3, eMb, setX_n _ _ h2, ho a h1]
