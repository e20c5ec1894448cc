/-! ===== the shelf, the past: a ring here, a row that shifts there ===== -/
theorem mul_n (a b : Nat) : nI a * nI b = nI (a * b) := pk_mul a b
theorem apart36 {c s : Nat} (hc : x_is3 c) (hs : x_is6 s) : c + 2 < s ∧ x_len (s + 1) ≤ 340 := by
  refine ⟨?_, x_len_le _⟩
  rcases hc with rfl | rfl | rfl <;> rcases hs with rfl | rfl <;> decide
theorem x_store {M : XM} {s c p : Nat} (hs : x_is6 s) (hc : x_is3 c) (hp : 17 * p + 17 ≤ x_len (s + 1)) : FX6_store s (nI p) c M = some (setX M (s + 1) (pt (M (s + 1)) (mindFn M c) (17 * p) 17)) := by
  obtain ⟨ap, l340⟩ := apart36 hc hs
  have b3 : nI p * 17 = nI (17 * p) := by rw [Nat.mul_comm]; exact mul_n p 17
  have f1 : ∀ v, v < 5 → M (c + 1) v = mindFn M c v := fun v hv => by unfold mindFn; rw [if_pos hv]
  have f2 : ∀ v, v < 8 → M (c + 2) v = mindFn M c (5 + v) := fun v hv => by unfold mindFn; rw [if_neg (by omega), if_pos (by omega), Nat.add_sub_cancel_left]
  have L1 : ∀ (K : XM → Option XM) (d v k : Nat), v + d = 5 → d < k → FX6_store_L8 s c (nI (17 * p)) K k (nI v) (setX M (s + 1) (pt (M (s + 1)) (mindFn M c) (17 * p) v)) = K (setX M (s + 1) (pt (M (s + 1)) (mindFn M c) (17 * p) 5)) := by
    intro K d
    induction d with
    | zero =>
      intro v k hv hk
      obtain ⟨k, rfl⟩ : ∃ z, k = z + 1 := ⟨k - 1, by omega⟩
      have e : v = 5 := by omega
      subst e
      rw [FX6_store_L8, if_pos (by decide)]
    | succ d ih =>
      intro v k hv hk
      obtain ⟨k, rfl⟩ : ∃ z, k = z + 1 := ⟨k - 1, by omega⟩
      rw [FX6_store_L8, if_neg (show ¬ (5 : Int32) ≤ nI v from nI_ge (b := 5) (by omega) (by decide)), at_ok (by rw [len3_1 hc]; omega), bo_s, add_n, put_ok (by omega), bo_s, nI_1, setX_n _ _ (by omega), upd2_setX, setX_setX, setX_c, pt_s _ _ _ _ (f1 v (by omega))]
      exact ih (v + 1) k (by omega) (by omega)
  have L2 : ∀ (K : XM → Option XM) (d v k : Nat), v + d = 8 → d < k → FX6_store_L43 s c (nI (17 * p)) K k (nI v) (setX M (s + 1) (pt (M (s + 1)) (mindFn M c) (17 * p) (5 + v))) = K (setX M (s + 1) (pt (M (s + 1)) (mindFn M c) (17 * p) 13)) := by
    intro K d
    induction d with
    | zero =>
      intro v k hv hk
      obtain ⟨k, rfl⟩ : ∃ z, k = z + 1 := ⟨k - 1, by omega⟩
      have e : v = 8 := by omega
      subst e
      rw [FX6_store_L43, if_pos (by decide)]
    | succ d ih =>
      intro v k hv hk
      obtain ⟨k, rfl⟩ : ∃ z, k = z + 1 := ⟨k - 1, by omega⟩
      have ei : nI (17 * p) + 5 + nI v = nI (17 * p + (5 + v)) := by
        have e1 : nI (17 * p) + 5 = nI (17 * p + 5) := add_n (17 * p) 5
        rw [e1, add_n, Nat.add_assoc]
      rw [FX6_store_L43, if_neg (show ¬ (8 : Int32) ≤ nI v from nI_ge (b := 8) (by omega) (by decide)), at_ok (by rw [len3_2 hc]; omega), bo_s, ei, put_ok (by omega), bo_s, nI_1, setX_n _ _ (by omega), upd2_setX, setX_setX, setX_c, pt_s _ _ _ _ (f2 v (by omega))]
      exact ih (v + 1) k (by omega) (by omega)
  have e1 := L1 (fun (M_1 : XM) => FX6_store_L43 s c (nI (17 * p)) (fun (M_2 : XM) => bo (FX7_put (s + 1) (nI (17 * p) + 13) (M_2 c 2) M_2) (fun (M_3 : XM) => bo (FX7_put (s + 1) (nI (17 * p) + 14) (M_3 c 3) M_3) (fun (M_4 : XM) => bo (FX7_put (s + 1) (nI (17 * p) + 15) (M_4 c 4) M_4) (fun (M_5 : XM) => bo (FX7_put (s + 1) (nI (17 * p) + 16) (M_5 c 5) M_5) (fun (M_6 : XM) => some M_6))))) fuelN 0 M_1) 5 0 fuelN rfl (show 5 < 100000 by omega)
  rw [pt_0, setX_self] at e1
  have e2 := L2 (fun (M_2 : XM) => bo (FX7_put (s + 1) (nI (17 * p) + 13) (M_2 c 2) M_2) (fun (M_3 : XM) => bo (FX7_put (s + 1) (nI (17 * p) + 14) (M_3 c 3) M_3) (fun (M_4 : XM) => bo (FX7_put (s + 1) (nI (17 * p) + 15) (M_4 c 4) M_4) (fun (M_5 : XM) => bo (FX7_put (s + 1) (nI (17 * p) + 16) (M_5 c 5) M_5) (fun (M_6 : XM) => some M_6))))) 8 0 fuelN rfl (show 8 < 100000 by omega)
  unfold FX6_store
  rw [b3]
  refine e1.trans (e2.trans ?_)
  have g13 : nI (17 * p) + 13 = nI (17 * p + 13) := add_n (17 * p) 13
  have g14 : nI (17 * p) + 14 = nI (17 * p + 14) := add_n (17 * p) 14
  have g15 : nI (17 * p) + 15 = nI (17 * p + 15) := add_n (17 * p) 15
  have g16 : nI (17 * p) + 16 = nI (17 * p + 16) := add_n (17 * p) 16
  have hc1 : c ≠ s + 1 := by omega
  simp only [g13, g14, g15, g16]
  have q13 := pt_s (M (s + 1)) (mindFn M c) (17 * p) 13 (show M c 2 = mindFn M c 13 from rfl)
  have q14 := pt_s (M (s + 1)) (mindFn M c) (17 * p) 14 (show M c 3 = mindFn M c 14 from rfl)
  have q15 := pt_s (M (s + 1)) (mindFn M c) (17 * p) 15 (show M c 4 = mindFn M c 15 from rfl)
  have q16 := pt_s (M (s + 1)) (mindFn M c) (17 * p) 16 (show M c 5 = mindFn M c 16 from rfl)
  rw [put_ok (by omega), bo_s]
  simp only [upd2_setX, setX_setX, setX_c, setX_n _ _ hc1, q13]
  rw [put_ok (by omega), bo_s]
  simp only [upd2_setX, setX_setX, setX_c, setX_n _ _ hc1, q14]
  rw [put_ok (by omega), bo_s]
  simp only [upd2_setX, setX_setX, setX_c, setX_n _ _ hc1, q15]
  rw [put_ok (by omega), bo_s]
  simp only [upd2_setX, setX_setX, setX_c, setX_n _ _ hc1, q16]
theorem x_fetch {M : XM} {s c p : Nat} (hs : x_is6 s) (hc : x_is3 c) (hp : 17 * p + 17 ≤ x_len (s + 1)) : ∃ M2, FX6_fetch s (nI p) c M = some M2 ∧ MindX M2 c (fun k => M (s + 1) (17 * p + k)) ∧ FrX c M M2 := by
  obtain ⟨ap, l340⟩ := apart36 hc hs
  have b3 : nI p * 17 = nI (17 * p) := by rw [Nat.mul_comm]; exact mul_n p 17
  have L1 : ∀ (Mb : XM) (K : XM → Option XM) (d v k : Nat), v + d = 5 → d < k → FX6_fetch_L8 s c (nI (17 * p)) K k (nI v) (setX Mb (c + 1) (pt (Mb (c + 1)) (fun j => Mb (s + 1) (17 * p + j)) 0 v)) = K (setX Mb (c + 1) (pt (Mb (c + 1)) (fun j => Mb (s + 1) (17 * p + j)) 0 5)) := by
    intro Mb K d
    induction d with
    | zero =>
      intro v k hv hk
      obtain ⟨k, rfl⟩ : ∃ z, k = z + 1 := ⟨k - 1, by omega⟩
      have e : v = 5 := by omega
      subst e
      rw [FX6_fetch_L8, if_pos (by decide)]
    | succ d ih =>
      intro v k hv hk
      obtain ⟨k, rfl⟩ : ∃ z, k = z + 1 := ⟨k - 1, by omega⟩
      rw [FX6_fetch_L8, if_neg (show ¬ (5 : Int32) ≤ nI v from nI_ge (b := 5) (by omega) (by decide)), add_n, at_ok (by omega), bo_s, put_ok (by rw [len3_1 hc]; omega), bo_s, nI_1, setX_n _ _ (by omega), upd2_setX, setX_setX, setX_c]
      have e := pt_s (Mb (c + 1)) (fun j => Mb (s + 1) (17 * p + j)) 0 v rfl
      rw [Nat.zero_add] at e
      rw [e]
      exact ih (v + 1) k (by omega) (by omega)
  have L2 : ∀ (Mb : XM) (K : XM → Option XM) (d v k : Nat), v + d = 8 → d < k → FX6_fetch_L43 s c (nI (17 * p)) K k (nI v) (setX Mb (c + 2) (pt (Mb (c + 2)) (fun j => Mb (s + 1) (17 * p + (5 + j))) 0 v)) = K (setX Mb (c + 2) (pt (Mb (c + 2)) (fun j => Mb (s + 1) (17 * p + (5 + j))) 0 8)) := by
    intro Mb K d
    induction d with
    | zero =>
      intro v k hv hk
      obtain ⟨k, rfl⟩ : ∃ z, k = z + 1 := ⟨k - 1, by omega⟩
      have e : v = 8 := by omega
      subst e
      rw [FX6_fetch_L43, if_pos (by decide)]
    | succ d ih =>
      intro v k hv hk
      obtain ⟨k, rfl⟩ : ∃ z, k = z + 1 := ⟨k - 1, by omega⟩
      have ei : nI (17 * p) + 5 + nI v = nI (17 * p + (5 + v)) := by
        have e1 : nI (17 * p) + 5 = nI (17 * p + 5) := add_n (17 * p) 5
        rw [e1, add_n, Nat.add_assoc]
      rw [FX6_fetch_L43, if_neg (show ¬ (8 : Int32) ≤ nI v from nI_ge (b := 8) (by omega) (by decide)), ei, at_ok (by omega), bo_s, put_ok (by rw [len3_2 hc]; omega), bo_s, nI_1, setX_n _ _ (by omega), upd2_setX, setX_setX, setX_c]
      have e := pt_s (Mb (c + 2)) (fun j => Mb (s + 1) (17 * p + (5 + j))) 0 v rfl
      rw [Nat.zero_add] at e
      rw [e]
      exact ih (v + 1) k (by omega) (by omega)
  have g13 : nI (17 * p) + 13 = nI (17 * p + 13) := add_n (17 * p) 13
  have g14 : nI (17 * p) + 14 = nI (17 * p + 14) := add_n (17 * p) 14
  have g15 : nI (17 * p) + 15 = nI (17 * p + 15) := add_n (17 * p) 15
  have g16 : nI (17 * p) + 16 = nI (17 * p + 16) := add_n (17 * p) 16
  have e1 := L1 M (fun (M_1 : XM) => FX6_fetch_L43 s c (nI (17 * p)) (fun (M_2 : XM) => bo (FX7_at (s + 1) ((nI (17 * p)) + 13) M_2) (fun (r_3 : Int32) => bo (FX7_at (s + 1) ((nI (17 * p)) + 14) (upd2 M_2 c 2 r_3)) (fun (r_4 : Int32) => bo (FX7_at (s + 1) ((nI (17 * p)) + 15) (upd2 (upd2 M_2 c 2 r_3) c 3 r_4)) (fun (r_5 : Int32) => bo (FX7_at (s + 1) ((nI (17 * p)) + 16) (upd2 (upd2 (upd2 M_2 c 2 r_3) c 3 r_4) c 4 r_5)) (fun (r_6 : Int32) => some (upd2 (upd2 (upd2 (upd2 M_2 c 2 r_3) c 3 r_4) c 4 r_5) c 5 r_6)))))) fuelN 0 M_1) 5 0 fuelN rfl (show 5 < 100000 by omega)
  rw [pt_0, setX_self] at e1
  obtain ⟨Mb, eMb⟩ : ∃ Mb, Mb = setX M (c + 1) (pt (M (c + 1)) (fun j => M (s + 1) (17 * p + j)) 0 5) := ⟨_, rfl⟩
  rw [← eMb] at e1
  have e2 := L2 Mb (fun (M_2 : XM) => bo (FX7_at (s + 1) ((nI (17 * p)) + 13) M_2) (fun (r_3 : Int32) => bo (FX7_at (s + 1) ((nI (17 * p)) + 14) (upd2 M_2 c 2 r_3)) (fun (r_4 : Int32) => bo (FX7_at (s + 1) ((nI (17 * p)) + 15) (upd2 (upd2 M_2 c 2 r_3) c 3 r_4)) (fun (r_5 : Int32) => bo (FX7_at (s + 1) ((nI (17 * p)) + 16) (upd2 (upd2 (upd2 M_2 c 2 r_3) c 3 r_4) c 4 r_5)) (fun (r_6 : Int32) => some (upd2 (upd2 (upd2 (upd2 M_2 c 2 r_3) c 3 r_4) c 4 r_5) c 5 r_6)))))) 8 0 fuelN rfl (show 8 < 100000 by omega)
  rw [pt_0, setX_self] at e2
  obtain ⟨Md, eMd⟩ : ∃ Md, Md = setX Mb (c + 2) (pt (Mb (c + 2)) (fun j => Mb (s + 1) (17 * p + (5 + j))) 0 8) := ⟨_, rfl⟩
  rw [← eMd] at e2
  have sMd : Md (s + 1) = M (s + 1) := by rw [eMd, setX_n _ _ (by omega), eMb, setX_n _ _ (by omega)]
  have hF : FX6_fetch s (nI p) c M = some (upd2 (upd2 (upd2 (upd2 Md c 2 (M (s + 1) (17 * p + 13))) c 3 (M (s + 1) (17 * p + 14))) c 4 (M (s + 1) (17 * p + 15))) c 5 (M (s + 1) (17 * p + 16))) := by
    unfold FX6_fetch
    rw [b3]
    refine e1.trans (e2.trans ?_)
    have hc1 : s + 1 ≠ c := by omega
    simp only [g13, g14, g15, g16]
    rw [at_ok (by omega), bo_s, at_ok (by omega), bo_s, at_ok (by omega), bo_s, at_ok (by omega), bo_s]
    simp only [upd2_n _ _ _ hc1, sMd]
  have s1 : (s + 1) ≠ c + 1 := by omega
  refine ⟨_, hF, ⟨fun o ho => ?_, fun f hf => ?_, ?_, ?_, ?_, ?_⟩, fun a h1 h2 h3 => ?_⟩
  · rw [upd2_n _ _ _ (by omega), upd2_n _ _ _ (by omega), upd2_n _ _ _ (by omega), upd2_n _ _ _ (by omega), eMd, setX_n _ _ (by omega), eMb, setX_c]
    have := pt_in (g := M (c + 1)) (f := fun j => M (s + 1) (17 * p + j)) (a := 0) ho
    rw [Nat.zero_add] at this
    exact this
  · rw [upd2_n _ _ _ (by omega), upd2_n _ _ _ (by omega), upd2_n _ _ _ (by omega), upd2_n _ _ _ (by omega), eMd, setX_c]
    have := pt_in (g := Mb (c + 2)) (f := fun j => Mb (s + 1) (17 * p + (5 + j))) (a := 0) hf
    rw [Nat.zero_add] at this
    rw [this, eMb, setX_n _ _ s1]
  · simp [upd2_at]
  · simp [upd2_at]
  · simp [upd2_at]
  · simp [upd2_at]
  · rw [upd2_n _ _ _ h1, upd2_n _ _ _ h1, upd2_n _ _ _ h1, upd2_n _ _ _ h1, eMd, setX_n _ _ h3, eMb, setX_n _ _ h2]
