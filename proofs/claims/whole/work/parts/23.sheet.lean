/-! ===== a sheet is read: both loops are sGo ===== -/
theorem fact_o {g : Nat → Int32} {kk no nf hh f : Nat} (C : CityI g kk no nf hh) (hf : f < nf) : ∃ o, o < no ∧ o < 5 ∧ f < 8 ∧ g (10 + f) = nI o ∧ ix (g (10 + f)) = o := by
  obtain ⟨-, -, -, -, -, hno, hnf, -, -, hF⟩ := C
  obtain ⟨⟨o, ho, eo⟩, -⟩ := hF f hf
  exact ⟨o, ho, by omega, by omega, eo, by rw [eo]; exact ix_n (by omega)⟩
theorem sRead_hi {g by_ u : Nat → Int32} {kk no nf hh f k : Nat} (C : CityI g kk no nf hh) (hf : f < nf) (hk : 13 ≤ k) : sRead g by_ u f k = u k := by
  obtain ⟨o, -, ho, h8, -, io⟩ := fact_o C hf
  unfold sRead
  rw [upd_at, if_neg (by omega), upd_at, if_neg (by omega)]
theorem sRead_rd {g by_ u : Nat → Int32} {kk no nf hh f N : Nat} (C : CityI g kk no nf hh) (hf : f < nf) (R : RdI u N) : RdI (sRead g by_ u f) (N + 1) := by
  obtain ⟨o, -, ho, h8, -, io⟩ := fact_o C hf
  intro j hj
  obtain ⟨q, hq, eq⟩ := R j hj
  unfold sRead
  rw [upd_at]
  by_cases h : 5 + j = 5 + f
  · rw [if_pos h]
    have e : j = f := by omega
    subst e
    exact ⟨q + 1, by omega, by rw [eq]; exact nI_1 q⟩
  · rw [if_neg h, upd_at, if_neg (by omega)]
    exact ⟨q, by omega, eq⟩
theorem sAfter_I {g by_ u : Nat → Int32} {kk no nf hh f : Nat} (C : CityI g kk no nf hh) (hf : f < nf) (B : BelI u) : ∃ b, b ≤ 20 ∧ sAfter g by_ u f = nI b := by
  obtain ⟨o, -, ho, h8, -, io⟩ := fact_o C hf
  unfold sAfter
  by_cases h : g (26 + f) = 9 ∨ g (34 + f) ≤ u (ix (g (26 + f)))
  · rw [if_pos h]; exact sBound_I _
  · rw [if_neg h, io]; exact B o ho
theorem sRead_bel {g by_ u : Nat → Int32} {kk no nf hh f : Nat} (C : CityI g kk no nf hh) (hf : f < nf) (B : BelI u) : BelI (sRead g by_ u f) := by
  obtain ⟨o, -, ho, h8, -, io⟩ := fact_o C hf
  intro j hj
  unfold sRead
  rw [upd_at, if_neg (by omega), upd_at]
  by_cases h : j = ix (g (10 + f))
  · rw [if_pos h]; exact sAfter_I C hf B
  · rw [if_neg h]; exact B j hj
theorem sGo_inv {g by_ : Nat → Int32} {sheet : Int32} {q : Int32 × (Nat → Int32)} {kk no nf hh N : Nat} (C : CityI g kk no nf hh) (R : RdI q.2 N) : ∀ n, n ≤ nf → RdI (sGo g by_ sheet q n).2 (N + n) ∧ (BelI q.2 → BelI (sGo g by_ sheet q n).2) ∧ ∀ k, 13 ≤ k → (sGo g by_ sheet q n).2 k = q.2 k := by
  intro n
  induction n with
  | zero => exact fun _ => ⟨R, fun h => h, fun _ _ => rfl⟩
  | succ n ih =>
    intro hn
    obtain ⟨i1, i2, i3⟩ := ih (by omega)
    show RdI (sStep g by_ sheet n (sGo g by_ sheet q n)).2 _ ∧ (BelI q.2 → BelI (sStep g by_ sheet n (sGo g by_ sheet q n)).2) ∧ ∀ k, 13 ≤ k → (sStep g by_ sheet n (sGo g by_ sheet q n)).2 k = q.2 k
    unfold sStep
    by_cases h : sHas sheet n
    · rw [if_pos h]
      exact ⟨sRead_rd C (by omega) i1, fun b => sRead_bel C (by omega) (i2 b), fun k hk => (sRead_hi C (by omega) hk).trans (i3 k hk)⟩
    · rw [if_neg h]
      exact ⟨fun j hj => by obtain ⟨a, b, c⟩ := i1 j hj; exact ⟨a, by omega, c⟩, i2, i3⟩
def SpI (M0 M : XM) (c : Nat) (q : Int32 × (Nat → Int32)) : Prop := BelX M c q.2 ∧ RdX M c q.2 ∧ M c 5 = q.1 ∧ M c 2 = M0 c 2 ∧ M c 3 = M0 c 3 ∧ M c 4 = M0 c 4 ∧ FrX c M0 M
theorem CityX_fr {M0 M : XM} {c d nf : Nat} {g by_ : Nat → Int32} (hc : x_is3 c) (hd : x_is1 d) (F : FrX c M0 M) (X : CityX M0 d g nf by_) : CityX M d g nf by_ := by
  obtain ⟨a0, a1⟩ := apart31 hc hd
  unfold CityX at X ⊢
  rw [F d (by omega) (by omega) (by omega), F (d + 2) (by omega) (by omega) (by omega), F (d + 3) (by omega) (by omega) (by omega), F (d + 4) (by omega) (by omega) (by omega), F (d + 5) (by omega) (by omega) (by omega), F (d + 6) (by omega) (by omega) (by omega)]
  exact X
theorem conv01 (g by_ u : Nat → Int32) (f : Nat) : sConv g by_ u f = 0 ∨ sConv g by_ u f = 1 := by
  unfold sConv
  by_cases h1 : g 3 ≤ u (ix (g (10 + f)))
  · rw [if_pos h1]; exact Or.inl rfl
  · rw [if_neg h1]
    by_cases h2 : sAfter g by_ u f < g 3
    · rw [if_pos h2]; exact Or.inl rfl
    · rw [if_neg h2]; exact Or.inr rfl
theorem x_spend_loop {M0 : XM} {c d : Nat} {g by_ : Nat → Int32} {sheet : Int32} {q0 : Int32 × (Nat → Int32)} {kk no nf hh N : Nat} (hc : x_is3 c) (hd : x_is1 d) (C : CityI g kk no nf hh) (X : CityX M0 d g nf by_) (R : RdI q0.2 N) (hN : N + 8 < 2 ^ 30) (K : XM → Option XM) : ∀ (n i k : Nat) (M : XM), i + n = nf → n < k → SpI M0 M c (sGo g by_ sheet q0 i) → ∃ M2, SpI M0 M2 c (sGo g by_ sheet q0 nf) ∧ FX3_spendNight_L7 c d sheet K k (nI i) M = K M2 := by
  have C0 := C
  obtain ⟨-, -, hg2, -, -, -, hnf, -, -, -⟩ := C
  have X2 : ∀ M, FrX c M0 M → M d 2 = nI nf := by
    intro M F
    rw [(CityX_fr hc hd F X).2.2.1]
    exact hg2
  intro n
  induction n with
  | zero =>
    intro i k M hi hk I
    obtain ⟨k, rfl⟩ : ∃ z, k = z + 1 := ⟨k - 1, by omega⟩
    have e : i = nf := by omega
    subst e
    refine ⟨M, I, ?_⟩
    rw [FX3_spendNight_L7, X2 M I.2.2.2.2.2.2, if_pos (nI_le (Nat.le_refl _) (by omega))]
  | succ n ih =>
    intro i k M hi hk I
    obtain ⟨k, rfl⟩ : ∃ z, k = z + 1 := ⟨k - 1, by omega⟩
    have hin : i < nf := by omega
    obtain ⟨B, Rx, I5, I2, I3, I4, F⟩ := I
    have XM := CityX_fr hc hd F X
    obtain ⟨RI, -, -⟩ := sGo_inv (by_ := by_) (sheet := sheet) C0 R i (by omega)
    obtain ⟨ap0, ap1⟩ := apart31 hc hd
    rw [FX3_spendNight_L7, X2 M F, if_neg (nI_ge hin (by omega)), has_x _ (by omega), bo_s, jn_s, nI_1]
    by_cases hs : sHas sheet i
    · rw [if_pos hs, if_neg (by decide), x_read hc hd C0 XM B Rx RI (by omega) hin, bd_s]
      obtain ⟨o, -, ho, h8, eo, io⟩ := fact_o C0 hin
      -- the memory behind it
      have key : ∀ v : Int32, v = (sStep g by_ sheet i (sGo g by_ sheet q0 i)).1 → ∀ M2 : Nat → Nat → Int32, (∀ a, a ≠ c → M2 a = upd2 (upd2 M (c + 1) (ix (g (10 + i))) (sAfter g by_ (sGo g by_ sheet q0 i).2 i)) (c + 2) i ((sGo g by_ sheet q0 i).2 (5 + i) + 1) a) → M2 c 5 = v → (∀ j, j ≠ 5 → M2 c j = M c j) → ∃ M3, SpI M0 M3 c (sGo g by_ sheet q0 nf) ∧ FX3_spendNight_L7 c d sheet K k (nI (i + 1)) M2 = K M3 := by
        intro v hv M2 h1 h2 h3
        refine ih (i + 1) k M2 (by omega) (by omega) ?_
        have e2 : (sGo g by_ sheet q0 (i + 1)).2 = sRead g by_ (sGo g by_ sheet q0 i).2 i := by
          show (sStep g by_ sheet i (sGo g by_ sheet q0 i)).2 = _
          unfold sStep
          rw [if_pos hs]
        refine ⟨?_, ?_, ?_, ?_, ?_, ?_, ?_⟩
        · intro j hj
          rw [h1 _ (by omega), e2]
          unfold sRead
          rw [upd2_n _ _ _ (show c + 1 ≠ c + 2 by omega), upd2_at, upd_at, if_neg (show ¬ j = 5 + i by omega), upd_at]
          by_cases hjo : j = ix (g (10 + i))
          · rw [if_pos ⟨rfl, hjo⟩, if_pos hjo]
          · rw [if_neg (fun z => hjo z.2), if_neg hjo]
            exact B j hj
        · intro j hj
          rw [h1 _ (by omega), e2]
          unfold sRead
          rw [upd2_at, upd_at]
          by_cases hji : j = i
          · rw [if_pos ⟨rfl, hji⟩, if_pos (by omega)]
          · rw [if_neg (fun z => hji z.2), if_neg (by omega), upd2_at, if_neg (by omega), upd_at, if_neg (by omega)]
            exact Rx j hj
        · rw [h2, hv]; rfl
        · rw [h3 _ (by decide)]; exact I2
        · rw [h3 _ (by decide)]; exact I3
        · rw [h3 _ (by decide)]; exact I4
        · intro a h4 h5 h6
          rw [h1 a h4, upd2_n _ _ _ h6, upd2_n _ _ _ h5]
          exact F a h4 h5 h6
      have m5 : upd2 (upd2 M (c + 1) (ix (g (10 + i))) (sAfter g by_ (sGo g by_ sheet q0 i).2 i)) (c + 2) i ((sGo g by_ sheet q0 i).2 (5 + i) + 1) c = M c := by
        rw [upd2_n _ _ _ (by omega), upd2_n _ _ _ (by omega)]
      rw [m5, I5]
      have v1 : (sStep g by_ sheet i (sGo g by_ sheet q0 i)).1 = if sConv g by_ (sGo g by_ sheet q0 i).2 i = 0 then (sGo g by_ sheet q0 i).1 else if (sGo g by_ sheet q0 i).1 = -1 then nI i else (sGo g by_ sheet q0 i).1 := by
        unfold sStep
        rw [if_pos hs]
      by_cases z1 : sConv g by_ (sGo g by_ sheet q0 i).2 i = 0
      · rw [if_pos z1]
        exact key _ rfl _ (fun a _ => rfl) (by rw [m5, I5, v1, if_pos z1]) (fun j _ => by rw [m5])
      · rw [if_neg z1]
        by_cases z2 : (sGo g by_ sheet q0 i).1 = -1
        · rw [if_pos z2]
          refine key _ rfl _ (fun a ha => upd2_n _ _ _ ha) ?_ (fun j hj => by rw [upd2_at, if_neg (fun z => hj z.2), m5])
          rw [upd2_at, if_pos ⟨rfl, rfl⟩, v1, if_neg z1, if_pos z2]
        · rw [if_neg z2]
          exact key _ rfl _ (fun a _ => rfl) (by rw [m5, I5, v1, if_neg z1, if_neg z2]) (fun j _ => by rw [m5])
    · rw [if_neg hs, if_pos rfl]
      refine ih (i + 1) k M (by omega) (by omega) ?_
      have e : sGo g by_ sheet q0 (i + 1) = sGo g by_ sheet q0 i := by
        show sStep g by_ sheet i (sGo g by_ sheet q0 i) = _
        unfold sStep
        rw [if_neg hs]
      rw [e]
      exact ⟨B, Rx, I5, I2, I3, I4, F⟩
theorem x_spend {M : XM} {c d : Nat} {g by_ u : Nat → Int32} {sheet : Int32} {kk no nf hh N : Nat} (hc : x_is3 c) (hd : x_is1 d) (C : CityI g kk no nf hh) (X : CityX M d g nf by_) (B : BelX M c u) (Rx : RdX M c u) (R : RdI u N) (hN : N + 8 < 2 ^ 30) : ∃ M2, FX3_spendNight c d sheet M = some M2 ∧ BelX M2 c (sGo g by_ sheet (-1, u) nf).2 ∧ RdX M2 c (sGo g by_ sheet (-1, u) nf).2 ∧ M2 c 5 = (sGo g by_ sheet (-1, u) nf).1 ∧ M2 c 2 = M c 2 ∧ M2 c 3 = M c 3 + 1 ∧ M2 c 4 = M c 4 ∧ FrX c M M2 := by
  obtain ⟨ap0, ap1⟩ := apart31 hc hd
  have h8 : nf ≤ 8 := C.2.2.2.2.2.2.1
  have F0 : FrX c M (upd2 M c 5 (-1)) := fun a h _ _ => upd2_n _ _ _ h
  obtain ⟨M2, ⟨b1, b2, b3, b4, b5, b6, b7⟩, e⟩ := x_spend_loop (M0 := upd2 M c 5 (-1)) (q0 := (-1, u)) (sheet := sheet) hc hd C (CityX_fr hc hd F0 X) R hN (fun (M_1 : XM) => some (upd2 M_1 c 3 ((M_1 c 3) + 1))) nf 0 fuelN (upd2 M c 5 (-1)) (by omega) (show nf < 100000 by omega) ⟨fun o ho => by rw [upd2_n _ _ _ (show c + 1 ≠ c by omega)]; exact B o ho, fun o ho => by rw [upd2_n _ _ _ (show c + 2 ≠ c by omega)]; exact Rx o ho, by rw [upd2_at, if_pos ⟨rfl, rfl⟩]; rfl, rfl, rfl, rfl, fun a _ _ _ => rfl⟩
  refine ⟨upd2 M2 c 3 (M2 c 3 + 1), e, ?_, ?_, ?_, ?_, ?_, ?_, ?_⟩
  · intro o ho; rw [upd2_n _ _ _ (by omega)]; exact b1 o ho
  · intro o ho; rw [upd2_n _ _ _ (by omega)]; exact b2 o ho
  · rw [upd2_at, if_neg (by omega), b3]
  · rw [upd2_at, if_neg (by omega), b4, upd2_at, if_neg (by omega)]
  · rw [upd2_at, if_pos ⟨rfl, rfl⟩, b5, upd2_at, if_neg (by omega)]
  · rw [upd2_at, if_neg (by omega), b6, upd2_at, if_neg (by omega)]
  · intro a h1 h2 h3
    rw [upd2_n _ _ _ h1, b7 a h1 h2 h3, upd2_n _ _ _ h1]
theorem by_m {M : MM} {f : Nat} (h : f < 8) : FX8_byOf (nI f) M = some (byG (M.1 1) f) := by
  unfold FX8_byOf
  have e18 : (18 : Int32) + nI f = nI (18 + f) := add_n 18 f
  rw [e18, if_pos (inb_n (by omega) (by decide)), ix_n (by omega)]
  rfl
theorem m_sheet_loop {M : MM} {c : Nat} {sheet : Int32} {q0 : Int32 × (Nat → Int32)} {kk no nf hh N : Nat} (hc : mRow c) (C : CityI (M.1 1) kk no nf hh) (R : RdI q0.2 N) (hN : N + 8 < 2 ^ 30) (K : Int32 → MM → Option (Int32 × MM)) : ∀ (n i k : Nat), i + n = nf → n < k → FX8_readsSheet_L5 c sheet K k (sGo (M.1 1) (byG (M.1 1)) sheet q0 i).1 (nI i) (setR M c (sGo (M.1 1) (byG (M.1 1)) sheet q0 i).2) = K (sGo (M.1 1) (byG (M.1 1)) sheet q0 nf).1 (setR M c (sGo (M.1 1) (byG (M.1 1)) sheet q0 nf).2) := by
  have C0 := C
  obtain ⟨-, -, hg2, -, -, -, hnf, -, -, -⟩ := C
  have c1 : (1 : Nat) ≠ c := by rcases hc with rfl | rfl | rfl <;> decide
  have s1 : ∀ r, (setR M c r).1 1 = M.1 1 := fun r => setR_n _ _ c1
  intro n
  induction n with
  | zero =>
    intro i k hi hk
    obtain ⟨k, rfl⟩ : ∃ z, k = z + 1 := ⟨k - 1, by omega⟩
    have e : i = nf := by omega
    subst e
    rw [FX8_readsSheet_L5, s1, hg2, if_pos (nI_le (Nat.le_refl _) (by omega))]
  | succ n ih =>
    intro i k hi hk
    obtain ⟨k, rfl⟩ : ∃ z, k = z + 1 := ⟨k - 1, by omega⟩
    have hin : i < nf := by omega
    obtain ⟨RI, -, -⟩ := sGo_inv (by_ := byG (M.1 1)) (sheet := sheet) C0 R i (by omega)
    have st : sGo (M.1 1) (byG (M.1 1)) sheet q0 (i + 1) = sStep (M.1 1) (byG (M.1 1)) sheet i (sGo (M.1 1) (byG (M.1 1)) sheet q0 i) := rfl
    rw [FX8_readsSheet_L5, s1, hg2, if_neg (nI_ge hin (by omega)), has_m, bo_s, jn_s, nI_1]
    have I := ih (i + 1) k (by omega) (by omega)
    rw [st] at I
    unfold sStep at I
    by_cases hs : sHas sheet i
    · rw [if_pos hs] at I
      have e1 := m_reads (M := setR M c (sGo (M.1 1) (byG (M.1 1)) sheet q0 i).2) (by_ := byG (M.1 1)) hc (by rw [s1]; exact C0) (setR_c _ _ _) RI (by omega) hin
      rw [s1, setR_setR] at e1
      rw [if_pos hs, if_neg (by decide), by_m (by omega), bo_s, s1, e1, bd_s, jn_s, jn_s]
      by_cases z1 : sConv (M.1 1) (byG (M.1 1)) (sGo (M.1 1) (byG (M.1 1)) sheet q0 i).2 i = 0
      · rw [if_pos z1]
        rw [if_pos z1] at I
        exact I
      · rw [if_neg z1]
        rw [if_neg z1] at I
        by_cases z2 : (sGo (M.1 1) (byG (M.1 1)) sheet q0 i).1 = -1
        · rw [if_pos z2]
          rw [if_pos z2] at I
          exact I
        · rw [if_neg z2]
          rw [if_neg z2] at I
          exact I
    · rw [if_neg hs] at I
      rw [if_neg hs, if_pos rfl]
      exact I
theorem m_sheet {M : MM} {c : Nat} {u : Nat → Int32} {sheet : Int32} {kk no nf hh N : Nat} (hc : mRow c) (C : CityI (M.1 1) kk no nf hh) (eu : M.1 c = u) (R : RdI u N) (hN : N + 8 < 2 ^ 30) : FX8_readsSheet c sheet M = some ((sGo (M.1 1) (byG (M.1 1)) sheet (-1, u) nf).1, setR M c (sGo (M.1 1) (byG (M.1 1)) sheet (-1, u) nf).2) := by
  have h8 : nf ≤ 8 := C.2.2.2.2.2.2.1
  have h := m_sheet_loop (sheet := sheet) (q0 := (-1, u)) hc C R hN (fun (k3_1 : Int32) (M_2 : MM) => some (k3_1, M_2)) nf 0 fuelN (by omega) (show nf < 100000 by omega)
  have e : setR M c u = M := by rw [← eu, setR_self]
  unfold FX8_readsSheet
  rw [show (sGo (M.1 1) (byG (M.1 1)) sheet (-1, u) 0).2 = u from rfl, e] at h
  exact h
