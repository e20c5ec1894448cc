/-! ===== the pure state: a city g (50 numbers) and a mind u (17 numbers), as the reference lays them; reading ===== -/
abbrev sHas (set : Int32) (f : Nat) : Prop := (set >>> (nI f &&& 31)) &&& 1 = 1
def sBound (v : Int32) : Int32 := if 0 ≤ v then (if v ≤ 20 then v else 20) else 0
def sAfter (g by_ u : Nat → Int32) (f : Nat) : Int32 := if g (26 + f) = 9 ∨ g (34 + f) ≤ u (ix (g (26 + f))) then sBound (u (ix (g (10 + f))) + by_ f / (1 + u (5 + f))) else u (ix (g (10 + f)))
def sRead (g by_ u : Nat → Int32) (f : Nat) : Nat → Int32 := upd (upd u (ix (g (10 + f))) (sAfter g by_ u f)) (5 + f) (u (5 + f) + 1)
def sConv (g by_ u : Nat → Int32) (f : Nat) : Int32 := if g 3 ≤ u (ix (g (10 + f))) then 0 else if sAfter g by_ u f < g 3 then 0 else 1
def sStep (g by_ : Nat → Int32) (sheet : Int32) (f : Nat) (q : Int32 × (Nat → Int32)) : Int32 × (Nat → Int32) := if sHas sheet f then (if sConv g by_ q.2 f = 0 then q.1 else if q.1 = -1 then nI f else q.1, sRead g by_ q.2 f) else q
def sGo (g by_ : Nat → Int32) (sheet : Int32) (q : Int32 × (Nat → Int32)) : Nat → Int32 × (Nat → Int32)
  | 0 => q
  | n + 1 => sStep g by_ sheet n (sGo g by_ sheet q n)
def byG (g : Nat → Int32) : Nat → Int32 := fun f => g (18 + f) - 9
def FactI (g : Nat → Int32) (no f : Nat) : Prop := (∃ o, o < no ∧ g (10 + f) = nI o) ∧ (∃ d, d ≤ 18 ∧ g (18 + f) = nI d) ∧ (g (26 + f) = 9 ∨ ∃ p, p < no ∧ g (26 + f) = nI p) ∧ (∃ v, v ≤ 20 ∧ g (34 + f) = nI v) ∧ ∃ c, c ≤ 9 ∧ g (42 + f) = nI c
def CityI (g : Nat → Int32) (kk no nf hh : Nat) : Prop := g 0 = nI kk ∧ g 1 = nI no ∧ g 2 = nI nf ∧ g 3 = nI hh ∧ kk ≤ 3 ∧ no ≤ 5 ∧ nf ≤ 8 ∧ hh ≤ 20 ∧ (no = 0 → nf = 0) ∧ ∀ f, f < nf → FactI g no f
def CityX (M : XM) (d : Nat) (g : Nat → Int32) (nf : Nat) (by_ : Nat → Int32) : Prop := M d 0 = g 0 ∧ M d 1 = g 1 ∧ M d 2 = g 2 ∧ M d 3 = g 3 ∧ ∀ f, f < nf → M (d + 2) f = g (10 + f) ∧ M (d + 3) f = by_ f ∧ M (d + 4) f = (if g (26 + f) = 9 then -1 else g (26 + f)) ∧ M (d + 5) f = g (34 + f) ∧ M (d + 6) f = g (42 + f)
def BelX (M : XM) (c : Nat) (u : Nat → Int32) : Prop := ∀ o, o < 5 → M (c + 1) o = u o
def RdX (M : XM) (c : Nat) (u : Nat → Int32) : Prop := ∀ f, f < 8 → M (c + 2) f = u (5 + f)
def MindX (M : XM) (c : Nat) (u : Nat → Int32) : Prop := BelX M c u ∧ RdX M c u ∧ M c 2 = u 13 ∧ M c 3 = u 14 ∧ M c 4 = u 15 ∧ M c 5 = u 16
def BelI (u : Nat → Int32) : Prop := ∀ o, o < 5 → ∃ b, b ≤ 20 ∧ u o = nI b
def RdI (u : Nat → Int32) (N : Nat) : Prop := ∀ f, f < 8 → ∃ q, q ≤ N ∧ u (5 + f) = nI q
def FrX (c : Nat) (M M2 : XM) : Prop := ∀ a, a ≠ c → a ≠ c + 1 → a ≠ c + 2 → M2 a = M a
-- lengths
theorem len3_1 {c : Nat} (h : x_is3 c) : x_len (c + 1) = 5 := by rcases h with rfl | rfl | rfl <;> rfl
theorem len3_2 {c : Nat} (h : x_is3 c) : x_len (c + 2) = 8 := by rcases h with rfl | rfl | rfl <;> rfl
theorem len1 {d : Nat} (h : x_is1 d) : x_len (d + 2) = 8 ∧ x_len (d + 3) = 8 ∧ x_len (d + 4) = 8 ∧ x_len (d + 5) = 8 ∧ x_len (d + 6) = 8 := by rcases h with rfl | rfl <;> exact ⟨rfl, rfl, rfl, rfl, rfl⟩
theorem apart31 {c d : Nat} (hc : x_is3 c) (hd : x_is1 d) : 3 ≤ d ∧ d + 6 < c := by rcases hc with rfl | rfl | rfl <;> rcases hd with rfl | rfl <;> decide
theorem sBound_I (v : Int32) : ∃ b, b ≤ 20 ∧ sBound v = nI b := by
  unfold sBound
  by_cases h : 0 ≤ v
  · rw [if_pos h]
    by_cases h2 : v ≤ 20
    · rw [if_pos h2]
      have h3 := i_le.mp h
      have h4 := i_le.mp h2
      have z : (0 : Int32).toInt = 0 := rfl
      have z2 : (20 : Int32).toInt = 20 := rfl
      obtain ⟨j, hj, e⟩ := i_nat (a := v) (n := 21) ⟨by omega, by omega⟩
      exact ⟨j, by omega, e⟩
    · rw [if_neg h2]; exact ⟨20, by omega, rfl⟩
  · rw [if_neg h]; exact ⟨0, by omega, rfl⟩
theorem clamp_eq (v : Int32) : (if 0 < (if v < 20 then v else 20) then (if v < 20 then v else 20) else 0) = sBound v := by
  unfold sBound
  have z : (0 : Int32).toInt = 0 := rfl
  have z2 : (20 : Int32).toInt = 20 := rfl
  by_cases h1 : v < 20
  · rw [if_pos h1]
    have g1 := i_lt.mp h1
    by_cases h2 : 0 < v
    · have g2 := i_lt.mp h2
      rw [if_pos h2, if_pos (i_le.mpr (by omega)), if_pos (i_le.mpr (by omega))]
    · have g2 : ¬ (0 : Int32).toInt < v.toInt := fun q => h2 (i_lt.mpr q)
      rw [if_neg h2]
      by_cases h3 : 0 ≤ v
      · have g3 := i_le.mp h3
        rw [if_pos h3, if_pos (i_le.mpr (by omega))]
        exact Int32.toInt_inj.mp (by omega)
      · rw [if_neg h3]
  · rw [if_neg h1]
    have g1 : ¬ v.toInt < (20 : Int32).toInt := fun q => h1 (i_lt.mpr q)
    rw [if_pos (by decide), if_pos (i_le.mpr (by omega))]
    by_cases h3 : v ≤ 20
    · have g3 := i_le.mp h3
      rw [if_pos h3]
      exact Int32.toInt_inj.mp (by omega)
    · rw [if_neg h3]
theorem bound_ok (v : Int32) : FX8_bound v = some (sBound v) := by
  unfold FX8_bound sBound
  by_cases h : 0 ≤ v
  · rw [if_pos h, if_pos h]
    by_cases h2 : v ≤ 20
    · rw [if_pos h2, if_pos h2]
    · rw [if_neg h2, if_neg h2]
  · rw [if_neg h, if_neg h]
theorem has_x (set : Int32) {f : Nat} (h : f < 31) : FX7_has set (nI f) = some (if sHas set f then 1 else 0) := by
  unfold FX7_has
  rw [if_neg (nI_pos (by omega)), if_neg (show ¬ (31 : Int32) ≤ nI f from nI_ge (a := f) (b := 31) h (by decide))]
  by_cases q : sHas set f
  · rw [if_pos q, if_pos q]
  · rw [if_neg q, if_neg q]
theorem has_m (set : Int32) (f : Nat) : FX8_has set (nI f) = some (if sHas set f then 1 else 0) := by
  unfold FX8_has
  by_cases q : sHas set f
  · rw [if_pos q, if_pos q]
  · rw [if_neg q, if_neg q]
theorem one_add (q : Nat) : 1 + nI q = nI (q + 1) := by
  have h := nI_add 1 q
  rw [Nat.add_comm q 1]
  exact h
theorem worn_ok (a : Int32) {q : Nat} (h : q < 2 ^ 30) : FX7_wornMove a (nI q) = some (a / (1 + nI q)) := by
  unfold FX7_wornMove
  rw [one_add]
  rw [if_neg (show ¬ nI (q + 1) ≤ 0 from nI_nle (by omega) (by omega)), if_neg (show ¬ nI (q + 1) = 0 from nI_ne0 (by omega) (by omega))]
theorem x_read {M : XM} {c d : Nat} {g by_ u : Nat → Int32} {kk no nf hh N f : Nat} (hc : x_is3 c) (hd : x_is1 d) (C : CityI g kk no nf hh) (X : CityX M d g nf by_) (B : BelX M c u) (R : RdX M c u) (rI : RdI u N) (hN : N < 2 ^ 30) (hf : f < nf) : FX3_readFact c d (nI f) M = some (sConv g by_ u f, upd2 (upd2 M (c + 1) (ix (g (10 + f))) (sAfter g by_ u f)) (c + 2) f (u (5 + f) + 1)) := by
  obtain ⟨-, -, -, hg3, -, hno, hnf, -, -, hF⟩ := C
  obtain ⟨-, -, -, x3, xF⟩ := X
  obtain ⟨xa, xb, xc, xd, -⟩ := xF f hf
  obtain ⟨⟨o, ho, eo⟩, -, hp, -, -⟩ := hF f hf
  obtain ⟨l2, l3, l4, l5, l6⟩ := len1 hd
  obtain ⟨ap0, ap1⟩ := apart31 hc hd
  obtain ⟨q, hq, eq⟩ := rI f (by omega)
  have a1 : FX7_at (d + 2) (nI f) M = some (nI o) := by rw [at_ok (by omega), xa, eo]
  have a2 : FX7_at (c + 1) (nI o) M = some (u o) := by rw [at_ok (by rw [len3_1 hc]; omega), B o (by omega)]
  have a3 : FX7_at (c + 2) (nI f) M = some (u (5 + f)) := by rw [at_ok (by rw [len3_2 hc]; omega), R f (by omega)]
  have a4 : FX7_at (d + 4) (nI f) M = some (if g (26 + f) = 9 then -1 else g (26 + f)) := by rw [at_ok (by omega), xc]
  have a5 : FX7_at (d + 3) (nI f) M = some (by_ f) := by rw [at_ok (by omega), xb]
  have a6 : FX7_at (d + 5) (nI f) M = some (g (34 + f)) := by rw [at_ok (by omega), xd]
  have aw : FX7_wornMove (by_ f) (u (5 + f)) = some (by_ f / (1 + u (5 + f))) := by rw [eq]; exact worn_ok _ (by omega)
  have fin : ∀ v : Int32, bo (FX7_put (c + 1) (nI o) v M) (fun M_6 => bo (FX7_put (c + 2) (nI f) (u (5 + f) + 1) M_6) (fun M_7 => if M_7 d 3 ≤ u o then some ((0 : Int32), M_7) else if v < M_7 d 3 then some (0, M_7) else some (1, M_7))) = some (if g 3 ≤ u o then 0 else if v < g 3 then 0 else 1, upd2 (upd2 M (c + 1) o v) (c + 2) f (u (5 + f) + 1)) := by
    intro v
    rw [put_ok (by rw [len3_1 hc]; omega), bo_s, put_ok (by rw [len3_2 hc]; omega), bo_s]
    have e3 : upd2 (upd2 M (c + 1) o v) (c + 2) f (u (5 + f) + 1) d 3 = g 3 := by
      rw [upd2_n _ _ _ (by omega), upd2_n _ _ _ (by omega), x3]
    rw [e3]
    by_cases h1 : g 3 ≤ u o
    · rw [if_pos h1, if_pos h1]
    · rw [if_neg h1, if_neg h1]
      by_cases h2 : v < g 3
      · rw [if_pos h2, if_pos h2]
      · rw [if_neg h2, if_neg h2]
  have io : ix (g (10 + f)) = o := by rw [eo]; exact ix_n (by omega)
  unfold FX3_readFact
  simp only [a1, a2, a3, a4, a5, a6, aw, bo_s, jn_s, lt_s0, clamp_eq]
  unfold sConv sAfter
  rw [io]
  by_cases h9 : g (26 + f) = 9
  · rw [if_pos h9, if_pos rfl, if_pos (Or.inl h9)]
    exact fin _
  · rw [if_neg h9]
    obtain ⟨p, hp1, ep⟩ := hp.resolve_left h9
    have ip : ix (g (26 + f)) = p := by rw [ep]; exact ix_n (by omega)
    have a7 : FX7_at (c + 1) (g (26 + f)) M = some (u p) := by rw [ep, at_ok (by rw [len3_1 hc]; omega), B p (by omega)]
    have nm : ¬ g (26 + f) = -1 := by
      rw [ep]
      intro z
      have z1 := congrArg Int32.toInt z
      rw [nI_toInt (by omega)] at z1
      have z2 : (-1 : Int32).toInt = -1 := rfl
      omega
    rw [if_neg nm, a7, bo_s, ip]
    by_cases h3 : u p < g (34 + f)
    · have h4 : ¬ (g (26 + f) = 9 ∨ g (34 + f) ≤ u p) := by
        rintro (z | z)
        · exact h9 z
        · have := i_lt.mp h3
          have := i_le.mp z
          omega
      rw [if_pos h3, if_neg h4]
      exact fin _
    · have h4 : g (26 + f) = 9 ∨ g (34 + f) ≤ u p := Or.inr (i_le.mpr (by
        have : ¬ (u p).toInt < (g (34 + f)).toInt := fun z => h3 (i_lt.mpr z)
        omega))
      rw [if_neg h3, if_pos h4]
      exact fin _
