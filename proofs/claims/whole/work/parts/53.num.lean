/-! ===== city: numbers, on both sides ===== -/
def FrP (M0 M : XM) : Prop := ∀ a b, ¬ (a = 1 ∧ 2 ≤ b ∧ b ≤ 5) → M a b = M0 a b
theorem FrP_rf (M : XM) : FrP M M := fun _ _ _ => rfl
theorem FrP_tr {a b c : XM} (h : FrP a b) (g : FrP b c) : FrP a c := fun i j hij => (g i j hij).trans (h i j hij)
theorem FrP_upd {M0 M : XM} {b : Nat} {v : Int32} (h : FrP M0 M) (hb : 2 ≤ b ∧ b ≤ 5) : FrP M0 (upd2 M 1 b v) := fun i j hij => by
  rw [upd2_at, if_neg (fun z => hij (by omega))]
  exact h i j hij
theorem TX_FrP {M0 M : XM} {r : Nat → Int32} {n : Nat} (T : TX M0 r n) (h : FrP M0 M) : TX M r n := ⟨by rw [h 1 1 (by omega)]; exact T.1, T.2.1, fun i hi => by rw [h 2 i (by omega)]; exact T.2.2 i hi⟩
def FrC (M0 M : XM) : Prop := ∀ a b, ¬ (a = 1 ∧ 2 ≤ b ∧ b ≤ 6) → (a < 10 ∨ 16 < a) → M a b = M0 a b
theorem FrC_P {M0 M : XM} (h : FrP M0 M) : FrC M0 M := fun a b h1 _ => h a b (by omega)
theorem FrC_rf (M : XM) : FrC M M := fun _ _ _ _ => rfl
theorem FrC_tr {a b c : XM} (h : FrC a b) (g : FrC b c) : FrC a c := fun i j h1 h2 => (g i j h1 h2).trans (h i j h1 h2)
theorem FrC_upd {M0 M : XM} {c b : Nat} {v : Int32} (h : FrC M0 M) (hb : (c = 1 ∧ 2 ≤ b ∧ b ≤ 6) ∨ (10 ≤ c ∧ c ≤ 16)) : FrC M0 (upd2 M c b v) := fun i j h1 h2 => by
  rw [upd2_at, if_neg (fun z => by omega)]
  exact h i j h1 h2
theorem TX_FrC {M0 M : XM} {r : Nat → Int32} {n : Nat} (T : TX M0 r n) (h : FrC M0 M) : TX M r n := ⟨by rw [h 1 1 (by omega) (by omega)]; exact T.1, T.2.1, fun i hi => by rw [h 2 i (by omega) (by omega)]; exact T.2.2 i hi⟩
def FrN (M0 M : MM) : Prop := (∀ a, a ≠ 0 → a ≠ 2 → M.1 a = M0.1 a) ∧ (∀ b, b < 15 ∨ 20 < b → M.1 0 b = M0.1 0 b) ∧ M.2 = M0.2
theorem FrN_rf (M : MM) : FrN M M := ⟨fun _ _ _ => rfl, fun _ _ => rfl, rfl⟩
theorem FrN_tr {a b c : MM} (h : FrN a b) (g : FrN b c) : FrN a c := ⟨fun i h1 h2 => (g.1 i h1 h2).trans (h.1 i h1 h2), fun i hi => (g.2.1 i hi).trans (h.2.1 i hi), g.2.2.trans h.2.2⟩
theorem FrN_5 {M0 M : MM} (h : F5 M0 M) : FrN M0 M := ⟨fun a h1 _ => h.1 a h1, fun b hb => h.2.1 b (by omega), h.2.2⟩
theorem FrN_um {M0 M : MM} {c b : Nat} {v : Int32} (h : FrN M0 M) (hb : (c = 0 ∧ 15 ≤ b ∧ b ≤ 20) ∨ c = 2) : FrN M0 (um M c b v) := ⟨fun a h1 h2 => by funext j; rw [um_at, if_neg (fun z => by omega), h.1 a h1 h2], fun e he => by rw [um_at, if_neg (fun z => by omega)]; exact h.2.1 e he, h.2.2⟩
theorem TM_FrN {M0 M : MM} {r : Nat → Int32} {n : Nat} (T : TM M0 r n) (h : FrN M0 M) : TM M r n := ⟨by rw [h.2.1 9 (by omega)]; exact T.1, T.2.1, by rw [h.1 7 (by decide) (by decide)]; exact T.2.2⟩
/-- the one fault that both tell -/
def BAD (n : Nat) (Mx : XM) (Mm : MM) : Prop := ∃ (q E : Nat) (c : Int32), c ≠ 0 ∧ Mx 1 4 = c ∧ Mx 1 5 = nI q ∧ Mm.1 0 20 = c ∧ Mm.1 0 16 = nI q ∧ Mx 1 2 = nI E ∧ E ≤ n
/-- behind a fault -/
def AF (n : Nat) (M0 M : XM) : Prop := FrC M0 M ∧ (∃ E : Nat, E ≤ n ∧ M 1 2 = nI E) ∧ M 1 4 = M0 1 4 ∧ M 1 5 = M0 1 5
theorem AF_tr {n : Nat} {a b c : XM} (h : AF n a b) (g : AF n b c) : AF n a c := ⟨FrC_tr h.1 g.1, g.2.1, g.2.2.1.trans h.2.2.1, g.2.2.2.trans h.2.2.2⟩
theorem BAD_AF {n : Nat} {Mx Mx2 : XM} {Mm : MM} (h : BAD n Mx Mm) (g : AF n Mx Mx2) : BAD n Mx2 Mm := by
  obtain ⟨q, E, c, h1, h2, h3, h4, h5, h6, h7⟩ := h
  obtain ⟨g1, ⟨E2, g2, g3⟩, g4, g5⟩ := g
  exact ⟨q, E2, c, h1, g4.trans h2, g5.trans h3, h4, h5, g3, g2⟩
/-- a number that does well -/
abbrev okN (r : Nat → Int32) (n q : Nat) (a b : Int32) : Prop := SD r n q - q ≤ 3 ∧ a.toInt ≤ (dv r q (SD r n q - q) : Nat) ∧ ((dv r q (SD r n q - q) : Nat) : Int) ≤ b.toInt
theorem dv_1000 {r : Nat → Int32} {n q : Nat} (hq : q ≤ n) (h : SD r n q - q ≤ 3) (hd : ∀ i, q + i < SD r n q → isD (r (q + i))) : dv r q (SD r n q - q) < 1000 := by
  have hl := dv_lt (r := r) (q := q) (SD r n q - q) (fun i hi => hd i (by omega))
  have hp3 : 10 ^ (SD r n q - q) ≤ 10 ^ 3 := Nat.pow_le_pow_right (by decide) h
  omega
theorem x_mark {M : XM} {c w : Int32} (h : M 1 4 = 0) : FX2_mark c w M = some (upd2 (upd2 M 1 4 c) 1 5 w) := by
  unfold FX2_mark
  rw [if_pos h]
theorem x_markF {M : XM} {c w : Int32} (h : ¬ M 1 4 = 0) : FX2_mark c w M = some M := by
  unfold FX2_mark
  rw [if_neg h]
theorem x_num {M : XM} {r : Nat → Int32} {n p : Nat} {a b : Int32} (T : TX M r n) (h : M 1 2 = nI p) (hp : p ≤ n) (h4 : M 1 4 = 0) : (¬ isD (ch r n (SK r n p)) ∧ ∃ M2, FX2_readNumber a b M = some (a, M2) ∧ FrP M M2 ∧ M2 1 2 = nI (SK r n p) ∧ M2 1 4 = 1 ∧ M2 1 5 = nI (SK r n p)) ∨ (isD (ch r n (SK r n p)) ∧ okN r n (SK r n p) a b ∧ (∀ i, SK r n p + i < SD r n (SK r n p) → isD (r (SK r n p + i))) ∧ ∃ M2, FX2_readNumber a b M = some (nI (dv r (SK r n p) (SD r n (SK r n p) - SK r n p)), M2) ∧ FrP M M2 ∧ M2 1 2 = nI (SD r n (SK r n p)) ∧ M2 1 3 = nI (SK r n p) ∧ M2 1 4 = 0 ∧ M2 1 5 = M 1 5) ∨ (isD (ch r n (SK r n p)) ∧ ¬ okN r n (SK r n p) a b ∧ ∃ M2, FX2_readNumber a b M = some (a, M2) ∧ FrP M M2 ∧ M2 1 2 = nI (SD r n (SK r n p)) ∧ M2 1 4 = 2 ∧ M2 1 5 = nI (SK r n p)) := by
  obtain ⟨k1, k2, k3⟩ := SK_ok (r := r) (n := n) (n - p) p (by omega)
  obtain ⟨q, eq⟩ : ∃ q, q = SK r n p := ⟨_, rfl⟩
  unfold FX2_readNumber
  rw [x_skip T h hp, bo_s]
  rw [← eq] at k1 k2 k3 ⊢
  have t2 := T.2.1
  obtain ⟨M1, e1⟩ : ∃ M1, M1 = upd2 (upd2 M 1 2 (nI q)) 1 3 (nI q) := ⟨_, rfl⟩
  have F1 : FrP M M1 := by rw [e1]; exact FrP_upd (FrP_upd (FrP_rf M) (by omega)) (by omega)
  have m2 : M1 1 2 = nI q := by rw [e1, upd2_at, if_neg (by decide), upd2_at, if_pos ⟨rfl, rfl⟩]
  have m3 : M1 1 3 = nI q := by rw [e1, upd2_at, if_pos ⟨rfl, rfl⟩]
  have m4 : M1 1 4 = 0 := by rw [e1, upd2_at, if_neg (by decide), upd2_at, if_neg (by decide)]; exact h4
  have hz : (upd2 M 1 2 (nI q)) 1 2 = nI q := by rw [upd2_at, if_pos ⟨rfl, rfl⟩]
  rw [hz, ← e1, jn_s, m4, if_pos rfl, x_fig (TX_FrP T F1) m2 k2, bo_s, m2, x_mark m4, bo_s]
  by_cases e : isD (ch r n q)
  · right
    rw [if_pos e, if_neg (show ¬ (1 : Int32) = 0 by decide)]
    obtain ⟨w, w1, w2, w3⟩ := x_figs (r := r) (n := n) (q := q) (b1 := a) (b2 := b) (fun (k3_6 : Int32) (M_7 : XM) => jn (bo (FX2_mark 2 (M_7 1 3) M_7) (fun (M_8 : XM) => some (a, M_8))) (fun J115 => (if 3 < ((M_7 1 2) - (M_7 1 3)) then J115 else (if k3_6 < a then J115 else (if k3_6 ≤ b then some (k3_6, M_7) else J115))))) (n - q) q fuelN 0 M1 (by omega) (show n - q < 100000 by omega) (Nat.le_refl _) (TX_FrP T F1) m2 (fun i hi => by omega) (fun _ => by rw [Nat.sub_self]; rfl)
    rw [Nat.sub_self] at w3
    obtain ⟨d1, d2⟩ := SD_ok (r := r) (n := n) (n - q) q (by omega)
    obtain ⟨E, eE⟩ : ∃ E, E = SD r n q := ⟨_, rfl⟩
    obtain ⟨M2, e2⟩ : ∃ M2, M2 = upd2 M1 1 2 (nI (SD r n q)) := ⟨_, rfl⟩
    have F2 : FrP M M2 := by rw [e2]; exact FrP_upd F1 (by omega)
    have n2 : M2 1 2 = nI (SD r n q) := by rw [e2, upd2_at, if_pos ⟨rfl, rfl⟩]
    have n3 : M2 1 3 = nI q := by rw [e2, upd2_at, if_neg (by decide)]; exact m3
    have n4 : M2 1 4 = 0 := by rw [e2, upd2_at, if_neg (by decide)]; exact m4
    rw [← e2] at w3
    have hsub : M2 1 2 - M2 1 3 = nI (SD r n q - q) := by rw [n2, n3, pk_sub d1]
    have w4 : FX2_readNumber_L42 a b (fun (k3_6 : Int32) (M_7 : XM) => jn (bo (FX2_mark 2 (M_7 1 3) M_7) (fun (M_8 : XM) => some (a, M_8))) (fun J115 => (if 3 < ((M_7 1 2) - (M_7 1 3)) then J115 else (if k3_6 < a then J115 else (if k3_6 ≤ b then some (k3_6, M_7) else J115))))) fuelN 0 0 M1 = (if (3 : Int32) < nI (SD r n q - q) then some (a, upd2 (upd2 M2 1 4 2) 1 5 (nI q)) else (if w < a then some (a, upd2 (upd2 M2 1 4 2) 1 5 (nI q)) else (if w ≤ b then some (w, M2) else some (a, upd2 (upd2 M2 1 4 2) 1 5 (nI q))))) := by
      refine Eq.trans w3 ?_
      rw [hsub, n3, x_mark n4, bo_s, jn_s]
    rw [w4]
    have bad : ∃ M2', some (a, upd2 (upd2 M2 1 4 2) 1 5 (nI q)) = some (a, M2') ∧ FrP M M2' ∧ M2' 1 2 = nI (SD r n q) ∧ M2' 1 4 = 2 ∧ M2' 1 5 = nI q := ⟨_, rfl, FrP_upd (FrP_upd F2 (by omega)) (by omega), by rw [upd2_at, if_neg (by decide), upd2_at, if_neg (by decide)]; exact n2, by rw [upd2_at, if_neg (by decide), upd2_at, if_pos ⟨rfl, rfl⟩], by rw [upd2_at, if_pos ⟨rfl, rfl⟩]⟩
    by_cases g1 : ¬ SD r n q - q ≤ 3
    · rw [if_pos (show (3 : Int32) < nI (SD r n q - q) from nI_lt (a := 3) (by omega) (by omega))]
      exact Or.inr ⟨e, fun z => g1 z.1, bad⟩
    replace g1 := Classical.not_not.mp g1
    have v1 := dv_1000 k2 g1 w2
    have ew := w1 g1
    have ev := nI_toInt (n := dv r q (SD r n q - q)) (by omega)
    rw [if_neg (show ¬ (3 : Int32) < nI (SD r n q - q) from (nI_nlt (by omega) (by omega) : ¬ nI 3 < nI (SD r n q - q)))]
    by_cases g2 : w < a
    · have := i_lt.mp g2
      rw [if_pos g2]
      exact Or.inr ⟨e, fun z => by have := z.2.1; rw [ew] at *; omega, bad⟩
    rw [if_neg g2]
    have g2' : ¬ w.toInt < a.toInt := fun z => g2 (i_lt.mpr z)
    by_cases g3 : w ≤ b
    · have := i_le.mp g3
      rw [if_pos g3]
      refine Or.inl ⟨e, ⟨g1, ?_, ?_⟩, w2, M2, by rw [ew], F2, n2, n3, n4, by rw [e2, upd2_at, if_neg (by decide), e1, upd2_at, if_neg (by decide), upd2_at, if_neg (by decide)]⟩
      · rw [ew] at g2'; omega
      · rw [ew] at this; omega
    · have g3' : ¬ w.toInt ≤ b.toInt := fun z => g3 (i_le.mpr z)
      rw [if_neg g3]
      exact Or.inr ⟨e, fun z => by have := z.2.2; rw [ew] at g3'; omega, bad⟩
  · left
    rw [if_neg e, if_pos rfl]
    refine ⟨e, _, rfl, FrP_upd (FrP_upd F1 (by omega)) (by omega), ?_, ?_, ?_⟩
    · rw [upd2_at, if_neg (by decide), upd2_at, if_neg (by decide)]; exact m2
    · rw [upd2_at, if_neg (by decide), upd2_at, if_pos ⟨rfl, rfl⟩]
    · rw [upd2_at, if_pos ⟨rfl, rfl⟩]
theorem x_numF {M : XM} {r : Nat → Int32} {n p : Nat} {a b : Int32} (T : TX M r n) (h : M 1 2 = nI p) (hp : p ≤ n) (h4 : ¬ M 1 4 = 0) : ∃ M2, FX2_readNumber a b M = some (a, M2) ∧ AF n M M2 := by
  obtain ⟨k1, k2, k3⟩ := SK_ok (r := r) (n := n) (n - p) p (by omega)
  obtain ⟨q, eq⟩ : ∃ q, q = SK r n p := ⟨_, rfl⟩
  unfold FX2_readNumber
  rw [x_skip T h hp, bo_s]
  rw [← eq] at k1 k2 k3 ⊢
  have hz : (upd2 M 1 2 (nI q)) 1 2 = nI q := by rw [upd2_at, if_pos ⟨rfl, rfl⟩]
  have m4 : ¬ (upd2 (upd2 M 1 2 (nI q)) 1 3 (nI q)) 1 4 = 0 := by rw [upd2_at, if_neg (by decide), upd2_at, if_neg (by decide)]; exact h4
  rw [hz, jn_s, if_neg m4, x_markF m4, bo_s]
  refine ⟨_, rfl, FrC_upd (FrC_upd (FrC_rf M) (by omega)) (by omega), ⟨q, k2, ?_⟩, ?_, ?_⟩
  · rw [upd2_at, if_neg (by decide), upd2_at, if_pos ⟨rfl, rfl⟩]
  · rw [upd2_at, if_neg (by decide), upd2_at, if_neg (by decide)]
  · rw [upd2_at, if_neg (by decide), upd2_at, if_neg (by decide)]
