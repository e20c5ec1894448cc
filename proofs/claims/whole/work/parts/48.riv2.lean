/-! ===== rivals: the reference's steps ===== -/
def FrB (M M2 : MM) : Prop := (∀ a, a ≠ 10 → a ≠ 12 → a ≠ 13 → a ≠ 14 → a ≠ 15 → M2.1 a = M.1 a) ∧ M2.2 = M.2
def FrL (t : Nat) (M M2 : MM) : Prop := FrB M M2 ∧ (∀ j, j < 17 * (t + 1) → M2.1 12 j = M.1 12 j) ∧ (∀ j, j ≤ t → M2.1 13 j = M.1 13 j) ∧ ∀ j, j < t → M2.1 14 j = M.1 14 j ∧ M2.1 15 j = M.1 15 j
theorem FrL_rf (t : Nat) (M : MM) : FrL t M M := ⟨⟨fun _ _ _ _ _ _ => rfl, rfl⟩, fun _ _ => rfl, fun _ _ => rfl, fun _ _ => ⟨rfl, rfl⟩⟩
theorem FrL_tr {t : Nat} {a b c : MM} (h : FrL t a b) (g : FrL t b c) : FrL t a c := ⟨⟨fun i h1 h2 h3 h4 h5 => (g.1.1 i h1 h2 h3 h4 h5).trans (h.1.1 i h1 h2 h3 h4 h5), g.1.2.trans h.1.2⟩, fun j hj => (g.2.1 j hj).trans (h.2.1 j hj), fun j hj => (g.2.2.1 j hj).trans (h.2.2.1 j hj), fun j hj => ⟨(g.2.2.2 j hj).1.trans (h.2.2.2 j hj).1, (g.2.2.2 j hj).2.trans (h.2.2.2 j hj).2⟩⟩
theorem FrL_um {t c k : Nat} {M : MM} {v : Int32} (hc : c = 14 ∨ c = 15) (hk : t ≤ k) : FrL t M (um M c k v) := ⟨⟨fun a h1 h2 h3 h4 h5 => by funext j; rw [um_at, if_neg (by omega)], rfl⟩, fun j hj => by rw [um_at, if_neg (by omega)], fun j hj => by rw [um_at, if_neg (by omega)], fun j hj => ⟨by rw [um_at, if_neg (by omega)], by rw [um_at, if_neg (by omega)]⟩⟩
theorem FrL_up {t : Nat} {a b : MM} (h : FrL (t + 1) a b) : FrL t a b := ⟨h.1, fun j hj => h.2.1 j (by omega), fun j hj => h.2.2.1 j (by omega), fun j hj => h.2.2.2 j (by omega)⟩
theorem m_weighs {M : MM} {t : Nat} {b v : Int32} (ht : t < 5) (hb : M.1 15 t = b) : FX8_weighs (nI t) v M = some (um M 15 t (wg t b v)) := by
  have et : nI t - nI t / 2 * 2 = nI (t % 2) := rem_n (a := t) (d := 2) (by omega) (by decide) (by decide)
  unfold FX8_weighs wg
  simp only [if_pos (show inb (nI t) 5 from inb_n ht (by decide)), ix_n (show t < 2 ^ 31 by omega), hb, et, jn_s]
  by_cases h1 : b = -1
  · rw [if_pos h1, if_pos h1, if_neg (show ¬ (1 : Int32) = 0 by decide)]
  · rw [if_neg h1, if_neg h1]
    by_cases h2 : t % 2 = 0
    · rw [if_pos (show nI (t % 2) = 0 by rw [h2]; rfl), if_pos h2]
      by_cases h3 : v ≤ b
      · rw [if_pos h3, if_pos h3, if_pos trivial]
      · rw [if_neg h3, if_neg h3, if_neg (show ¬ (1 : Int32) = 0 by decide)]
    · have h21 : t % 2 = 1 := by omega
      rw [if_neg (show ¬ nI (t % 2) = 0 by rw [h21]; decide), if_neg h2]
      by_cases h3 : b ≤ v
      · rw [if_pos h3, if_pos h3, if_pos trivial]
      · rw [if_neg h3, if_neg h3, if_neg (show ¬ (1 : Int32) = 0 by decide)]
theorem m_stepB {M : MM} {t : Nat} (ht : t < 5) : FX8_beginsStep (nI t) M = some (um (um M 14 t (-1)) 15 t (-1)) := by
  unfold FX8_beginsStep
  rw [if_pos (inb_n ht (by decide)), if_pos (inb_n ht (by decide)), ix_n (by omega)]
/-- one goes to the next turn -/
def Gs (t : Nat) (u : Nat → Int32) (p : Nat) (M M2 : MM) : Prop := FrB M M2 ∧ (∀ j, j < 17 * (t + 1) → M2.1 12 j = M.1 12 j) ∧ (∀ j, j ≤ t → M2.1 13 j = M.1 13 j) ∧ M2.1 14 = M.1 14 ∧ M2.1 15 = M.1 15 ∧ (∀ k, k < 17 → M2.1 10 k = u k) ∧ (∀ k, k < 17 → M2.1 12 (17 * (t + 1) + k) = u k) ∧ M2.1 13 (t + 1) = nI p
theorem goes_tail {M : MM} {t p v : Nat} {u r : Nat → Int32} (ht : t < 4) (h13 : M.1 13 t = nI p) (hr : ∀ k, k < 17 → r k = u k) : ∃ M3, FX8_copies 10 0 12 (17 * (nI t + 1)) 17 (setR M 10 r) = some M3 ∧ M3.1 1 = M.1 1 ∧ M3.1 13 t = nI p ∧ Gs t u v M (um M3 13 (t + 1) (nI v)) := by
  have hc := m_copies (M := setR M 10 r) (c0 := 10) (c2 := 12) (i := 0) (j := 17 * (t + 1)) (n := 17) (by decide) (by decide) (show 17 * (t + 1) + 17 ≤ 85 by omega) (by decide) (by decide)
  obtain ⟨q, eq⟩ : ∃ q, q = pt ((setR M 10 r).1 12) (fun k => (setR M 10 r).1 10 (0 + k)) (17 * (t + 1)) 17 := ⟨_, rfl⟩
  rw [← eq] at hc
  have q1 : ∀ k, k < 17 → q (17 * (t + 1) + k) = u k := fun k hk => by
    have := pt_in (g := (setR M 10 r).1 12) (f := fun k => (setR M 10 r).1 10 (0 + k)) (a := 17 * (t + 1)) hk
    rw [eq, this]
    show (setR M 10 r).1 10 (0 + k) = _
    rw [setR_c, Nat.zero_add, hr k hk]
  have q2 : ∀ j, j < 17 * (t + 1) → q j = M.1 12 j := fun j hj => by rw [eq, pt_out (Or.inl hj), setR_n _ _ (by decide)]
  obtain ⟨M3, e3⟩ : ∃ M3, M3 = setR (setR M 10 r) 12 q := ⟨_, rfl⟩
  rw [← e3] at hc
  have m13 : M3.1 13 = M.1 13 := by rw [e3, setR_n _ _ (by decide), setR_n _ _ (by decide)]
  have hc2 : FX8_copies 10 0 12 (17 * (nI t + 1)) 17 (setR M 10 r) = some M3 := by
    rw [nI_1, show (17 : Int32) = nI 17 from rfl, mul_n]
    exact hc
  refine ⟨M3, hc2, by rw [e3, setR_n _ _ (by decide), setR_n _ _ (by decide)], by rw [m13]; exact h13, ⟨fun a h1 h2 h3 h4 h5 => ?_, by rw [um_2, e3]; rfl⟩, fun j hj => ?_, fun j hj => ?_, ?_, ?_, fun k hk => ?_, fun k hk => ?_, ?_⟩
  · funext j; rw [um_at, if_neg (by omega), e3, setR_n _ _ h2, setR_n _ _ h1]
  · rw [um_at, if_neg (by omega), e3, setR_c, q2 j hj]
  · rw [um_at, if_neg (by omega), m13]
  · funext j; rw [um_at, if_neg (by omega), e3, setR_n _ _ (by decide), setR_n _ _ (by decide)]
  · funext j; rw [um_at, if_neg (by omega), e3, setR_n _ _ (by decide), setR_n _ _ (by decide)]
  · rw [um_at, if_neg (by omega), e3, setR_n _ _ (by decide), setR_c, hr k hk]
  · rw [um_at, if_neg (by omega), e3, setR_c, q1 k hk]
  · rw [um_at, if_pos ⟨rfl, rfl⟩]
theorem sRead_congr {g by_ u w : Nat → Int32} {kk no nf hh f : Nat} (C : CityI g kk no nf hh) (hf : f < nf) (h : ∀ k, k < 17 → u k = w k) : ∀ k, k < 17 → sRead g by_ u f k = sRead g by_ w f k := by
  obtain ⟨o, -, ho, h8, -, io⟩ := fact_o C hf
  have hp : g (26 + f) = 9 ∨ ix (g (26 + f)) < 5 := by
    obtain ⟨-, -, -, -, -, hno, hnf, -, -, hF⟩ := C
    obtain ⟨-, -, hp, -⟩ := hF f hf
    rcases hp with z | ⟨p, p1, p2⟩
    · exact Or.inl z
    · exact Or.inr (by rw [p2, ix_n (by omega)]; omega)
  have ea : sAfter g by_ u f = sAfter g by_ w f := by
    unfold sAfter
    rw [io, h o (by omega), h (5 + f) (by omega)]
    rcases hp with z | z
    · rw [if_pos (Or.inl z), if_pos (Or.inl z)]
    · rw [h _ (by omega)]
  intro k hk
  unfold sRead
  rw [io, ea, upd_at, upd_at, upd_at, upd_at, h (5 + f) (by omega), h k hk]
theorem m_goes {M : MM} {t f p so N : Nat} {g u : Nat → Int32} {kk no nf hh : Nat} (C : CityI g kk no nf hh) (eg : M.1 1 = g) (ht : t < 4) (hf : f ≤ nf) (h14 : M.1 14 t = nI f) (h13 : M.1 13 t = nI p) (hso : M.1 3 13 = nI so) (hp : p < 256) (hs : so < 256) (hu : ∀ k, k < 17 → M.1 12 (17 * t + k) = u k) (R : RdI u N) (hN : N < 2 ^ 30) : ((f < nf ∧ ¬ (mN p so).testBit f = true ∨ f = nf ∧ mN p so ≠ 0) ∧ FX8_goes (nI t) M = some (0, M)) ∨ (f < nf ∧ (mN p so).testBit f = true ∧ ∃ M2, FX8_goes (nI t) M = some (1, M2) ∧ Gs t (sRead g (byG g) u f) (p ||| 2 ^ f) M M2) ∨ (f = nf ∧ mN p so = 0 ∧ ∃ M2, FX8_goes (nI t) M = some (1, M2) ∧ Gs t u p M M2) := by
  obtain ⟨g0, g1, g2, g3, hk, hno, hnf, -, -, hF⟩ := id C
  have hm : mN p so < 256 := Nat.lt_of_le_of_lt (mN_le _ _) hs
  have hc := m_copies (M := M) (c0 := 12) (c2 := 10) (i := 17 * t) (j := 0) (n := 17) (by decide) (show 17 * t + 17 ≤ 85 by omega) (by decide) (by decide) (by decide)
  obtain ⟨r0, er0⟩ : ∃ r0, r0 = pt (M.1 10) (fun k => M.1 12 (17 * t + k)) 0 17 := ⟨_, rfl⟩
  rw [← er0] at hc
  have p0 : ∀ k, k < 17 → r0 k = u k := fun k hk => by
    have := pt_in (g := M.1 10) (f := fun k => M.1 12 (17 * t + k)) (a := 0) hk
    rw [Nat.zero_add] at this
    rw [er0, this]
    exact hu k hk
  have hc2 : FX8_copies 12 (17 * nI t) 10 0 17 M = some (setR M 10 r0) := by
    rw [show (17 : Int32) = nI 17 from rfl, mul_n]
    exact hc
  have s1 : ∀ r, (setR M 10 r).1 1 = g := fun r => by rw [setR_n _ _ (by decide)]; exact eg
  have hi : inb (nI t) 5 := inb_n (by omega) (by decide)
  have s13 : ∀ r q, (setR (setR M 10 r) 12 q).1 1 2 = nI nf := fun r q => by rw [setR_n _ _ (by decide), s1]; exact g2
  unfold FX8_goes
  rw [if_pos hi, if_pos hi, ix_n (by omega), h14, h13, hso, eg, g2, and_not hs hp, jn_s]
  rcases Nat.lt_or_ge f nf with hlt | hge
  · have nef : ¬ nI f = nI nf := fun z => by have := (nI_eq (by omega) (by omega)).mp z; omega
    rw [if_neg nef, has_m, bo_s]
    by_cases hb : (mN p so).testBit f = true
    · right; left
      refine ⟨hlt, hb, ?_⟩
      have R0 : RdI r0 N := fun j hj => by rw [p0 (5 + j) (by omega)]; exact R j hj
      have rd := m_reads (M := setR M 10 r0) (c := 10) (by_ := byG g) (u := r0) (f := f) (by decide) (by rw [s1]; exact C) (setR_c _ _ _) R0 hN hlt
      rw [s1, setR_setR] at rd
      obtain ⟨M3, y0, y1, y2, y3⟩ := goes_tail (M := M) (p := p) (v := p ||| 2 ^ f) (u := sRead g (byG g) u f) (r := sRead g (byG g) r0 f) ht h13 (sRead_congr C hlt p0)
      refine ⟨_, ?_, y3⟩
      rw [if_pos ((has_bit f (by omega) _ hm).mpr hb), if_neg (show ¬ (1 : Int32) = 0 by decide), hc2, bo_s, jn_s, s1, g2, if_neg (nI_ge (by omega) (by omega)), by_m (by omega), bo_s, s1, rd, bd_s]
      show bo (FX8_copies 10 0 12 (17 * (nI t + 1)) 17 (setR M 10 (sRead g (byG g) r0 f))) _ = _
      rw [y0, bo_s, if_pos hi, y1, eg, g2, jn_s, if_neg (nI_ge (by omega) (by omega)), shl1 f (by omega)]
      show (if inb (nI t + 1) 5 then some ((1 : Int32), um M3 13 (ix (nI t + 1)) (M3.1 13 t ||| nI (2 ^ f))) else none) = _
      rw [nI_1, if_pos (inb_n (by omega) (by decide)), ix_n (by omega), y2, or_n]
    · left
      refine ⟨Or.inl ⟨hlt, hb⟩, ?_⟩
      rw [if_neg (fun z => hb ((has_bit f (by omega) _ hm).mp z)), if_pos rfl]
  · have e : f = nf := by omega
    subst e
    rw [if_pos rfl]
    by_cases h0 : mN p so = 0
    · right; right
      refine ⟨rfl, h0, ?_⟩
      obtain ⟨M3, y0, y1, y2, y3⟩ := goes_tail (M := M) (p := p) (v := p) (u := u) (r := r0) ht h13 p0
      refine ⟨_, ?_, y3⟩
      rw [if_pos (show nI (mN p so) = 0 by rw [h0]; rfl), hc2, bo_s, jn_s, s1, g2, if_pos (nI_le (by omega) (by omega))]
      show bo (FX8_copies 10 0 12 (17 * (nI t + 1)) 17 (setR M 10 r0)) _ = _
      rw [y0, bo_s, if_pos hi, y1, eg, g2, jn_s, if_pos (nI_le (by omega) (by omega))]
      show (if inb (nI t + 1) 5 then some ((1 : Int32), um M3 13 (ix (nI t + 1)) (M3.1 13 t ||| 0)) else none) = _
      rw [nI_1, if_pos (inb_n (by omega) (by decide)), ix_n (by omega), y2, or_0]
    · left
      refine ⟨Or.inr ⟨rfl, h0⟩, ?_⟩
      rw [if_neg (show ¬ nI (mN p so) = 0 from nI_ne0 (by omega) (by omega))]
