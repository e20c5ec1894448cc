/-! ===== what is thought, the book ===== -/
def sF (u r : Nat → Int32) : Nat → Nat → Int32
  | 0, _ => -1
  | d + 1, i => if u (ix (r (2 * i))) = r (2 * i + 1) then sF u r d (i + 1) else nI i
theorem len0 {c : Nat} (h : x_is0 c) : x_len (c + 1) = x_len (c + 2) ∧ (x_len (c + 1) = 6 ∨ x_len (c + 1) = 15) := by rcases h with rfl | rfl <;> exact ⟨rfl, by decide⟩
theorem x_first {M : XM} {c c1 n no : Nat} {r u : Nat → Int32} (hc : x_is0 c) (h1 : x_is3 c1) (hno : no ≤ 5) (B : BelX M c1 u) (hn : n ≤ x_len (c + 1)) (e2 : M c 2 = nI n) (hE : ∀ i, i < n → (∃ o, o < no ∧ r (2 * i) = nI o) ∧ M (c + 1) i = r (2 * i) ∧ M (c + 2) i = r (2 * i + 1)) : FX0_firstOtherwise c c1 M = some (sF u r n 0) := by
  obtain ⟨l1, l2⟩ := len0 hc
  have l15 : x_len (c + 1) ≤ 15 := by rcases l2 with h | h <;> omega
  have L : ∀ (d i k : Nat), i + d = n → d < k → FX0_firstOtherwise_L2 c c1 M (some (-1)) k (nI i) = some (sF u r d i) := by
    intro d
    induction d with
    | zero =>
      intro i k hi hk
      obtain ⟨k, rfl⟩ : ∃ z, k = z + 1 := ⟨k - 1, by omega⟩
      have e : i = n := by omega
      subst e
      rw [FX0_firstOtherwise_L2, e2, if_pos (nI_le (Nat.le_refl _) (by omega))]
      rfl
    | succ d ih =>
      intro i k hi hk
      obtain ⟨k, rfl⟩ : ∃ z, k = z + 1 := ⟨k - 1, by omega⟩
      obtain ⟨⟨o, ho, eo⟩, g1, g2⟩ := hE i (by omega)
      rw [FX0_firstOtherwise_L2, e2, if_neg (nI_ge (by omega) (by omega)), at_ok (by omega), bo_s, g1, eo, at_ok (by rw [len3_1 h1]; omega), bo_s, at_ok (by omega), bo_s, g2, B o (by omega), nI_1]
      rw [sF, eo, ix_n (by omega)]
      by_cases h : u o = r (2 * i + 1)
      · rw [if_pos h, if_pos h]; exact ih (i + 1) k (by omega) (by omega)
      · rw [if_neg h, if_neg h]
  exact L n 0 fuelN (by omega) (show n < 100000 by omega)
theorem ans {r s : Int32} {Mx2 : XM} {Mm2 : MM} {P : XM → MM → Prop} (e : s = r) (h : P Mx2 Mm2) : ∃ (q : Int32) (a : XM) (b : MM), some (r, Mx2) = some (q, a) ∧ some (s, Mm2) = some (q, b) ∧ P a b := ⟨r, Mx2, Mm2, rfl, by rw [e], h⟩
theorem two_n (i : Nat) : (2 : Int32) * nI i = nI (2 * i) := mul_n 2 i
theorem sim_judge : Sim_judge RR := by
  intro Mx Mm h
  obtain ⟨kk, no, nf, hh, a1, a2, a3, a4, a5, a6, a7, a8, a9, a10, a11⟩ := h
  obtain ⟨c0, c1, c2, c3, c4, hno, hnf, -, -, hF⟩ := a1
  obtain ⟨n, hn, e2, em, hE⟩ := a8
  have ex : FX0_firstOtherwise 36 17 Mx = some (sF (Mm.1 3) (Mm.1 9) n 0) := x_first (by decide) (by decide) hno a3.1 (show n ≤ 15 from hn) e2 hE
  refine ⟨sF (Mm.1 3) (Mm.1 9) n 0, by unfold FX7_judge; rw [ex, bo_s], ?_⟩
  have L : ∀ (d i k : Nat), i + d = n → d < k → FX8_judge_L2 Mm (some (-1)) k (nI i) = some (sF (Mm.1 3) (Mm.1 9) d i) := by
    intro d
    induction d with
    | zero =>
      intro i k hi hk
      obtain ⟨k, rfl⟩ : ∃ z, k = z + 1 := ⟨k - 1, by omega⟩
      have e : i = n := by omega
      subst e
      rw [FX8_judge_L2, em, if_pos (nI_le (Nat.le_refl _) (by omega))]
      rfl
    | succ d ih =>
      intro i k hi hk
      obtain ⟨k, rfl⟩ : ∃ z, k = z + 1 := ⟨k - 1, by omega⟩
      obtain ⟨⟨o, ho, eo⟩, g1, g2⟩ := hE i (by omega)
      rw [FX8_judge_L2, em, if_neg (nI_ge (by omega) (by omega)), two_n, if_pos (inb_n (by omega) (by decide)), nI_1 (2 * i), if_pos (show inb (nI (2 * i + 1)) 30 from inb_n (by omega) (by decide)), ix_n (n := 2 * i) (by omega), ix_n (n := 2 * i + 1) (by omega), eo, if_pos (inb_n (by omega) (by decide)), nI_1]
      rw [sF, eo]
      by_cases h : Mm.1 3 (ix (nI o)) = Mm.1 9 (2 * i + 1)
      · rw [if_pos h, if_pos h]; exact ih (i + 1) k (by omega) (by omega)
      · rw [if_neg h, if_neg h]
  exact L n 0 fuelN (by omega) (show n < 100000 by omega)
/-- an entry behind a list -/
theorem x_append {M : XM} {c n : Nat} {a b : Int32} (hc : x_is0 c) (hn : n ≤ x_len (c + 1)) (e2 : M c 2 = nI n) : (n = x_len (c + 1) → FX0_append c a b M = some (0, M)) ∧ (n < x_len (c + 1) → FX0_append c a b M = some (1, upd2 (upd2 (upd2 M (c + 1) n a) (c + 2) n b) c 2 (nI (n + 1)))) := by
  obtain ⟨l1, l2⟩ := len0 hc
  have l15 : x_len (c + 1) ≤ 15 := by rcases l2 with h | h <;> omega
  constructor
  · intro h
    unfold FX0_append
    rw [e2, if_neg (show ¬ nI n < Int32.ofNat (x_len (c + 1)) from nI_nlt (by omega) (by omega))]
  · intro h
    unfold FX0_append
    rw [e2, if_pos (show nI n < Int32.ofNat (x_len (c + 1)) from nI_lt h (by omega)), put_ok h, bo_s]
    have g1 : upd2 M (c + 1) n a c 2 = nI n := by rw [upd2_at, if_neg (by omega), e2]
    rw [g1, put_ok (by omega), bo_s]
    have g2 : upd2 (upd2 M (c + 1) n a) (c + 2) n b c 2 = nI n := by rw [upd2_at, if_neg (by omega), g1]
    rw [g2, nI_1]
theorem BookR_add {M : XM} {c n mx no : Nat} {r r2 : Nat → Int32} {a b cm : Int32} {o : Nat} (hn : n < mx) (ho : o < no) (ea : a = nI o) (hE : ∀ i, i < n → (∃ o, o < no ∧ r (2 * i) = nI o) ∧ M (c + 1) i = r (2 * i) ∧ M (c + 2) i = r (2 * i + 1)) (ec : cm = nI (n + 1)) (h0 : r2 (2 * n) = a) (h1 : r2 (2 * n + 1) = b) (hr : ∀ j, j < 2 * n → r2 j = r j) : BookR (upd2 (upd2 (upd2 M (c + 1) n a) (c + 2) n b) c 2 (nI (n + 1))) c r2 cm mx no := by
  refine ⟨n + 1, by omega, by rw [upd2_at, if_pos ⟨rfl, rfl⟩], ec, fun i hi => ?_⟩
  rw [upd2_n _ _ _ (show c + 1 ≠ c by omega), upd2_n _ _ _ (show c + 2 ≠ c by omega), upd2_n _ _ _ (show c + 1 ≠ c + 2 by omega), upd2_at, upd2_at, upd2_at]
  by_cases h : i = n
  · subst h
    rw [if_pos ⟨rfl, rfl⟩, if_pos ⟨rfl, rfl⟩, h0, h1]
    exact ⟨⟨o, ho, ea⟩, rfl, rfl⟩
  · obtain ⟨g0, g1, g2⟩ := hE i (by omega)
    rw [if_neg (fun z => h z.2), if_neg (fun z => h z.2), if_neg (by omega), hr _ (by omega), hr _ (by omega)]
    exact ⟨g0, g1, g2⟩
theorem m_thought {M : MM} {n no : Nat} {a b : Int32} (hno : no ≤ 5) (c1 : M.1 1 1 = nI no) (hn : n < 6) (en : M.1 0 12 = nI n) (qa : 0 ≤ a.toInt ∧ a.toInt < no) (qb : 0 ≤ b.toInt ∧ b.toInt ≤ 20) : FX8_thought a b M = some (nI (n + 1), um (um (um M 8 (2 * n) a) 8 (2 * n + 1) b) 0 12 (nI (n + 1))) := by
  unfold FX8_thought
  rw [opin_m c1 hno, if_pos qa, bo_s, if_neg (show ¬ (1 : Int32) = 0 by decide), in_i (p := 0) (q := 20) rfl rfl, if_pos qb, bo_s, if_neg (show ¬ (1 : Int32) = 0 by decide), en, if_neg (show ¬ nI n = 6 from fun z => by have := (nI_eq (b := 6) (by omega) (by decide)).mp z; omega), two_n, if_pos (inb_n (by omega) (by decide)), ix_n (by omega)]
  have g1 : (um M 8 (2 * n) a).1 0 12 = nI n := by rw [um_at, if_neg (by omega), en]
  have g2 : (um (um M 8 (2 * n) a) 8 (2 * n + 1) b).1 0 12 = nI n := by rw [um_at, if_neg (by omega), g1]
  rw [g1, two_n, nI_1, if_pos (inb_n (by omega) (by decide)), ix_n (by omega), g2, nI_1, um_at, if_pos ⟨rfl, rfl⟩]
theorem sim_thought : Sim_thought RR := by
  intro Mx Mm h a b
  obtain ⟨kk, no, nf, hh, H⟩ := h
  obtain ⟨a1, a2, a3, a4, a5, a6, a7, a8, a9, a10, a11⟩ := id H
  obtain ⟨c0, c1, c2, c3, c4, hno, hnf, -, -, hF⟩ := id a1
  obtain ⟨n, hn, e2, em, hE⟩ := id a7
  have hox := opin_x (no := no) (c := 3) (M := Mx) (by rw [a2.2.1]; exact c1) hno a
  have hx : FX7_thought a b Mx = bd (FX7_noteIn 33 a b Mx) (fun (r_1 : Int32) (M_2 : XM) => some (r_1, M_2)) := rfl
  rw [hx]
  unfold FX7_noteIn
  rw [hox, bo_s]
  by_cases qa : ¬ (0 ≤ a.toInt ∧ a.toInt < no)
  · rw [if_neg qa, if_pos rfl, bd_s]
    refine ⟨_, _, _, rfl, ?_, ⟨kk, no, nf, hh, H⟩⟩
    unfold FX8_thought
    rw [opin_m c1 hno, if_neg qa, bo_s, if_pos rfl]
  replace qa := Classical.not_not.mp qa
  rw [if_pos qa, if_neg (show ¬ (1 : Int32) = 0 by decide), blf_x, bo_s]
  by_cases qb : ¬ (0 ≤ b.toInt ∧ b.toInt ≤ 20)
  · rw [if_neg qb, if_pos rfl, bd_s]
    refine ⟨_, _, _, rfl, ?_, ⟨kk, no, nf, hh, H⟩⟩
    unfold FX8_thought
    rw [opin_m c1 hno, if_pos qa, bo_s, if_neg (show ¬ (1 : Int32) = 0 by decide), in_i (p := 0) (q := 20) rfl rfl, if_neg qb, bo_s, if_pos rfl]
  replace qb := Classical.not_not.mp qb
  rw [if_pos qb, if_neg (show ¬ (1 : Int32) = 0 by decide)]
  obtain ⟨p1, p2⟩ := x_append (a := a) (b := b) (M := Mx) (c := 33) (n := n) (by decide) hn e2
  by_cases hf : n = 6
  · rw [p1 hf, bd_s, if_pos rfl, bd_s]
    refine ⟨_, _, _, rfl, ?_, ⟨kk, no, nf, hh, H⟩⟩
    unfold FX8_thought
    rw [opin_m c1 hno, if_pos qa, bo_s, if_neg (show ¬ (1 : Int32) = 0 by decide), in_i (p := 0) (q := 20) rfl rfl, if_pos qb, bo_s, if_neg (show ¬ (1 : Int32) = 0 by decide), em, hf, if_pos (show nI 6 = 6 from rfl)]
  · have hl : n < 6 := by omega
    rw [p2 hl, bd_s, if_neg (show ¬ (1 : Int32) = 0 by decide), bd_s]
    rw [m_thought hno c1 hl em qa qb]
    refine ans ?_ ?_
    · rw [upd2_at, if_pos ⟨rfl, rfl⟩]
    · obtain ⟨o, ho, ea⟩ := i_nat qa
      have rowx : ∀ i, i < 33 ∨ 33 + 3 ≤ i ∨ (33 = 36 ∧ i < 36) → upd2 (upd2 (upd2 Mx (33 + 1) n a) (33 + 2) n b) 33 2 (nI (n + 1)) i = Mx i := fun i hi => by
        rw [upd2_n _ _ _ (by omega), upd2_n _ _ _ (by omega), upd2_n _ _ _ (by omega)]
      have rowm : ∀ i, i ≠ 0 → i ≠ 8 → (um (um (um Mm 8 (2 * n) a) 8 (2 * n + 1) b) 0 12 (nI (n + 1))).1 i = Mm.1 i := fun i h0 h8 => by
        rw [um_setR, setR_n _ _ h0, um_setR, setR_n _ _ h8, um_setR, setR_n _ _ h8]
      have row0 : ∀ k, k ≠ 12 → (um (um (um Mm 8 (2 * n) a) 8 (2 * n + 1) b) 0 12 (nI (n + 1))).1 0 k = Mm.1 0 k := fun k hk => by
        rw [um_at, if_neg (fun z => hk z.2), um_at, if_neg (by omega), um_at, if_neg (by omega)]
      have newB : BookR (upd2 (upd2 (upd2 Mx (33 + 1) n a) (33 + 2) n b) 33 2 (nI (n + 1))) 33 ((um (um (um Mm 8 (2 * n) a) 8 (2 * n + 1) b) 0 12 (nI (n + 1))).1 8) ((um (um (um Mm 8 (2 * n) a) 8 (2 * n + 1) b) 0 12 (nI (n + 1))).1 0 12) 6 no := by
        refine BookR_add (r := Mm.1 8) hl ho ea hE (by rw [um_at, if_pos ⟨rfl, rfl⟩]) ?_ ?_ ?_
        · rw [um_at, if_neg (by omega), um_at, if_neg (by omega), um_at, if_pos ⟨rfl, rfl⟩]
        · rw [um_at, if_neg (by omega), um_at, if_pos ⟨rfl, rfl⟩]
        · intro j hj
          rw [um_at, if_neg (by omega), um_at, if_neg (by omega), um_at, if_neg (by omega)]
      refine ⟨kk, no, nf, hh, ?_⟩
      unfold RRk
      rw [rowm 1 (by decide) (by decide), rowm 3 (by decide) (by decide), rowm 4 (by decide) (by decide), rowm 5 (by decide) (by decide), rowm 6 (by decide) (by decide), rowm 7 (by decide) (by decide), rowm 9 (by decide) (by decide), row0 4 (by decide), row0 9 (by decide), row0 10 (by decide), row0 14 (by decide)]
      exact ⟨a1, CityX_eq (fun i _ _ => rowx i (by omega)) a2, MindX_eq (fun i _ _ => rowx i (by omega)) a3, a4, PastR_eq (rowx _ (by omega)) (rowx _ (by omega)) a5, ImgR_eq (by rw [rowx 0 (by omega)]) (rowx _ (by omega)) (rowx _ (by omega)) a6, newB, BookR_eq (fun i _ _ => rowx i (by omega)) a8, TextR_eq (by rw [rowx 1 (by omega)]) (rowx _ (by omega)) a9, by rw [rowx 1 (by omega)]; exact a10, SeedR_eq (by rw [rowx 0 (by omega)]) a11⟩
theorem m_write {M : MM} {n no : Nat} {a b : Int32} (hno : no ≤ 5) (c1 : M.1 1 1 = nI no) (hn : n < 15) (en : M.1 0 14 = nI n) (qa : 0 ≤ a.toInt ∧ a.toInt < no) (qb : 0 ≤ b.toInt ∧ b.toInt ≤ 20) : FX8_write a b M = some (nI (n + 1), um (um (um M 9 (2 * n) a) 9 (2 * n + 1) b) 0 14 (nI (n + 1))) := by
  unfold FX8_write
  rw [opin_m c1 hno, if_pos qa, bo_s, if_neg (show ¬ (1 : Int32) = 0 by decide), in_i (p := 0) (q := 20) rfl rfl, if_pos qb, bo_s, if_neg (show ¬ (1 : Int32) = 0 by decide), en, if_neg (show ¬ nI n = 15 from fun z => by have := (nI_eq (b := 15) (by omega) (by decide)).mp z; omega), two_n, if_pos (inb_n (by omega) (by decide)), ix_n (by omega)]
  have g1 : (um M 9 (2 * n) a).1 0 14 = nI n := by rw [um_at, if_neg (by omega), en]
  have g2 : (um (um M 9 (2 * n) a) 9 (2 * n + 1) b).1 0 14 = nI n := by rw [um_at, if_neg (by omega), g1]
  rw [g1, two_n, nI_1, if_pos (inb_n (by omega) (by decide)), ix_n (by omega), g2, nI_1, um_at, if_pos ⟨rfl, rfl⟩]
theorem sim_write : Sim_write RR := by
  intro Mx Mm h a b
  obtain ⟨kk, no, nf, hh, H⟩ := h
  obtain ⟨a1, a2, a3, a4, a5, a6, a7, a8, a9, a10, a11⟩ := id H
  obtain ⟨c0, c1, c2, c3, c4, hno, hnf, -, -, hF⟩ := id a1
  obtain ⟨n, hn, e2, em, hE⟩ := id a8
  have hox := opin_x (no := no) (c := 3) (M := Mx) (by rw [a2.2.1]; exact c1) hno a
  have hx : FX7_write a b Mx = bd (FX7_noteIn 36 a b Mx) (fun (r_1 : Int32) (M_2 : XM) => some (r_1, M_2)) := rfl
  rw [hx]
  unfold FX7_noteIn
  rw [hox, bo_s]
  by_cases qa : ¬ (0 ≤ a.toInt ∧ a.toInt < no)
  · rw [if_neg qa, if_pos rfl, bd_s]
    refine ⟨_, _, _, rfl, ?_, ⟨kk, no, nf, hh, H⟩⟩
    unfold FX8_write
    rw [opin_m c1 hno, if_neg qa, bo_s, if_pos rfl]
  replace qa := Classical.not_not.mp qa
  rw [if_pos qa, if_neg (show ¬ (1 : Int32) = 0 by decide), blf_x, bo_s]
  by_cases qb : ¬ (0 ≤ b.toInt ∧ b.toInt ≤ 20)
  · rw [if_neg qb, if_pos rfl, bd_s]
    refine ⟨_, _, _, rfl, ?_, ⟨kk, no, nf, hh, H⟩⟩
    unfold FX8_write
    rw [opin_m c1 hno, if_pos qa, bo_s, if_neg (show ¬ (1 : Int32) = 0 by decide), in_i (p := 0) (q := 20) rfl rfl, if_neg qb, bo_s, if_pos rfl]
  replace qb := Classical.not_not.mp qb
  rw [if_pos qb, if_neg (show ¬ (1 : Int32) = 0 by decide)]
  obtain ⟨p1, p2⟩ := x_append (a := a) (b := b) (M := Mx) (c := 36) (n := n) (by decide) hn e2
  by_cases hf : n = 15
  · rw [p1 hf, bd_s, if_pos rfl, bd_s]
    refine ⟨_, _, _, rfl, ?_, ⟨kk, no, nf, hh, H⟩⟩
    unfold FX8_write
    rw [opin_m c1 hno, if_pos qa, bo_s, if_neg (show ¬ (1 : Int32) = 0 by decide), in_i (p := 0) (q := 20) rfl rfl, if_pos qb, bo_s, if_neg (show ¬ (1 : Int32) = 0 by decide), em, hf, if_pos (show nI 15 = 15 from rfl)]
  · have hl : n < 15 := by omega
    rw [p2 hl, bd_s, if_neg (show ¬ (1 : Int32) = 0 by decide), bd_s]
    rw [m_write hno c1 hl em qa qb]
    refine ans ?_ ?_
    · rw [upd2_at, if_pos ⟨rfl, rfl⟩]
    · obtain ⟨o, ho, ea⟩ := i_nat qa
      have rowx : ∀ i, i < 33 ∨ 36 + 3 ≤ i ∨ (36 = 36 ∧ i < 36) → upd2 (upd2 (upd2 Mx (36 + 1) n a) (36 + 2) n b) 36 2 (nI (n + 1)) i = Mx i := fun i hi => by
        rw [upd2_n _ _ _ (by omega), upd2_n _ _ _ (by omega), upd2_n _ _ _ (by omega)]
      have rowm : ∀ i, i ≠ 0 → i ≠ 9 → (um (um (um Mm 9 (2 * n) a) 9 (2 * n + 1) b) 0 14 (nI (n + 1))).1 i = Mm.1 i := fun i h0 h8 => by
        rw [um_setR, setR_n _ _ h0, um_setR, setR_n _ _ h8, um_setR, setR_n _ _ h8]
      have row0 : ∀ k, k ≠ 14 → (um (um (um Mm 9 (2 * n) a) 9 (2 * n + 1) b) 0 14 (nI (n + 1))).1 0 k = Mm.1 0 k := fun k hk => by
        rw [um_at, if_neg (fun z => hk z.2), um_at, if_neg (by omega), um_at, if_neg (by omega)]
      have newB : BookR (upd2 (upd2 (upd2 Mx (36 + 1) n a) (36 + 2) n b) 36 2 (nI (n + 1))) 36 ((um (um (um Mm 9 (2 * n) a) 9 (2 * n + 1) b) 0 14 (nI (n + 1))).1 9) ((um (um (um Mm 9 (2 * n) a) 9 (2 * n + 1) b) 0 14 (nI (n + 1))).1 0 14) 15 no := by
        refine BookR_add (r := Mm.1 9) hl ho ea hE (by rw [um_at, if_pos ⟨rfl, rfl⟩]) ?_ ?_ ?_
        · rw [um_at, if_neg (by omega), um_at, if_neg (by omega), um_at, if_pos ⟨rfl, rfl⟩]
        · rw [um_at, if_neg (by omega), um_at, if_pos ⟨rfl, rfl⟩]
        · intro j hj
          rw [um_at, if_neg (by omega), um_at, if_neg (by omega), um_at, if_neg (by omega)]
      refine ⟨kk, no, nf, hh, ?_⟩
      unfold RRk
      rw [rowm 1 (by decide) (by decide), rowm 3 (by decide) (by decide), rowm 4 (by decide) (by decide), rowm 5 (by decide) (by decide), rowm 6 (by decide) (by decide), rowm 7 (by decide) (by decide), rowm 8 (by decide) (by decide), row0 4 (by decide), row0 9 (by decide), row0 10 (by decide), row0 12 (by decide)]
      exact ⟨a1, CityX_eq (fun i _ _ => rowx i (by omega)) a2, MindX_eq (fun i _ _ => rowx i (by omega)) a3, a4, PastR_eq (rowx _ (by omega)) (rowx _ (by omega)) a5, ImgR_eq (by rw [rowx 0 (by omega)]) (rowx _ (by omega)) (rowx _ (by omega)) a6, BookR_eq (fun i _ _ => rowx i (by omega)) a7, newB, TextR_eq (by rw [rowx 1 (by omega)]) (rowx _ (by omega)) a9, by rw [rowx 1 (by omega)]; exact a10, SeedR_eq (by rw [rowx 0 (by omega)]) a11⟩
theorem sim_tear : Sim_tear RR := by
  intro Mx Mm h
  obtain ⟨kk, no, nf, hh, H⟩ := h
  obtain ⟨a1, a2, a3, a4, a5, a6, a7, a8, a9, a10, a11⟩ := id H
  obtain ⟨n, hn, e2, em, hE⟩ := id a7
  obtain ⟨n', hn', e2', em', hE'⟩ := id a8
  have hx : FX7_tear Mx = some (Mx 33 2 + Mx 36 2, upd2 (upd2 Mx 33 2 0) 36 2 0) := rfl
  have hm : FX8_tear Mm = some (Mm.1 0 12 + Mm.1 0 14, um (um Mm 0 12 0) 0 14 0) := rfl
  rw [hx, hm]
  refine ans (by rw [em, em', e2, e2']) ?_
  have rowx : ∀ i, i ≠ 33 → i ≠ 36 → upd2 (upd2 Mx 33 2 0) 36 2 0 i = Mx i := fun i h1 h2 => by
    rw [upd2_n _ _ _ h2, upd2_n _ _ _ h1]
  have rowm : ∀ i, i ≠ 0 → (um (um Mm 0 12 0) 0 14 0).1 i = Mm.1 i := fun i h0 => by
    rw [um_setR, setR_n _ _ h0, um_setR, setR_n _ _ h0]
  have row0 : ∀ k, k ≠ 12 → k ≠ 14 → (um (um Mm 0 12 0) 0 14 0).1 0 k = Mm.1 0 k := fun k h1 h2 => by
    rw [um_at, if_neg (fun z => h2 z.2), um_at, if_neg (fun z => h1 z.2)]
  refine ⟨kk, no, nf, hh, ?_⟩
  unfold RRk
  rw [rowm 1 (by decide), rowm 3 (by decide), rowm 4 (by decide), rowm 5 (by decide), rowm 6 (by decide), rowm 7 (by decide), rowm 8 (by decide), rowm 9 (by decide), row0 4 (by decide) (by decide), row0 9 (by decide) (by decide), row0 10 (by decide) (by decide)]
  exact ⟨a1, CityX_eq (fun i _ _ => rowx i (by omega) (by omega)) a2, MindX_eq (fun i _ _ => rowx i (by omega) (by omega)) a3, a4, PastR_eq (rowx _ (by omega) (by omega)) (rowx _ (by omega) (by omega)) a5, ImgR_eq (by rw [rowx 0 (by omega) (by omega)]) (rowx _ (by omega) (by omega)) (rowx _ (by omega) (by omega)) a6, ⟨0, by omega, by rw [upd2_at, if_neg (by decide), upd2_at, if_pos ⟨rfl, rfl⟩]; rfl, by rw [um_at, if_neg (by decide), um_at, if_pos ⟨rfl, rfl⟩]; rfl, fun i hi => by omega⟩, ⟨0, by omega, by rw [upd2_at, if_pos ⟨rfl, rfl⟩]; rfl, by rw [um_at, if_pos ⟨rfl, rfl⟩]; rfl, fun i hi => by omega⟩, TextR_eq (by rw [rowx 1 (by omega) (by omega)]) (rowx _ (by omega) (by omega)) a9, by rw [rowx 1 (by omega) (by omega)]; exact a10, SeedR_eq (by rw [rowx 0 (by omega) (by omega)]) a11⟩
