/-! ===== city: numbers and signs, both ===== -/
theorem num_both {Mx : XM} {Mm : MM} {r : Nat → Int32} {n p idx : Nat} {a b : Int32} (T : TX Mx r n) (Tm : TM Mm r n) (h : Mx 1 2 = nI p) (hm : Mm.1 0 15 = nI p) (hp : p ≤ n) (h4 : Mx 1 4 = 0) (hi : idx < 50) : (∃ (v E q : Nat) (Mx2 : XM) (Mm2 : MM), E ≤ n ∧ p < E ∧ v < 1000 ∧ a.toInt ≤ (v : Int) ∧ (v : Int) ≤ b.toInt ∧ FX2_readNumber a b Mx = some (nI v, Mx2) ∧ FX8_number (nI idx) a b Mm = some (1, um Mm2 2 idx (nI v)) ∧ FrP Mx Mx2 ∧ F5 Mm Mm2 ∧ Mx2 1 2 = nI E ∧ Mx2 1 3 = nI q ∧ Mx2 1 4 = 0 ∧ Mm2.1 0 15 = nI E ∧ Mm2.1 0 16 = nI q ∧ Mx2 1 5 = Mx 1 5) ∨ (∃ (v : Int32) (Mx2 : XM) (Mm2 : MM), FX2_readNumber a b Mx = some (v, Mx2) ∧ FX8_number (nI idx) a b Mm = some (0, Mm2) ∧ FrP Mx Mx2 ∧ FrN Mm Mm2 ∧ BAD n Mx2 Mm2) := by
  have t2 := T.2.1
  obtain ⟨k1, k2, k3⟩ := SK_ok (r := r) (n := n) (n - p) p (by omega)
  have A : ∀ i, i < n → ∃ x : Nat, x ≤ 255 ∧ r i = nI x := fun i hi => (T.2.2 i hi).2
  obtain ⟨M1, s1, s2, s3, s4⟩ := m_step Tm A hm hp
  have hx := x_num (a := a) (b := b) T h hp h4
  obtain ⟨q, eq⟩ : ∃ q, q = SK r n p := ⟨_, rfl⟩
  rw [← eq] at k1 k2 k3 s3 s4 hx
  obtain ⟨d1, d2⟩ := SD_ok (r := r) (n := n) (n - q) q (by omega)
  have hnum : FX8_number (nI idx) a b Mm = (if M1.1 0 17 = 48 then (if 3 < M1.1 0 18 then some (0, um M1 0 20 2) else bo (FX8_in ((M1.1 0 19).toInt64) (a.toInt64) (b.toInt64)) (fun (r_6 : Int32) => (if r_6 = 0 then some (0, um M1 0 20 2) else some (1, um M1 2 idx (M1.1 0 19))))) else some (0, um M1 0 20 1)) := by
    unfold FX8_number FX8_fails
    rw [s1, bo_s]
    simp only [jn_s, bd_s, if_pos (show bo01 0 from Or.inl rfl), if_pos (show inb (nI idx) 50 from inb_n hi (by decide)), ix_n (show idx < 2 ^ 31 by omega)]
  rcases s4 with ⟨e, t17, t15, t18, t19⟩ | ⟨e, t17, t15⟩
  · rw [hnum, t17, if_pos rfl, t18, t19]
    rcases hx with ⟨z, -⟩ | ⟨-, ok, hd, M2, y1, y2, y3, y4, y5, y6⟩ | ⟨-, nok, M2, y1, y2, y3, y4, y5⟩
    · exact absurd e z
    · left
      have v1 := dv_1000 k2 ok.1 hd
      have ev := nI_toInt (n := dv r q (SD r n q - q)) (by omega)
      have lt1 : q < SD r n q := by
        obtain ⟨f1, f2⟩ := SD_d e
        have := SD_ok (r := r) (n := n) (n - (q + 1)) (q + 1) (by omega)
        rw [f2]
        omega
      refine ⟨_, SD r n q, q, M2, M1, d2, by omega, v1, ok.2.1, ok.2.2, y1, ?_, y2, s2, y3, y4, y5, t15, s3, y6⟩
      rw [if_neg (show ¬ (3 : Int32) < nI (SD r n q - q) from (nI_nlt ok.1 (by omega) : ¬ nI 3 < nI (SD r n q - q))), show min (SD r n q - q) 3 = SD r n q - q from Nat.min_eq_left ok.1, in_ok, l_of, l_of, l_of, ev, if_pos ⟨ok.2.1, ok.2.2⟩, bo_s, if_neg (show ¬ (1 : Int32) = 0 by decide)]
    · right
      have bad : FrN Mm (um M1 0 20 2) ∧ BAD n M2 (um M1 0 20 2) := ⟨FrN_um (FrN_5 s2) (by omega), q, SD r n q, 2, by decide, y4, y5, by rw [um_at, if_pos ⟨rfl, rfl⟩], by rw [um_at, if_neg (by decide)]; exact s3, y3, d2⟩
      refine ⟨a, M2, um M1 0 20 2, y1, ?_, y2, bad.1, bad.2⟩
      by_cases g1 : SD r n q - q ≤ 3
      · have v1 : dv r q (SD r n q - q) < 1000 := by
          have hd : ∀ (m p : Nat), q ≤ p → p + m = SD r n q → SD r n p = SD r n q → ∀ i, i < m → isD (r (p + i)) := by
            intro m
            induction m with
            | zero => exact fun p _ _ _ i hi => by omega
            | succ m ih =>
              intro p hp1 hp2 hp3 i hi
              have ep : isD (ch r n p) := by
                by_cases z : isD (ch r n p)
                · exact z
                · have := SD_n z
                  omega
              obtain ⟨f1, f2⟩ := SD_d ep
              by_cases hi0 : i = 0
              · rw [hi0, Nat.add_zero, ← ch_lt (r := r) f1]; exact ep
              · have := ih (p + 1) (by omega) (by omega) (by rw [← f2]; exact hp3) (i - 1) (by omega)
                rw [show p + 1 + (i - 1) = p + i by omega] at this
                exact this
          exact dv_1000 k2 g1 (fun i hi => hd (SD r n q - q) q (Nat.le_refl _) (by omega) rfl i (by omega))
        have ev := nI_toInt (n := dv r q (SD r n q - q)) (by omega)
        rw [if_neg (show ¬ (3 : Int32) < nI (SD r n q - q) from (nI_nlt g1 (by omega) : ¬ nI 3 < nI (SD r n q - q))), show min (SD r n q - q) 3 = SD r n q - q from Nat.min_eq_left g1, in_ok, l_of, l_of, l_of, ev, if_neg (fun z => nok ⟨g1, z.1, z.2⟩), bo_s, if_pos rfl]
      · rw [if_pos (show (3 : Int32) < nI (SD r n q - q) from nI_lt (a := 3) (by omega) (by omega))]
  · have n48 : ¬ M1.1 0 17 = 48 := fun z => e (by rw [← t17, z]; exact ⟨by decide, by decide⟩)
    rw [hnum, if_neg n48]
    rcases hx with ⟨-, M2, y1, y2, y3, y4, y5⟩ | ⟨z, -⟩ | ⟨z, -⟩
    · exact Or.inr ⟨a, M2, um M1 0 20 1, y1, rfl, y2, FrN_um (FrN_5 s2) (by omega), q, q, 1, by decide, y4, y5, by rw [um_at, if_pos ⟨rfl, rfl⟩], by rw [um_at, if_neg (by decide)]; exact s3, y3, k2⟩
    · exact absurd z e
    · exact absurd z e
theorem x_takes {M : XM} {r : Nat → Int32} {n p : Nat} {c : Int32} (T : TX M r n) (h : M 1 2 = nI p) (hp : p ≤ n) (h4 : M 1 4 = 0) : FX2_takes c M = some (if ch r n (SK r n p) = c then (1, upd2 M 1 2 (nI (SK r n p + 1))) else (0, upd2 M 1 2 (nI (SK r n p)))) := by
  obtain ⟨k1, k2, k3⟩ := SK_ok (r := r) (n := n) (n - p) p (by omega)
  obtain ⟨M1, e1⟩ : ∃ M1, M1 = upd2 M 1 2 (nI (SK r n p)) := ⟨_, rfl⟩
  have m2 : M1 1 2 = nI (SK r n p) := by rw [e1, upd2_at, if_pos ⟨rfl, rfl⟩]
  have m4 : M1 1 4 = 0 := by rw [e1, upd2_at, if_neg (by decide)]; exact h4
  have T1 : TX M1 r n := by rw [e1]; exact TX_upd T (by decide)
  unfold FX2_takes
  rw [x_skip T h hp, bo_s, ← e1, m4, if_pos rfl, x_next T1 m2 k2, bo_s, m2, nI_1]
  by_cases q : ch r n (SK r n p) = c
  · rw [if_pos q, if_pos q, e1, upd2_upd2]
  · rw [if_neg q, if_neg q]
theorem x_takesF {M : XM} {r : Nat → Int32} {n p : Nat} {c : Int32} (T : TX M r n) (h : M 1 2 = nI p) (hp : p ≤ n) (h4 : ¬ M 1 4 = 0) : ∃ M2, FX2_takes c M = some (0, M2) ∧ AF n M M2 := by
  obtain ⟨k1, k2, k3⟩ := SK_ok (r := r) (n := n) (n - p) p (by omega)
  have m4 : ¬ (upd2 M 1 2 (nI (SK r n p))) 1 4 = 0 := by rw [upd2_at, if_neg (by decide)]; exact h4
  unfold FX2_takes
  rw [x_skip T h hp, bo_s, if_neg m4]
  exact ⟨_, rfl, FrC_upd (FrC_rf M) (by omega), ⟨_, k2, by rw [upd2_at, if_pos ⟨rfl, rfl⟩]⟩, by rw [upd2_at, if_neg (by decide)], by rw [upd2_at, if_neg (by decide)]⟩
/-- the end of a clause -/
noncomputable def xEND (M : XM) : Option XM := bd (FX2_takes 59 M) (fun (r_5 : Int32) (M_6 : XM) => (if r_5 = 0 then bo (FX2_mark 1 (M_6 1 2) M_6) (fun (M_8 : XM) => some M_8) else some M_6))
theorem xEND_F {M : XM} {r : Nat → Int32} {n p : Nat} (T : TX M r n) (h : M 1 2 = nI p) (hp : p ≤ n) (h4 : ¬ M 1 4 = 0) : ∃ M2, xEND M = some M2 ∧ AF n M M2 := by
  obtain ⟨M2, y1, y2⟩ := x_takesF (c := 59) T h hp h4
  refine ⟨M2, ?_, y2⟩
  unfold xEND
  rw [y1, bd_s, if_pos rfl, x_markF (by rw [y2.2.2.1]; exact h4), bo_s]
theorem xEND_n {M : XM} {r : Nat → Int32} {n p : Nat} (T : TX M r n) (h : M 1 2 = nI p) (hp : p ≤ n) (h4 : M 1 4 = 0) : (ch r n (SK r n p) = 59 ∧ xEND M = some (upd2 M 1 2 (nI (SK r n p + 1)))) ∨ (¬ ch r n (SK r n p) = 59 ∧ ∃ M2, xEND M = some M2 ∧ FrP M M2 ∧ M2 1 2 = nI (SK r n p) ∧ M2 1 4 = 1 ∧ M2 1 5 = nI (SK r n p)) := by
  unfold xEND
  rw [x_takes T h hp h4, ]
  by_cases q : ch r n (SK r n p) = 59
  · rw [if_pos q]
    left
    exact ⟨q, by rw [bd_s, if_neg (show ¬ (1 : Int32) = 0 by decide)]⟩
  · rw [if_neg q]
    right
    have m2 : (upd2 M 1 2 (nI (SK r n p))) 1 2 = nI (SK r n p) := by rw [upd2_at, if_pos ⟨rfl, rfl⟩]
    refine ⟨q, _, by rw [bd_s, if_pos rfl, x_mark (by rw [upd2_at, if_neg (by decide)]; exact h4), bo_s], FrP_upd (FrP_upd (FrP_upd (FrP_rf M) (by omega)) (by omega)) (by omega), ?_, ?_, ?_⟩
    · rw [upd2_at, if_neg (by decide), upd2_at, if_neg (by decide)]; exact m2
    · rw [upd2_at, if_neg (by decide), upd2_at, if_pos ⟨rfl, rfl⟩]
    · rw [upd2_at, if_pos ⟨rfl, rfl⟩]; exact m2
theorem end_both {Mx : XM} {Mm : MM} {r : Nat → Int32} {n p : Nat} (T : TX Mx r n) (Tm : TM Mm r n) (h : Mx 1 2 = nI p) (hm : Mm.1 0 15 = nI p) (hp : p ≤ n) (h4 : Mx 1 4 = 0) : (∃ (E : Nat) (Mx2 : XM) (Mm2 : MM), E ≤ n ∧ p < E ∧ xEND Mx = some Mx2 ∧ FX8_ends Mm = some (1, Mm2) ∧ FrP Mx Mx2 ∧ F5 Mm Mm2 ∧ Mx2 1 2 = nI E ∧ Mx2 1 4 = 0 ∧ Mm2.1 0 15 = nI E ∧ Mx2 1 5 = Mx 1 5) ∨ (∃ (Mx2 : XM) (Mm2 : MM), xEND Mx = some Mx2 ∧ FX8_ends Mm = some (0, Mm2) ∧ FrP Mx Mx2 ∧ FrN Mm Mm2 ∧ BAD n Mx2 Mm2) := by
  obtain ⟨k1, k2, k3⟩ := SK_ok (r := r) (n := n) (n - p) p (by omega)
  have A : ∀ i, i < n → ∃ x : Nat, x ≤ 255 ∧ r i = nI x := fun i hi => (T.2.2 i hi).2
  obtain ⟨M1, s1, s2, s3, s4⟩ := m_step Tm A hm hp
  have hends : FX8_ends Mm = (if M1.1 0 17 = 59 then some (1, M1) else some (0, um M1 0 20 1)) := by
    unfold FX8_ends FX8_fails
    rw [s1, bo_s, bd_s, if_pos rfl]
  rcases xEND_n T h hp h4 with ⟨e, y1⟩ | ⟨e, M2, y1, y2, y3, y4, y5⟩
  · have hlt : SK r n p < n := by
      by_cases z : SK r n p < n
      · exact z
      · unfold ch at e; rw [if_neg z] at e; exact absurd e (by decide)
    have nd : ¬ isD (ch r n (SK r n p)) := by rw [e]; exact fun z => absurd z.2 (by decide)
    rcases s4 with ⟨z, -⟩ | ⟨-, t17, t15⟩
    · exact absurd z nd
    · rw [if_pos hlt] at t15
      exact Or.inl ⟨SK r n p + 1, _, M1, by omega, by omega, y1, by rw [hends, if_pos (by rw [t17]; exact e)], FrP_upd (FrP_rf Mx) (by omega), s2, by rw [upd2_at, if_pos ⟨rfl, rfl⟩], by rw [upd2_at, if_neg (by decide)]; exact h4, t15, by rw [upd2_at, if_neg (by decide)]⟩
  · have n59 : ¬ M1.1 0 17 = 59 := by
      rcases s4 with ⟨z, t17, -⟩ | ⟨-, t17, -⟩
      · rw [t17]; decide
      · rw [t17]; exact e
    exact Or.inr ⟨M2, um M1 0 20 1, y1, by rw [hends, if_neg n59], y2, FrN_um (FrN_5 s2) (by omega), SK r n p, SK r n p, 1, by decide, y4, y5, by rw [um_at, if_pos ⟨rfl, rfl⟩], by rw [um_at, if_neg (by decide)]; exact s3, y3, k2⟩
