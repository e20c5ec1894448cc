/-! ===== city: the reference's tokens ===== -/
def F5 (M0 M : MM) : Prop := (∀ a, a ≠ 0 → M.1 a = M0.1 a) ∧ (∀ b, b < 15 ∨ 19 < b → M.1 0 b = M0.1 0 b) ∧ M.2 = M0.2
theorem F5_rf (M : MM) : F5 M M := ⟨fun _ _ => rfl, fun _ _ => rfl, rfl⟩
theorem F5_um {M0 M : MM} {b : Nat} {v : Int32} (h : F5 M0 M) (hb : 15 ≤ b ∧ b ≤ 19) : F5 M0 (um M 0 b v) := ⟨fun a ha => by funext j; rw [um_at, if_neg (by omega), h.1 a ha], fun c hc => by rw [um_at, if_neg (by omega)]; exact h.2.1 c hc, h.2.2⟩
theorem F5_tr {a b c : MM} (h : F5 a b) (g : F5 b c) : F5 a c := ⟨fun i hi => (g.1 i hi).trans (h.1 i hi), fun i hi => (g.2.1 i hi).trans (h.2.1 i hi), g.2.2.trans h.2.2⟩
theorem TM_F5 {M0 M : MM} {r : Nat → Int32} {n : Nat} (T : TM M0 r n) (h : F5 M0 M) : TM M r n := ⟨by rw [h.2.1 9 (by omega)]; exact T.1, T.2.1, by rw [h.1 7 (by decide)]; exact T.2.2⟩
theorem um_self (M : MM) {c k : Nat} {v : Int32} (h : M.1 c k = v) : um M c k v = M := by
  show (upd2 M.1 c k v, M.2) = M
  rw [upd2_self M.1 h]
theorem um_um (M : MM) (c k : Nat) (v w : Int32) : um (um M c k v) c k w = um M c k w := by
  show (upd2 (upd2 M.1 c k v) c k w, M.2) = (upd2 M.1 c k w, M.2)
  rw [upd2_upd2]
theorem m_skip {r : Nat → Int32} {n : Nat} (K : MM → Option MM) : ∀ (d p k : Nat) (M : MM), p + d = n → d < k → TM M r n → M.1 0 15 = nI p → FX8_step_L0 K k M = K (um M 0 15 (nI (SK r n p))) := by
  intro d
  induction d with
  | zero =>
    intro p k M hp hk T h
    obtain ⟨k, rfl⟩ : ∃ z, k = z + 1 := ⟨k - 1, by omega⟩
    have e : ¬ ch r n p = 32 := fun z => by have := (SK_b z).1; omega
    rw [FX8_step_L0, m_here T h (by omega), bo_s, if_neg e, SK_n e, um_self M h]
  | succ d ih =>
    intro p k M hp hk T h
    obtain ⟨k, rfl⟩ : ∃ z, k = z + 1 := ⟨k - 1, by omega⟩
    rw [FX8_step_L0, m_here T h (by omega), bo_s]
    by_cases e : ch r n p = 32
    · rw [if_pos e, (SK_b e).2, h, nI_1, ih (p + 1) k _ (by omega) (by omega) (TM_F5 T (F5_um (F5_rf M) (by omega))) (by rw [um_at, if_pos ⟨rfl, rfl⟩]), um_um]
    · rw [if_neg e, SK_n e, um_self M h]
theorem m_figs {r : Nat → Int32} {n q : Nat} (K : MM → Option MM) : ∀ (d p k : Nat) (M : MM), p + d = n → d < k → q ≤ p → TM M r n → M.1 0 15 = nI p → M.1 0 18 = nI (p - q) → M.1 0 19 = nI (dv r q (min (p - q) 3)) → (∀ i, q + i < p → isD (r (q + i))) → ∃ M2, FX8_step_L93 K k M = K M2 ∧ F5 M M2 ∧ M2.1 0 15 = nI (SD r n p) ∧ M2.1 0 18 = nI (SD r n p - q) ∧ M2.1 0 19 = nI (dv r q (min (SD r n p - q) 3)) ∧ M2.1 0 16 = M.1 0 16 ∧ M2.1 0 17 = M.1 0 17 := by
  intro d
  induction d with
  | zero =>
    intro p k M hp hk hq T h15 h18 h19 hd
    obtain ⟨k, rfl⟩ : ∃ z, k = z + 1 := ⟨k - 1, by omega⟩
    have e : ¬ isD (ch r n p) := fun z => by have := (SD_d z).1; omega
    rw [FX8_step_L93, m_here T h15 (by omega), bo_s, in_i (p := 48) (q := 57) rfl rfl, bo_s, if_neg e, if_pos rfl, SD_n e]
    exact ⟨M, rfl, F5_rf M, h15, h18, h19, rfl, rfl⟩
  | succ d ih =>
    intro p k M hp hk hq T h15 h18 h19 hd
    obtain ⟨k, rfl⟩ : ∃ z, k = z + 1 := ⟨k - 1, by omega⟩
    have t2 := T.2.1
    rw [FX8_step_L93, m_here T h15 (by omega), bo_s, in_i (p := 48) (q := 57) rfl rfl, bo_s]
    by_cases e : isD (ch r n p)
    · rw [if_pos e, if_neg (show ¬ (1 : Int32) = 0 by decide), jn_s, (SD_d e).2, h18, bo_s]
      have hlt := (SD_d e).1
      have er : ch r n p = r p := ch_lt hlt
      have hd2 : ∀ i, q + i < p + 1 → isD (r (q + i)) := fun i hi => by
        by_cases hip : q + i = p
        · rw [hip, ← er]; exact e
        · exact hd i (by omega)
      have s1 : p + 1 - q = p - q + 1 := by omega
      obtain ⟨s, es⟩ : ∃ s : Int32, s = nI (dv r q (min (p + 1 - q) 3)) := ⟨_, rfl⟩
      obtain ⟨M1, e1⟩ : ∃ M1, M1 = um (um (um M 0 19 s) 0 18 (nI (p - q + 1))) 0 15 (nI (p + 1)) := ⟨_, rfl⟩
      have hM : um (um (um M 0 19 s) 0 18 (((um M 0 19 s).1 0 18) + 1)) 0 15 (((um (um M 0 19 s) 0 18 (((um M 0 19 s).1 0 18) + 1)).1 0 15) + 1) = M1 := by
        have z1 : (um M 0 19 s).1 0 18 = nI (p - q) := by rw [um_at, if_neg (by decide)]; exact h18
        rw [z1, nI_1]
        have z2 : (um (um M 0 19 s) 0 18 (nI (p - q + 1))).1 0 15 = nI p := by rw [um_at, if_neg (by decide), um_at, if_neg (by decide)]; exact h15
        rw [z2, nI_1, e1]
      have F1 : F5 M M1 := by rw [e1]; exact F5_um (F5_um (F5_um (F5_rf M) (by omega)) (by omega)) (by omega)
      obtain ⟨M2, y1, y2, y3, y4, y5, y6, y7⟩ := ih (p + 1) k M1 (by omega) (by omega) (by omega) (TM_F5 T F1) (by rw [e1, um_at, if_pos ⟨rfl, rfl⟩]) (by rw [e1, um_at, if_neg (by decide), um_at, if_pos ⟨rfl, rfl⟩, s1]) (by rw [e1, um_at, if_neg (by decide), um_at, if_neg (by decide), um_at, if_pos ⟨rfl, rfl⟩, es]) hd2
      refine ⟨M2, ?_, F5_tr F1 y2, y3, y4, y5, ?_, ?_⟩
      · have fin : ∀ s' : Int32, s' = s → FX8_step_L93 K k (um (um (um M 0 19 s') 0 18 (((um M 0 19 s').1 0 18) + 1)) 0 15 (((um (um M 0 19 s') 0 18 (((um M 0 19 s').1 0 18) + 1)).1 0 15) + 1)) = K M2 := fun s' hs' => by rw [hs', hM]; exact y1
        by_cases h3 : 3 ≤ p - q
        · rw [if_pos (show (3 : Int32) ≤ nI (p - q) from nI_le (a := 3) (by omega) (by omega))]
          refine fin _ ?_
          rw [h19, es, show min (p - q) 3 = 3 by omega, show min (p + 1 - q) 3 = 3 by omega]
        · rw [if_neg (show ¬ (3 : Int32) ≤ nI (p - q) from nI_ge (b := 3) (by omega) (by decide))]
          refine fin _ ?_
          have hl := dv_lt (r := r) (q := q) (p - q) (fun i hi => hd i (by omega))
          have hp2 : 10 ^ (p - q) ≤ 10 ^ 2 := Nat.pow_le_pow_right (by decide) (by omega)
          rw [h19, es, show min (p - q) 3 = p - q by omega, show min (p + 1 - q) 3 = p - q + 1 by omega, Int32.mul_comm, fig_add (by omega) e, er, dv, show q + (p - q) = p by omega]
      · rw [y6, e1, um_at, if_neg (by decide), um_at, if_neg (by decide), um_at, if_neg (by decide)]
      · rw [y7, e1, um_at, if_neg (by decide), um_at, if_neg (by decide), um_at, if_neg (by decide)]
    · rw [if_neg e, if_pos rfl, SD_n e]
      exact ⟨M, rfl, F5_rf M, h15, h18, h19, rfl, rfl⟩
/-- one token: it begins at q -/
def Tok (r : Nat → Int32) (n q : Nat) (M : MM) : Prop := M.1 0 16 = nI q ∧ ((isD (ch r n q) ∧ M.1 0 17 = 48 ∧ M.1 0 15 = nI (SD r n q) ∧ M.1 0 18 = nI (SD r n q - q) ∧ M.1 0 19 = nI (dv r q (min (SD r n q - q) 3))) ∨ (¬ isD (ch r n q) ∧ M.1 0 17 = ch r n q ∧ M.1 0 15 = nI (if q < n then q + 1 else q)))
theorem m_step {M : MM} {r : Nat → Int32} {n p : Nat} (T : TM M r n) (A : ∀ i, i < n → ∃ x : Nat, x ≤ 255 ∧ r i = nI x) (h : M.1 0 15 = nI p) (hp : p ≤ n) : ∃ M2, FX8_step M = some M2 ∧ F5 M M2 ∧ Tok r n (SK r n p) M2 := by
  obtain ⟨k1, k2, k3⟩ := SK_ok (r := r) (n := n) (n - p) p (by omega)
  obtain ⟨q, eq⟩ : ∃ q, q = SK r n p := ⟨_, rfl⟩
  have t2 := T.2.1
  unfold FX8_step
  rw [m_skip _ (n - p) p fuelN M (by omega) (show n - p < 100000 by omega) T h]
  rw [← eq] at k1 k2 k3 ⊢
  obtain ⟨M1, e1⟩ : ∃ M1, M1 = um M 0 15 (nI q) := ⟨_, rfl⟩
  have F1 : F5 M M1 := by rw [e1]; exact F5_um (F5_rf M) (by omega)
  have m15 : M1.1 0 15 = nI q := by rw [e1, um_at, if_pos ⟨rfl, rfl⟩]
  rw [← e1]
  obtain ⟨Ma, ea⟩ : ∃ Ma, Ma = um M1 0 16 (nI q) := ⟨_, rfl⟩
  have Fa : F5 M Ma := by rw [ea]; exact F5_um F1 (by omega)
  have a15 : Ma.1 0 15 = nI q := by rw [ea, um_at, if_neg (by decide)]; exact m15
  obtain ⟨Mb, eb⟩ : ∃ Mb, Mb = um (um (um Ma 0 17 (ch r n q)) 0 18 0) 0 19 0 := ⟨_, rfl⟩
  have Fb : F5 M Mb := by rw [eb]; exact F5_um (F5_um (F5_um Fa (by omega)) (by omega)) (by omega)
  have b17 : Mb.1 0 17 = ch r n q := by rw [eb, um_at, if_neg (by decide), um_at, if_neg (by decide), um_at, if_pos ⟨rfl, rfl⟩]
  have b15 : Mb.1 0 15 = nI q := by rw [eb, um_at, if_neg (by decide), um_at, if_neg (by decide), um_at, if_neg (by decide)]; exact a15
  have b16 : Mb.1 0 16 = nI q := by rw [eb, um_at, if_neg (by decide), um_at, if_neg (by decide), um_at, if_neg (by decide), ea, um_at, if_pos ⟨rfl, rfl⟩]
  rw [m15, ← ea, m_here (TM_F5 T Fa) a15 k2, bo_s, ← eb, b17, in_i (p := 48) (q := 57) rfl rfl, bo_s]
  by_cases e : isD (ch r n q)
  · rw [if_pos e, if_neg (show ¬ (1 : Int32) = 0 by decide)]
    obtain ⟨Mc, ec⟩ : ∃ Mc, Mc = um Mb 0 17 48 := ⟨_, rfl⟩
    have Fc : F5 M Mc := by rw [ec]; exact F5_um Fb (by omega)
    rw [← ec]
    obtain ⟨M2, y1, y2, y3, y4, y5, y6, y7⟩ := m_figs (r := r) (n := n) (q := q) (fun (M_5 : MM) => some M_5) (n - q) q fuelN Mc (by omega) (show n - q < 100000 by omega) (Nat.le_refl _) (TM_F5 T Fc) (by rw [ec, um_at, if_neg (by decide)]; exact b15) (by rw [ec, um_at, if_neg (by decide), eb, um_at, if_neg (by decide), um_at, if_pos ⟨rfl, rfl⟩, Nat.sub_self]; rfl) (by rw [ec, um_at, if_neg (by decide), eb, um_at, if_pos ⟨rfl, rfl⟩, Nat.sub_self]; rfl) (fun i hi => by omega)
    refine ⟨M2, y1, F5_tr Fc y2, ?_, Or.inl ⟨e, ?_, y3, y4, y5⟩⟩
    · rw [y6, ec, um_at, if_neg (by decide)]; exact b16
    · rw [y7, ec, um_at, if_pos ⟨rfl, rfl⟩]
  · rw [if_neg e, if_pos rfl, b15, jn_s]
    have fin : ∀ s : Int32, nI q + s = nI (if q < n then q + 1 else q) → ∃ M2, some (um Mb 0 15 (nI q + s)) = some M2 ∧ F5 M M2 ∧ Tok r n q M2 := fun s hs => ⟨_, rfl, F5_um Fb (by omega), by rw [um_at, if_neg (by decide)]; exact b16, Or.inr ⟨e, by rw [um_at, if_neg (by decide)]; exact b17, by rw [um_at, if_pos ⟨rfl, rfl⟩]; exact hs⟩⟩
    by_cases hq : q < n
    · obtain ⟨x, hx, ex⟩ := A q hq
      rw [if_pos (show (0 : Int32) ≤ ch r n q by rw [ch_lt hq, ex]; exact nI_le (a := 0) (by omega) (by omega))]
      exact fin 1 (by rw [if_pos hq, nI_1])
    · rw [if_neg (show ¬ (0 : Int32) ≤ ch r n q by unfold ch; rw [if_neg hq]; decide)]
      exact fin 0 (by rw [if_neg hq]; exact add_n q 0)
