/-! ===== city: the draft; a fact ===== -/
def Dr (Mx : XM) (s : Nat → Int32) (kk no nf hh : Nat) : Prop := CityI s kk no nf hh ∧ CityX Mx 10 s nf (byG s) ∧ (∀ o, o < no → Mx 11 o = s (5 + o) ∧ ∃ b, b ≤ 20 ∧ s (5 + o) = nI b) ∧ (∀ o, o < 5 → no ≤ o → s (5 + o) = 0) ∧ Mx 1 6 = s 4 ∧ bo01 (s 4)
def SafeT (r : Nat → Int32) (n : Nat) (t : XM → Option XM) : Prop := ∀ (M : XM) (p : Nat), TX M r n → M 1 2 = nI p → p ≤ n → ¬ M 1 4 = 0 → ∃ M2, t M = some M2 ∧ AF n M M2
theorem AF_upd {n c b p : Nat} {M : XM} {v : Int32} (h : M 1 2 = nI p) (hp : p ≤ n) (hb : (c = 1 ∧ b = 6) ∨ (10 ≤ c ∧ c ≤ 16)) : AF n M (upd2 M c b v) := ⟨FrC_upd (FrC_rf M) (by omega), ⟨p, hp, by rw [upd2_at, if_neg (by omega)]; exact h⟩, by rw [upd2_at, if_neg (by omega)], by rw [upd2_at, if_neg (by omega)]⟩
theorem safe_num {r : Nat → Int32} {n c f : Nat} {a b : Int32} {g : Int32 → Int32} {t : XM → Option XM} (hc : 12 ≤ c ∧ c ≤ 16) (hf : f < 8) (S : SafeT r n t) : SafeT r n (fun M => bd (FX2_readNumber a b M) (fun (r_1 : Int32) (M_2 : XM) => bo (FX7_put c (nI f) (g r_1) M_2) t)) := by
  intro M p T h hp h4
  obtain ⟨M1, y1, y2⟩ := x_numF (a := a) (b := b) T h hp h4
  obtain ⟨E, hE, e2⟩ := y2.2.1
  have l8 : x_len c = 8 := by
    have e : c = 12 ∨ c = 13 ∨ c = 14 ∨ c = 15 ∨ c = 16 := by omega
    rcases e with rfl | rfl | rfl | rfl | rfl <;> rfl
  have y3 : AF n M1 (upd2 M1 c f (g a)) := AF_upd e2 hE (by omega)
  obtain ⟨E3, hE3, e3⟩ := y3.2.1
  obtain ⟨M2, z1, z2⟩ := S (upd2 M1 c f (g a)) E3 (TX_FrC (TX_FrC T y2.1) y3.1) e3 hE3 (by rw [y3.2.2.1, y2.2.2.1]; exact h4)
  refine ⟨M2, ?_, AF_tr y2 (AF_tr y3 z2)⟩
  show bd (FX2_readNumber a b M) _ = _
  rw [y1, bd_s, put_ok (by omega), bo_s]
  exact z1
noncomputable def t5 (f : Nat) (M : XM) : Option XM := bd (FX2_readNumber 0 9 M) (fun (r_15 : Int32) (M_16 : XM) => bo (FX7_put 16 (nI f) r_15 M_16) (fun (M_17 : XM) => some (upd2 M_17 10 2 ((M_17 10 2) + 1))))
noncomputable def t4 (f : Nat) (M : XM) : Option XM := bd (FX2_readNumber 0 20 M) (fun (r_12 : Int32) (M_13 : XM) => bo (FX7_put 15 (nI f) r_12 M_13) (fun (M_14 : XM) => t5 f M_14))
noncomputable def t3b (f : Nat) (r_7 : Int32) (M : XM) : Option XM := bo (FX7_put 14 (nI f) (if r_7 = 9 then -1 else r_7) M) (fun (M_11 : XM) => t4 f M_11)
noncomputable def t3 (f : Nat) (M : XM) : Option XM := bd (FX2_readNumber 0 9 M) (fun (r_7 : Int32) (M_8 : XM) => if r_7 = 9 then t3b f r_7 M_8 else bo (FX1_hasOpinion 10 r_7 M_8) (fun (r_20 : Int32) => (if r_20 = 0 then bo (FX2_mark 2 (M_8 1 3) M_8) (fun (M_22 : XM) => t3b f r_7 M_22) else t3b f r_7 M_8)))
noncomputable def t2 (f : Nat) (M : XM) : Option XM := bd (FX2_readNumber 0 18 M) (fun (r_4 : Int32) (M_5 : XM) => bo (FX7_put 13 (nI f) (r_4 - 9) M_5) (fun (M_6 : XM) => t3 f M_6))
theorem t1_eq {M : XM} {f : Nat} (h : M 10 2 = nI f) : FX2_readFactOf 10 M = bd (FX2_readNumber 0 ((M 10 1) - 1) M) (fun (r_1 : Int32) (M_2 : XM) => bo (FX7_put 12 (nI f) r_1 M_2) (fun (M_3 : XM) => t2 f M_3)) := by
  unfold FX2_readFactOf t2 t3 t3b t4 t5
  rw [h]
  refine congrArg (bd _) (funext fun r1 => funext fun M2 => congrArg (bo _) (funext fun M3 => congrArg (bd _) (funext fun r4 => funext fun M5 => congrArg (bo _) (funext fun M6 => congrArg (bd _) (funext fun r7 => funext fun M8 => ?_)))))
  simp only [jn_s]
  by_cases q : r7 = 9
  · simp only [if_pos q]
  · simp only [if_neg q]
theorem t5_safe {r : Nat → Int32} {n f : Nat} (hf : f < 8) : SafeT r n (t5 f) := safe_num (g := fun v => v) (by omega) hf (fun M p T h hp h4 => ⟨_, rfl, AF_upd h hp (by omega)⟩)
theorem t4_safe {r : Nat → Int32} {n f : Nat} (hf : f < 8) : SafeT r n (t4 f) := safe_num (g := fun v => v) (by omega) hf (t5_safe hf)
theorem t3b_safe {r : Nat → Int32} {n f : Nat} {v : Int32} (hf : f < 8) : SafeT r n (t3b f v) := by
  intro M p T h hp h4
  have y3 : AF n M (upd2 M 14 f (if v = 9 then -1 else v)) := AF_upd h hp (by omega)
  obtain ⟨E3, hE3, e3⟩ := y3.2.1
  obtain ⟨M2, z1, z2⟩ := t4_safe hf _ E3 (TX_FrC T y3.1) e3 hE3 (by rw [y3.2.2.1]; exact h4)
  refine ⟨M2, ?_, AF_tr y3 z2⟩
  unfold t3b
  rw [put_ok (c := 14) (show f < 8 from hf), bo_s]
  exact z1
theorem t3_safe {r : Nat → Int32} {n f : Nat} (hf : f < 8) : SafeT r n (t3 f) := by
  intro M p T h hp h4
  obtain ⟨M1, y1, y2⟩ := x_numF (a := 0) (b := 9) T h hp h4
  obtain ⟨E, hE, e2⟩ := y2.2.1
  have m4 : ¬ M1 1 4 = 0 := by rw [y2.2.2.1]; exact h4
  obtain ⟨M2, z1, z2⟩ := t3b_safe (v := 0) hf M1 E (TX_FrC T y2.1) e2 hE m4
  refine ⟨M2, ?_, AF_tr y2 z2⟩
  unfold t3
  rw [y1, bd_s, if_neg (show ¬ (0 : Int32) = 9 by decide)]
  unfold FX1_hasOpinion
  rw [if_neg (show ¬ (0 : Int32) < 0 by decide)]
  by_cases q : M1 10 1 ≤ 0
  · rw [if_pos q, bo_s, if_pos rfl, x_markF m4, bo_s]; exact z1
  · rw [if_neg q, bo_s, if_neg (show ¬ (1 : Int32) = 0 by decide)]; exact z1
theorem t2_safe {r : Nat → Int32} {n f : Nat} (hf : f < 8) : SafeT r n (t2 f) := safe_num (g := fun v => v - 9) (by omega) hf (t3_safe hf)
/-- a fault tells: what follows does no more -/
theorem bad_fin {r : Nat → Int32} {n : Nat} {t : XM → Option XM} {Mx Mx1 : XM} {Mm1 : MM} (S : SafeT r n t) (T : TX Mx r n) (F : FrC Mx Mx1) (B : BAD n Mx1 Mm1) : ∃ M2 M3, t Mx1 = some M2 ∧ xEND M2 = some M3 ∧ FrC Mx M3 ∧ BAD n M3 Mm1 := by
  obtain ⟨q, E, c, h1, h2, h3, h4, h5, h6, h7⟩ := id B
  obtain ⟨M2, y1, y2⟩ := S Mx1 E (TX_FrC T F) h6 h7 (by rw [h2]; exact h1)
  obtain ⟨E2, hE2, e2⟩ := y2.2.1
  obtain ⟨M3, z1, z2⟩ := xEND_F (TX_FrC (TX_FrC T F) y2.1) e2 hE2 (by rw [y2.2.2.1, h2]; exact h1)
  exact ⟨M2, M3, y1, z1, FrC_tr F (FrC_tr y2.1 z2.1), BAD_AF B (AF_tr y2 z2)⟩
