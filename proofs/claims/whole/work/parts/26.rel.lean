/-! ===== the relation of the two memories; remembering ===== -/
def MindI (u : Nat → Int32) (nf : Nat) : Prop := BelI u ∧ (∃ N, N ≤ 90060 ∧ u 14 = nI N ∧ RdI u (8 * N)) ∧ ∃ s, s < 2 ^ nf ∧ u 13 = nI s
def PastR (Mx : XM) (r : Nat → Int32) (cm : Int32) (nf : Nat) : Prop := ∃ cnt nx : Nat, cnt ≤ 20 ∧ nx < 20 ∧ Mx 27 2 = nI cnt ∧ Mx 27 1 = nI nx ∧ cm = nI cnt ∧ ∀ i, i < cnt → MindI (fun k => r (17 * i + k)) nf ∧ ∀ k, k < 17 → r (17 * i + k) = Mx 29 (17 * ((nx + 20 - cnt + i) % 20) + k)
def ImgR (Mx : XM) (r5 r6 : Nat → Int32) (nf : Nat) : Prop := ∃ kb : Nat, kb < 4 ∧ Mx 0 10 = nI kb ∧ ∀ i, i < 2 → r6 i = (if kb.testBit i then 1 else 0) ∧ (kb.testBit i = true → MindI (fun k => r5 (18 * i + k)) nf ∧ (∀ k, k < 17 → r5 (18 * i + k) = Mx 31 (17 * i + k)) ∧ r5 (18 * i + 17) = Mx 32 i ∧ ∃ sd : Nat, sd < 2 ^ 31 ∧ Mx 32 i = nI sd)
def BookR (Mx : XM) (c : Nat) (r : Nat → Int32) (cm : Int32) (mx no : Nat) : Prop := ∃ n : Nat, n ≤ mx ∧ Mx c 2 = nI n ∧ cm = nI n ∧ ∀ i, i < n → (∃ o, o < no ∧ r (2 * i) = nI o) ∧ Mx (c + 1) i = r (2 * i) ∧ Mx (c + 2) i = r (2 * i + 1)
def TextR (Mx : XM) (r : Nat → Int32) (cm : Int32) : Prop := ∃ n : Nat, n ≤ 240 ∧ Mx 1 1 = nI n ∧ cm = nI n ∧ ∀ i, i < n → Mx 2 i = r i ∧ ∃ x : Nat, x ≤ 255 ∧ r i = nI x
def SeedR (Mx : XM) (s : Int64) : Prop := ∃ sd : Nat, sd < 2 ^ 31 ∧ Mx 0 11 = nI sd ∧ s = lN sd
def RRk (Mx : XM) (Mm : MM) (kk no nf hh : Nat) : Prop := CityI (Mm.1 1) kk no nf hh ∧ CityX Mx 3 (Mm.1 1) nf (byG (Mm.1 1)) ∧ MindX Mx 17 (Mm.1 3) ∧ MindI (Mm.1 3) nf ∧ PastR Mx (Mm.1 4) (Mm.1 0 4) nf ∧ ImgR Mx (Mm.1 5) (Mm.1 6) nf ∧ BookR Mx 33 (Mm.1 8) (Mm.1 0 12) 6 no ∧ BookR Mx 36 (Mm.1 9) (Mm.1 0 14) 15 no ∧ TextR Mx (Mm.1 7) (Mm.1 0 9) ∧ Mx 1 5 = Mm.1 0 10 ∧ SeedR Mx Mm.2
def RR (Mx : XM) (Mm : MM) : Prop := ∃ kk no nf hh : Nat, RRk Mx Mm kk no nf hh
-- what stays when rows stay
theorem CityX_eq {M M2 : XM} {d nf : Nat} {g by_ : Nat → Int32} (h : ∀ a, d ≤ a → a ≤ d + 6 → M2 a = M a) (X : CityX M d g nf by_) : CityX M2 d g nf by_ := by
  unfold CityX at X ⊢
  rw [h d (by omega) (by omega), h (d + 2) (by omega) (by omega), h (d + 3) (by omega) (by omega), h (d + 4) (by omega) (by omega), h (d + 5) (by omega) (by omega), h (d + 6) (by omega) (by omega)]
  exact X
theorem MindX_eq {M M2 : XM} {c : Nat} {u : Nat → Int32} (h : ∀ a, c ≤ a → a ≤ c + 2 → M2 a = M a) (X : MindX M c u) : MindX M2 c u := by
  unfold MindX BelX RdX at X ⊢
  rw [h c (by omega) (by omega), h (c + 1) (by omega) (by omega), h (c + 2) (by omega) (by omega)]
  exact X
theorem PastR_eq {M M2 : XM} {r : Nat → Int32} {cm : Int32} {nf : Nat} (h1 : M2 27 = M 27) (h2 : M2 29 = M 29) (X : PastR M r cm nf) : PastR M2 r cm nf := by
  unfold PastR at X ⊢
  rw [h1, h2]
  exact X
theorem ImgR_eq {M M2 : XM} {r5 r6 : Nat → Int32} {nf : Nat} (h1 : M2 0 10 = M 0 10) (h2 : M2 31 = M 31) (h3 : M2 32 = M 32) (X : ImgR M r5 r6 nf) : ImgR M2 r5 r6 nf := by
  unfold ImgR at X ⊢
  rw [h1, h2, h3]
  exact X
theorem BookR_eq {M M2 : XM} {c mx no : Nat} {r : Nat → Int32} {cm : Int32} (h : ∀ a, c ≤ a → a ≤ c + 2 → M2 a = M a) (X : BookR M c r cm mx no) : BookR M2 c r cm mx no := by
  unfold BookR at X ⊢
  rw [h c (by omega) (by omega), h (c + 1) (by omega) (by omega), h (c + 2) (by omega) (by omega)]
  exact X
theorem TextR_eq {M M2 : XM} {r : Nat → Int32} {cm : Int32} (h1 : M2 1 1 = M 1 1) (h2 : M2 2 = M 2) (X : TextR M r cm) : TextR M2 r cm := by
  unfold TextR at X ⊢
  rw [h1, h2]
  exact X
theorem SeedR_eq {M M2 : XM} {s : Int64} (h : M2 0 11 = M 0 11) (X : SeedR M s) : SeedR M2 s := by
  unfold SeedR at X ⊢
  rw [h]
  exact X
def ScrX (M M2 : XM) : Prop := ∀ a, a < 10 ∨ 17 ≤ a ∧ a < 20 ∨ 27 ≤ a → M2 a = M a
def ScrM (M M2 : MM) : Prop := (∀ a, a = 1 ∨ 3 ≤ a ∧ a < 10 → M2.1 a = M.1 a) ∧ M2.1 0 4 = M.1 0 4 ∧ M2.1 0 9 = M.1 0 9 ∧ M2.1 0 10 = M.1 0 10 ∧ M2.1 0 12 = M.1 0 12 ∧ M2.1 0 14 = M.1 0 14 ∧ M2.2 = M.2
theorem ScrX_rf (M : XM) : ScrX M M := fun _ _ => rfl
theorem ScrX_tr {a b c : XM} (h : ScrX a b) (g : ScrX b c) : ScrX a c := fun i hi => (g i hi).trans (h i hi)
theorem ScrM_rf (M : MM) : ScrM M M := ⟨fun _ _ => rfl, rfl, rfl, rfl, rfl, rfl, rfl⟩
theorem ScrM_tr {a b c : MM} (h : ScrM a b) (g : ScrM b c) : ScrM a c := ⟨fun i hi => (g.1 i hi).trans (h.1 i hi), g.2.1.trans h.2.1, g.2.2.1.trans h.2.2.1, g.2.2.2.1.trans h.2.2.2.1, g.2.2.2.2.1.trans h.2.2.2.2.1, g.2.2.2.2.2.1.trans h.2.2.2.2.2.1, g.2.2.2.2.2.2.trans h.2.2.2.2.2.2⟩
theorem ScrX_fr {M M2 : XM} {c : Nat} (hc : c = 20 ∨ c = 23) (h : FrX c M M2) : ScrX M M2 := fun a ha => h a (by omega) (by omega) (by omega)
theorem ScrM_set (M : MM) (r : Nat → Int32) {c : Nat} (h : 10 ≤ c ∨ c = 2) : ScrM M (setR M c r) := ⟨fun a ha => setR_n _ _ (by omega), by rw [setR_n _ _ (by omega)], by rw [setR_n _ _ (by omega)], by rw [setR_n _ _ (by omega)], by rw [setR_n _ _ (by omega)], by rw [setR_n _ _ (by omega)], rfl⟩
theorem RRk_scr {Mx Mx2 : XM} {Mm Mm2 : MM} {kk no nf hh : Nat} (hx : ScrX Mx Mx2) (hm : ScrM Mm Mm2) (h : RRk Mx Mm kk no nf hh) : RRk Mx2 Mm2 kk no nf hh := by
  obtain ⟨m1, m4, m9, m10, m12, m14, m2⟩ := hm
  obtain ⟨a1, a2, a3, a4, a5, a6, a7, a8, a9, a10, a11⟩ := h
  unfold RRk
  rw [m1 1 (by omega), m1 3 (by omega), m1 4 (by omega), m1 5 (by omega), m1 6 (by omega), m1 7 (by omega), m1 8 (by omega), m1 9 (by omega), m4, m9, m10, m12, m14, m2]
  exact ⟨a1, CityX_eq (fun a h1 h2 => hx a (by omega)) a2, MindX_eq (fun a h1 h2 => hx a (by omega)) a3, a4, PastR_eq (hx _ (by omega)) (hx _ (by omega)) a5, ImgR_eq (by rw [hx 0 (by omega)]) (hx _ (by omega)) (hx _ (by omega)) a6, BookR_eq (fun a h1 h2 => hx a (by omega)) a7, BookR_eq (fun a h1 h2 => hx a (by omega)) a8, TextR_eq (by rw [hx 1 (by omega)]) (hx _ (by omega)) a9, by rw [hx 1 (by omega)]; exact a10, SeedR_eq (by rw [hx 0 (by omega)]) a11⟩
/-- another mind, another past -/
theorem RRk_mind {Mx Mx2 : XM} {Mm Mm2 : MM} {kk no nf hh : Nat} (h : RRk Mx Mm kk no nf hh) (hx : ∀ a, 1 ≤ a ∧ a < 10 ∨ 30 ≤ a → Mx2 a = Mx a) (hx0 : Mx2 0 10 = Mx 0 10) (hm : ∀ a, a = 1 ∨ 5 ≤ a ∧ a < 10 → Mm2.1 a = Mm.1 a) (m9 : Mm2.1 0 9 = Mm.1 0 9) (m10 : Mm2.1 0 10 = Mm.1 0 10) (m12 : Mm2.1 0 12 = Mm.1 0 12) (m14 : Mm2.1 0 14 = Mm.1 0 14) (n1 : MindX Mx2 17 (Mm2.1 3)) (n2 : MindI (Mm2.1 3) nf) (n3 : PastR Mx2 (Mm2.1 4) (Mm2.1 0 4) nf) (n4 : SeedR Mx2 Mm2.2) : RRk Mx2 Mm2 kk no nf hh := by
  obtain ⟨a1, a2, a3, a4, a5, a6, a7, a8, a9, a10, a11⟩ := h
  unfold RRk
  rw [hm 1 (by omega), hm 5 (by omega), hm 6 (by omega), hm 7 (by omega), hm 8 (by omega), hm 9 (by omega), m9, m10, m12, m14]
  exact ⟨a1, CityX_eq (fun a h1 h2 => hx a (by omega)) a2, n1, n2, n3, ImgR_eq hx0 (hx _ (by omega)) (hx _ (by omega)) a6, BookR_eq (fun a h1 h2 => hx a (by omega)) a7, BookR_eq (fun a h1 h2 => hx a (by omega)) a8, TextR_eq (by rw [hx 1 (by omega)]) (hx _ (by omega)) a9, by rw [hx 1 (by omega)]; exact a10, n4⟩
theorem rem_n {a d : Nat} (ha : a < 2 ^ 31) (h0 : 0 < d) (hd : d < 2 ^ 31) : nI a - nI a / nI d * nI d = nI (a % d) := pk_rem ha h0 hd
theorem x_push {M : XM} {cnt nx : Nat} (hc : cnt ≤ 20) (hn : nx < 20) (e2 : M 27 2 = nI cnt) (e1 : M 27 1 = nI nx) : ∃ M2, FX4_push 17 M = some M2 ∧ M2 27 1 = nI ((nx + 1) % 20) ∧ M2 27 2 = nI (if cnt = 20 then 20 else cnt + 1) ∧ M2 29 = pt (M 29) (mindFn M 17) (17 * nx) 17 ∧ ∀ a, a ≠ 27 → a ≠ 29 → M2 a = M a := by
  obtain ⟨Ms, eMs⟩ : ∃ Ms, Ms = setX M 29 (pt (M 29) (mindFn M 17) (17 * nx) 17) := ⟨_, rfl⟩
  have hs : FX6_store 28 (nI nx) 17 M = some Ms := by
    rw [eMs]
    exact x_store (s := 28) (c := 17) (by decide) (by decide) (show 17 * nx + 17 ≤ 340 by omega)
  have s27 : Ms 27 = M 27 := by rw [eMs, setX_n _ _ (by decide)]
  have hF : FX4_push 17 M = some (upd2 (upd2 Ms 27 1 (nI ((nx + 1) % 20))) 27 2 (nI (if cnt = 20 then 20 else cnt + 1))) := by
    unfold FX4_push
    rw [e1, hs, bo_s]
    have g1 : Ms 27 1 + 1 - (Ms 27 1 + 1) / 20 * 20 = nI ((nx + 1) % 20) := by
      rw [s27, e1, nI_1]
      exact rem_n (a := nx + 1) (d := 20) (by omega) (by decide) (by decide)
    rw [g1]
    have g2 : upd2 Ms 27 1 (nI ((nx + 1) % 20)) 27 2 = nI cnt := by rw [upd2_at, if_neg (by decide), s27, e2]
    rw [g2, nI_1]
    by_cases h : cnt = 20
    · subst h
      rfl
    · rw [if_neg h]
      by_cases h2 : nI (cnt + 1) < 20
      · rw [if_pos h2]
      · have h3 : ¬ cnt + 1 < 20 := fun q => h2 (nI_lt (b := 20) q (by decide))
        have h4 : cnt + 1 = 20 := by omega
        rw [if_neg h2, h4]
        rfl
  refine ⟨_, hF, ?_, ?_, ?_, fun a h1 h2 => ?_⟩
  · rw [upd2_at, if_neg (by decide), upd2_at, if_pos ⟨rfl, rfl⟩]
  · rw [upd2_at, if_pos ⟨rfl, rfl⟩]
  · rw [upd2_n _ _ _ (by decide), upd2_n _ _ _ (by decide), eMs, setX_c]
  · rw [upd2_n _ _ _ h1, upd2_n _ _ _ h1, eMs, setX_n _ _ h2]
