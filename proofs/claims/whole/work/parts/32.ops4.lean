/-! ===== worn, shun ===== -/
def sWn (g u : Nat → Int32) : Nat → Int32
  | 0 => 0
  | n + 1 => sWn g u n ||| (if byG g n / (1 + u (5 + n)) = 0 then (1 : Int32) <<< (nI n &&& 31) else (0 : Int32))
theorem or_0 (a : Int32) : a ||| 0 = a := Int32.or_zero
theorem sim_worn : Sim_worn RR := by
  intro Mx Mm h
  obtain ⟨kk, no, nf, hh, a1, a2, a3, a4, a5, a6, a7, a8, a9, a10, a11⟩ := h
  obtain ⟨c0, c1, c2, c3, c4, hno, hnf, -, -, hF⟩ := a1
  obtain ⟨m1, m2, m3, m4, m5, m6⟩ := a3
  obtain ⟨i1, ⟨N, i2, i3, i4⟩, s, i5, i6⟩ := a4
  refine ⟨sWn (Mm.1 1) (Mm.1 3) nf, ?_, ?_⟩
  · have L : ∀ (d i k : Nat), i + d = nf → d < k → FX7_worn_L4 Mx (fun (k1_1 : Int32) => some k1_1) k (sWn (Mm.1 1) (Mm.1 3) i) (nI i) = some (sWn (Mm.1 1) (Mm.1 3) nf) := by
      intro d
      induction d with
      | zero =>
        intro i k hi hk
        obtain ⟨k, rfl⟩ : ∃ z, k = z + 1 := ⟨k - 1, by omega⟩
        have e : i = nf := by omega
        subst e
        rw [FX7_worn_L4, show Mx 3 2 = nI i from a2.2.2.1.trans c2, if_pos (nI_le (Nat.le_refl _) (by omega))]
      | succ d ih =>
        intro i k hi hk
        obtain ⟨k, rfl⟩ : ∃ z, k = z + 1 := ⟨k - 1, by omega⟩
        obtain ⟨q, hq, eq⟩ := i4 i (by omega)
        rw [FX7_worn_L4, show Mx 3 2 = nI nf from a2.2.2.1.trans c2, if_neg (nI_ge (by omega) (by omega)), at_ok (c := 6) (show i < 8 by omega), bo_s, at_ok (c := 19) (show i < 8 by omega), bo_s, show Mx 6 i = byG (Mm.1 1) i from (a2.2.2.2.2 i (by omega)).2.1, show Mx 19 i = Mm.1 3 (5 + i) from m2 i (by omega), eq, worn_ok _ (by omega), bo_s, jn_s, nI_1, ← eq]
        have I := ih (i + 1) k (by omega) (by omega)
        rw [sWn] at I
        by_cases h : byG (Mm.1 1) i / (1 + Mm.1 3 (5 + i)) = 0
        · rw [if_pos h] at I ⊢; exact I
        · rw [if_neg h, or_0] at I; rw [if_neg h]; exact I
    exact L nf 0 fuelN (by omega) (show nf < 100000 by omega)
  · have L : ∀ (d i k : Nat), i + d = nf → d < k → FX8_worn_L4 Mm (fun (k1_1 : Int32) => some k1_1) k (sWn (Mm.1 1) (Mm.1 3) i) (nI i) = some (sWn (Mm.1 1) (Mm.1 3) nf) := by
      intro d
      induction d with
      | zero =>
        intro i k hi hk
        obtain ⟨k, rfl⟩ : ∃ z, k = z + 1 := ⟨k - 1, by omega⟩
        have e : i = nf := by omega
        subst e
        rw [FX8_worn_L4, c2, if_pos (nI_le (Nat.le_refl _) (by omega))]
      | succ d ih =>
        intro i k hi hk
        obtain ⟨k, rfl⟩ : ∃ z, k = z + 1 := ⟨k - 1, by omega⟩
        obtain ⟨q, hq, eq⟩ := i4 i (by omega)
        have e5 : (5 : Int32) + nI i = nI (5 + i) := add_n 5 i
        have nz : ¬ (1 + Mm.1 3 (5 + i)) = 0 := by rw [eq, one_add]; exact nI_ne0 (by omega) (by omega)
        rw [FX8_worn_L4, c2, if_neg (nI_ge (by omega) (by omega)), by_m (by omega), bo_s, e5, if_pos (inb_n (by omega) (by decide)), ix_n (by omega), if_neg nz, jn_s, nI_1]
        have I := ih (i + 1) k (by omega) (by omega)
        rw [sWn] at I
        by_cases h : byG (Mm.1 1) i / (1 + Mm.1 3 (5 + i)) = 0
        · rw [if_pos h] at I ⊢; exact I
        · rw [if_neg h] at I ⊢; exact I
    exact L nf 0 fuelN (by omega) (show nf < 100000 by omega)
-- the least and the greatest of 21 by which something holds
def sLst (p : Nat → Prop) [DecidablePred p] : Nat → Int32
  | 0 => -1
  | n + 1 => if p n then (if sLst p n = -1 then nI n else sLst p n) else sLst p n
def sGrt (p : Nat → Prop) [DecidablePred p] : Nat → Int32
  | 0 => -1
  | n + 1 => if p n then nI n else sGrt p n
/-- from the top: among 21 - n .. 20 -/
def sTop (p : Nat → Prop) [DecidablePred p] : Nat → Int32
  | 0 => -1
  | n + 1 => if p (20 - n) then nI (20 - n) else sTop p n
theorem nI_m1 {n : Nat} (h : n < 2 ^ 30) : ¬ nI n = -1 := by
  intro z
  have z1 := congrArg Int32.toInt z
  rw [nI_toInt (by omega)] at z1
  have z2 : (-1 : Int32).toInt = -1 := rfl
  omega
theorem lst_top (p : Nat → Prop) [DecidablePred p] : ∀ d n, n + d = 21 → (if sLst p n = -1 then sTop p d else sLst p n) = sLst p 21 := by
  intro d
  induction d with
  | zero =>
    intro n hn
    have e : n = 21 := by omega
    subst e
    by_cases h : sLst p 21 = -1
    · rw [if_pos h, h]; rfl
    · rw [if_neg h]
  | succ d ih =>
    intro n hn
    rw [← ih (n + 1) (by omega)]
    have e : 20 - d = n := by omega
    rw [sTop, sLst, e]
    by_cases hp : p n
    · rw [if_pos hp, if_pos hp]
      by_cases h : sLst p n = -1
      · rw [if_pos h, if_neg (nI_m1 (by omega))]
      · rw [if_neg h, if_neg h]
    · rw [if_neg hp, if_neg hp]
theorem sim_shun : Sim_shun RR := by
  intro Mx Mm h a b
  obtain ⟨kk, no, nf, hh, a1, a2, a3, a4, a5, a6, a7, a8, a9, a10, a11⟩ := h
  obtain ⟨c0, c1, c2, c3, c4, hno, hnf, -, -, hF⟩ := a1
  unfold FX7_shun FX8_shun
  rw [opin_x (no := no) (by rw [a2.2.1]; exact c1) hno, opin_m c1 hno, bo_s, bo_s]
  by_cases qa : ¬ (0 ≤ a.toInt ∧ a.toInt < no)
  · rw [if_neg qa, if_pos rfl, if_pos rfl]
    exact ⟨_, rfl, rfl⟩
  replace qa := Classical.not_not.mp qa
  rw [if_pos qa, if_neg (show ¬ (1 : Int32) = 0 by decide), if_neg (show ¬ (1 : Int32) = 0 by decide), in_i (p := 0) (q := 1) rfl rfl, bo_s]
  have z0 : (0 : Int32).toInt = 0 := rfl
  have z1 : (1 : Int32).toInt = 1 := rfl
  by_cases qb : ¬ (0 ≤ b.toInt ∧ b.toInt ≤ 1)
  · rw [if_neg qb, if_pos (show (0 : Int32) = 0 from rfl)]
    refine ⟨_, ?_, rfl⟩
    by_cases h0 : b < 0
    · rw [if_pos h0]
    · have g0 : ¬ b.toInt < (0 : Int32).toInt := fun z => h0 (i_lt.mpr z)
      rw [if_neg h0, if_neg (fun z => by have := i_le.mp z; omega)]
  replace qb := Classical.not_not.mp qb
  rw [if_pos qb, if_neg (show ¬ (1 : Int32) = 0 by decide), if_neg (fun z => by have := i_lt.mp z; omega), if_pos (i_le.mpr (by omega))]
  obtain ⟨o, ho, rfl⟩ := i_nat qa
  obtain ⟨w, hw, eb⟩ := i_nat (a := b) (n := 2) ⟨by omega, by omega⟩
  have b18 : Mx 18 o = Mm.1 3 o := a3.1 o (by omega)
  rw [at_ok (c := 18) (show o < 5 by omega), bo_s, b18]
  obtain ⟨own, eown⟩ : ∃ own, own = Mm.1 3 o := ⟨_, rfl⟩
  rw [← eown]
  have x33 : Mx 3 3 = Mm.1 1 3 := a2.2.2.2.1
  have bI : inb (nI o) 17 := inb_n (by omega) (by decide)
  have iI : ix (nI o) = o := ix_n (by omega)
  by_cases hc : own < Mm.1 1 3
  · refine ⟨-1, ?_, ?_⟩
    · rw [show fuelN = 99999 + 1 from rfl, FX7_shun_L47, if_neg (by decide), x33, if_pos hc]
      by_cases hb0 : b = 0
      · rw [if_pos hb0]
      · rw [if_neg hb0]
    · rw [show fuelN = 99999 + 1 from rfl, FX8_shun_L29, if_neg (by decide), if_pos bI, iI, ← eown, if_pos hc]
  · -- the property
    obtain ⟨p, ep⟩ : ∃ p : Nat → Prop, p = fun v => ¬ Mm.1 1 3 ≤ (2 * own + nI v) / 3 := ⟨_, rfl⟩
    have hdp : ∀ v, Decidable (p v) := fun v => Classical.propDecidable _
    have ip : ∀ v, p v ↔ ¬ Mm.1 1 3 ≤ (2 * own + nI v) / 3 := fun v => by rw [ep]
    have LX : ∀ (d i k : Nat), i + d = 21 → d < k → FX7_shun_L47 b own Mx (fun (k4_6 : Int32) (k5_7 : Int32) => (if b = 0 then some k4_6 else some k5_7)) k (@sLst p hdp i) (@sGrt p hdp i) (nI i) = (if b = 0 then some (@sLst p hdp 21) else some (@sGrt p hdp 21)) := by
      intro d
      induction d with
      | zero =>
        intro i k hi hk
        obtain ⟨k, rfl⟩ : ∃ z, k = z + 1 := ⟨k - 1, by omega⟩
        have e : i = 21 := by omega
        subst e
        rw [FX7_shun_L47, if_pos (by decide)]
      | succ d ih =>
        intro i k hi hk
        obtain ⟨k, rfl⟩ : ∃ z, k = z + 1 := ⟨k - 1, by omega⟩
        rw [FX7_shun_L47, if_neg (show ¬ (20 : Int32) < nI i from nI_nlt (b := i) (a := 20) (by omega) (by decide)), x33, if_neg hc]
        rw [show FX7_behindMeeting own (nI i) = some ((2 * own + nI i) / 3) from rfl, bo_s, jn_s, nI_1]
        have I := ih (i + 1) k (by omega) (by omega)
        rw [sLst, sGrt] at I
        by_cases hp : Mm.1 1 3 ≤ (2 * own + nI i) / 3
        · have np : ¬ p i := fun z => (ip i).mp z hp
          rw [if_neg np, if_neg np] at I
          rw [if_pos hp]
          exact I
        · have np : p i := (ip i).mpr hp
          rw [if_pos np, if_pos np] at I
          rw [if_neg hp, jn_s]
          by_cases hl : @sLst p hdp i = -1
          · rw [if_pos hl] at I ⊢; exact I
          · rw [if_neg hl] at I ⊢; exact I
    have eX := LX 21 0 fuelN rfl (show 21 < 100000 by omega)
    have LM : ∀ (f : Nat → Int32), (∀ i, i < 21 → f (i + 1) = if p (if b = 0 then 20 - i else i) then nI (if b = 0 then 20 - i else i) else f i) → ∀ (d i k : Nat), i + d = 21 → d < k → FX8_shun_L29 (nI o) b Mm (fun (k3_5 : Int32) => some k3_5) k (f i) (nI i) = some (f 21) := by
      intro f hf d
      induction d with
      | zero =>
        intro i k hi hk
        obtain ⟨k, rfl⟩ : ∃ z, k = z + 1 := ⟨k - 1, by omega⟩
        have e : i = 21 := by omega
        subst e
        rw [FX8_shun_L29, if_pos (by decide)]
      | succ d ih =>
        intro i k hi hk
        obtain ⟨k, rfl⟩ : ∃ z, k = z + 1 := ⟨k - 1, by omega⟩
        rw [FX8_shun_L29, if_neg (show ¬ (20 : Int32) < nI i from nI_nlt (b := i) (a := 20) (by omega) (by decide)), if_pos bI, iI, ← eown, if_neg hc, jn_s]
        simp only [if_pos bI, jn_s, nI_1]
        have I := ih (i + 1) k (by omega) (by omega)
        rw [hf i (by omega)] at I
        have e20 : (20 : Int32) - nI i = nI (20 - i) := by
          have i20 : i ≤ 20 := by omega
          exact pk_sub (a := 20) (b := i) i20
        by_cases hb0 : b = 0
        · rw [if_pos hb0] at I
          rw [if_pos hb0, e20]
          by_cases hp : Mm.1 1 3 ≤ (2 * own + nI (20 - i)) / 3
          · rw [if_neg (fun z => (ip _).mp z hp)] at I
            rw [if_pos hp]; exact I
          · rw [if_pos ((ip _).mpr hp)] at I
            rw [if_neg hp]; exact I
        · rw [if_neg hb0] at I
          rw [if_neg hb0]
          by_cases hp : Mm.1 1 3 ≤ (2 * own + nI i) / 3
          · rw [if_neg (fun z => (ip _).mp z hp)] at I
            rw [if_pos hp]; exact I
          · rw [if_pos ((ip _).mpr hp)] at I
            rw [if_neg hp]; exact I
    by_cases hb0 : b = 0
    · refine ⟨@sLst p hdp 21, ?_, ?_⟩
      · rw [if_pos hb0] at eX; exact eX
      · have := LM (@sTop p hdp) (fun i hi => by rw [sTop, if_pos hb0]) 21 0 fuelN rfl (show 21 < 100000 by omega)
        rw [show @sTop p hdp 21 = @sLst p hdp 21 from @lst_top p hdp 21 0 rfl] at this
        exact this
    · refine ⟨@sGrt p hdp 21, ?_, ?_⟩
      · rw [if_neg hb0] at eX; exact eX
      · exact LM (@sGrt p hdp) (fun i hi => by rw [sGrt, if_neg hb0]) 21 0 fuelN rfl (show 21 < 100000 by omega)
