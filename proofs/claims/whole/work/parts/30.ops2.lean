/-! ===== meet, make, undo, seed, feed ===== -/
theorem MindI_eq {u w : Nat → Int32} {nf : Nat} (h : ∀ k, k < 17 → u k = w k) (I : MindI w nf) : MindI u nf := by
  obtain ⟨i1, ⟨N, i2, i3, i4⟩, s, i5, i6⟩ := I
  exact ⟨fun o ho => by rw [h o (by omega)]; exact i1 o ho, ⟨N, i2, by rw [h 14 (by omega)]; exact i3, fun f hf => by rw [h (5 + f) (by omega)]; exact i4 f hf⟩, s, i5, by rw [h 13 (by omega)]; exact i6⟩
theorem sim_seed : Sim_seed RR := by
  intro Mx Mm h a
  obtain ⟨kk, no, nf, hh, H⟩ := h
  obtain ⟨a1, a2, a3, a4, a5, a6, a7, a8, a9, a10, sd, hsd, s1, s2⟩ := id H
  unfold FX7_seed FX8_seed
  by_cases h0 : 0 ≤ a
  · rw [if_pos h0, if_pos h0]
    refine ans (by rw [s1, s2, lN_i]) ⟨kk, no, nf, hh, ?_⟩
    have g0 := i_le.mp h0
    have z : (0 : Int32).toInt = 0 := rfl
    obtain ⟨j, hj, rfl⟩ := i_nat (a := a) (n := 2 ^ 31) ⟨by omega, by have := a.toInt_lt; omega⟩
    refine RRk_mind H (fun i hi => upd2_n _ _ _ (by omega)) (by rw [upd2_at, if_neg (by decide)]) (fun i _ => rfl) rfl rfl rfl rfl (MindX_eq (fun i _ _ => upd2_n _ _ _ (by omega)) a3) a4 (PastR_eq (upd2_n _ _ _ (by decide)) (upd2_n _ _ _ (by decide)) a5) ⟨j, hj, by rw [upd2_at, if_pos ⟨rfl, rfl⟩], nI_l hj⟩
  · rw [if_neg h0, if_neg h0]
    exact ⟨_, _, _, rfl, rfl, kk, no, nf, hh, H⟩
theorem sim_meet : Sim_meet RR := by
  intro Mx Mm h a b
  obtain ⟨kk, no, nf, hh, H⟩ := h
  obtain ⟨a1, a2, a3, a4, a5, a6, a7, a8, a9, a10, a11⟩ := id H
  obtain ⟨c0, c1, c2, c3, c4, hno, hnf, -, -, hF⟩ := id a1
  unfold FX7_meet FX8_meet
  rw [opin_x (no := no) (by rw [a2.2.1]; exact c1) hno, opin_m c1 hno, bo_s, bo_s]
  by_cases qa : ¬ (0 ≤ a.toInt ∧ a.toInt < no)
  · rw [if_neg qa, if_pos rfl, if_pos rfl]
    exact ⟨_, _, _, rfl, rfl, kk, no, nf, hh, H⟩
  replace qa := Classical.not_not.mp qa
  rw [if_pos qa, if_neg (show ¬ (1 : Int32) = 0 by decide), if_neg (show ¬ (1 : Int32) = 0 by decide), blf_x, in_i (p := 0) (q := 20) rfl rfl, bo_s, bo_s]
  by_cases qb : ¬ (0 ≤ b.toInt ∧ b.toInt ≤ 20)
  · rw [if_neg qb, if_pos rfl, if_pos rfl]
    exact ⟨_, _, _, rfl, rfl, kk, no, nf, hh, H⟩
  replace qb := Classical.not_not.mp qb
  rw [if_pos qb, if_neg (show ¬ (1 : Int32) = 0 by decide), if_neg (show ¬ (1 : Int32) = 0 by decide)]
  obtain ⟨Mx2, Mm2, e1, e2, P, fx, fm, f0, f2⟩ := rem_both a5 a3 a4
  rw [e1, e2, bo_s, bo_s]
  obtain ⟨o, ho, rfl⟩ := i_nat qa
  obtain ⟨v, hv, rfl⟩ := i_nat (a := b) (n := 21) ⟨by omega, by omega⟩
  have b18 : Mx2 18 o = Mm.1 3 o := by rw [fx 18 (by decide) (by decide)]; exact a3.1 o (by omega)
  have r3 : Mm2.1 3 = Mm.1 3 := fm 3 (by decide) (by decide)
  obtain ⟨bl, hbl, ebl⟩ := a4.1 o (by omega)
  obtain ⟨w, ew, hw⟩ : ∃ w : Int32, w = ((2 * (Mm.1 3 o)) + nI v) / 3 ∧ ∃ z : Nat, z ≤ 20 ∧ w = nI z := by
    refine ⟨_, rfl, (2 * bl + v) / 3, by omega, ?_⟩
    rw [ebl, two_n, nI_add]
    exact pk_div (d := 3) (by omega) (by decide) (by decide)
  rw [at_ok (c := 18) (show o < 5 by omega), bo_s, b18]
  rw [show FX7_behindMeeting (Mm.1 3 o) (nI v) = some w from by unfold FX7_behindMeeting; rw [ew], bo_s, put_ok (c := 18) (show o < 5 by omega), bo_s]
  have bI : inb (nI o) 17 := inb_n (by omega) (by decide)
  rw [if_pos bI, if_pos bI, if_pos bI, ix_n (by omega), r3, ← ew]
  refine ans (by rw [um_at, if_pos ⟨rfl, rfl⟩]) ⟨kk, no, nf, hh, ?_⟩
  refine RRk_mind H (fun i hi => ?_) ?_ (fun i hi => ?_) ?_ ?_ ?_ ?_ ?_ ?_ ?_ ?_
  · rw [upd2_n _ _ _ (by omega), fx i (by omega) (by omega)]
  · rw [upd2_n _ _ _ (by decide), fx 0 (by decide) (by decide)]
  · rw [um_setR, setR_n _ _ (by omega), fm i (by omega) (by omega)]
  · rw [um_setR, setR_n _ _ (by decide), f0 9 (by decide)]
  · rw [um_setR, setR_n _ _ (by decide), f0 10 (by decide)]
  · rw [um_setR, setR_n _ _ (by decide), f0 12 (by decide)]
  · rw [um_setR, setR_n _ _ (by decide), f0 14 (by decide)]
  · obtain ⟨m1, m2, m3, m4, m5, m6⟩ := a3
    rw [um_setR, setR_c, r3]
    refine ⟨fun j hj => ?_, fun f hf => ?_, ?_, ?_, ?_, ?_⟩
    · rw [upd2_at, upd_at]
      by_cases hjo : j = o
      · rw [if_pos ⟨rfl, hjo⟩, if_pos hjo]
      · rw [if_neg (fun z => hjo z.2), if_neg hjo, fx _ (by decide) (by decide)]
        exact m1 j hj
    · rw [upd2_n _ _ _ (by decide), upd_at, if_neg (by omega), fx _ (by decide) (by decide)]
      exact m2 f hf
    all_goals rw [upd2_n _ _ _ (by decide), upd_at, if_neg (by omega), fx _ (by decide) (by decide)]
    · exact m3
    · exact m4
    · exact m5
    · exact m6
  · rw [um_setR, setR_c, r3]
    obtain ⟨i1, ⟨N, i2, i3, i4⟩, s, i5, i6⟩ := a4
    refine ⟨fun j hj => ?_, ⟨N, i2, by rw [upd_at, if_neg (by omega)]; exact i3, fun f hf => by rw [upd_at, if_neg (by omega)]; exact i4 f hf⟩, s, i5, by rw [upd_at, if_neg (by omega)]; exact i6⟩
    rw [upd_at]
    by_cases hjo : j = o
    · rw [if_pos hjo]; exact hw
    · rw [if_neg hjo]; exact i1 j hj
  · rw [um_setR, setR_n _ _ (by decide), setR_n _ _ (by decide)]
    exact PastR_eq (upd2_n _ _ _ (by decide)) (upd2_n _ _ _ (by decide)) P
  · rw [um_2, f2]
    exact SeedR_eq (by rw [upd2_n _ _ _ (by decide), fx 0 (by decide) (by decide)]) a11
theorem or_n (a b : Nat) : nI a ||| nI b = nI (a ||| b) := by
  apply Int32.toBitVec_inj.1
  show BitVec.ofNat 32 a ||| BitVec.ofNat 32 b = BitVec.ofNat 32 (a ||| b)
  apply BitVec.eq_of_getLsbD_eq
  intro i hi
  simp [hi]
theorem and_n (a b : Nat) : nI a &&& nI b = nI (a &&& b) := by
  apply Int32.toBitVec_inj.1
  show BitVec.ofNat 32 a &&& BitVec.ofNat 32 b = BitVec.ofNat 32 (a &&& b)
  apply BitVec.eq_of_getLsbD_eq
  intro i hi
  simp [hi]
theorem shl1 : ∀ n, n < 31 → (1 : Int32) <<< (nI n &&& 31) = nI (2 ^ n) := by decide +kernel
theorem sim_make : Sim_make RR := by
  intro Mx Mm h a
  obtain ⟨kk, no, nf, hh, H⟩ := h
  obtain ⟨a1, a2, a3, a4, a5, a6, a7, a8, a9, a10, a11⟩ := id H
  obtain ⟨c0, c1, c2, c3, c4, hno, hnf, -, -, hF⟩ := id a1
  obtain ⟨m1, m2, m3, m4, m5, m6⟩ := id a3
  unfold FX7_make FX8_make
  rw [fact_x (nf := nf) (by rw [a2.2.2.1]; exact c2) hnf, fact_m c2 hnf, bo_s, bo_s]
  by_cases qa : ¬ (0 ≤ a.toInt ∧ a.toInt < nf)
  · rw [if_neg qa, if_pos rfl, if_pos rfl]
    exact ⟨_, _, _, rfl, rfl, kk, no, nf, hh, H⟩
  replace qa := Classical.not_not.mp qa
  obtain ⟨f, hf, rfl⟩ := i_nat qa
  rw [if_pos qa, if_neg (show ¬ (1 : Int32) = 0 by decide), if_neg (show ¬ (1 : Int32) = 0 by decide), has_x _ (by omega), has_m, bo_s, bo_s, m3]
  by_cases hs : sHas (Mm.1 3 13) f
  · rw [if_pos hs, if_neg (show ¬ (1 : Int32) = 0 by decide), if_neg (show ¬ (1 : Int32) = 0 by decide)]
    exact ⟨_, _, _, rfl, rfl, kk, no, nf, hh, H⟩
  rw [if_neg hs, if_pos rfl, if_pos rfl]
  obtain ⟨Mx2, Mm2, e1, e2, P, fx, fm, f0, f2⟩ := rem_both a5 a3 a4
  rw [e1, e2, bo_s, bo_s]
  have r3 : Mm2.1 3 = Mm.1 3 := fm 3 (by decide) (by decide)
  have r1 : Mm2.1 1 = Mm.1 1 := fm 1 (by decide) (by decide)
  have x17 : Mx2 17 = Mx 17 := fx 17 (by decide) (by decide)
  have e42 : (42 : Int32) + nI f = nI (42 + f) := add_n 42 f
  rw [e42, if_pos (inb_n (by omega) (by decide)), ix_n (by omega), r3, x17, m3]
  obtain ⟨so, eso⟩ : ∃ so : Int32, so = Mm.1 3 13 ||| 1 <<< (nI f &&& 31) := ⟨_, rfl⟩
  rw [← eso]
  have g1 : (um Mm2 3 13 so).1 3 15 = Mm.1 3 15 := by rw [um_at, if_neg (by decide), r3]
  have g2 : (um Mm2 3 13 so).1 1 (42 + f) = Mm.1 1 (42 + f) := by rw [um_at, if_neg (by omega), r1]
  have g3 : upd2 Mx2 17 2 so 17 4 = Mm.1 3 15 := by rw [upd2_at, if_neg (by decide), x17, m5]
  have g4 : upd2 Mx2 17 2 so 9 f = Mm.1 1 (42 + f) := by
    rw [upd2_n _ _ _ (by decide), fx 9 (by decide) (by decide)]
    exact (a2.2.2.2.2 f hf).2.2.2.2
  rw [at_ok (c := 9) (show f < 8 by omega), bo_s, g1, g2, g3, g4]
  refine ans (by rw [um_at, if_pos ⟨rfl, rfl⟩, upd2_at, if_pos ⟨rfl, rfl⟩]) ⟨kk, no, nf, hh, ?_⟩
  refine RRk_mind H (fun i hi => ?_) ?_ (fun i hi => ?_) ?_ ?_ ?_ ?_ ?_ ?_ ?_ ?_
  · rw [upd2_n _ _ _ (by omega), upd2_n _ _ _ (by omega), fx i (by omega) (by omega)]
  · rw [upd2_n _ _ _ (by decide), upd2_n _ _ _ (by decide), fx 0 (by decide) (by decide)]
  · rw [um_setR, setR_n _ _ (by omega), um_setR, setR_n _ _ (by omega), fm i (by omega) (by omega)]
  · rw [um_setR, setR_n _ _ (by decide), um_setR, setR_n _ _ (by decide), f0 9 (by decide)]
  · rw [um_setR, setR_n _ _ (by decide), um_setR, setR_n _ _ (by decide), f0 10 (by decide)]
  · rw [um_setR, setR_n _ _ (by decide), um_setR, setR_n _ _ (by decide), f0 12 (by decide)]
  · rw [um_setR, setR_n _ _ (by decide), um_setR, setR_n _ _ (by decide), f0 14 (by decide)]
  · refine ⟨fun j hj => ?_, fun j hj => ?_, ?_, ?_, ?_, ?_⟩
    · rw [upd2_n _ _ _ (by decide), upd2_n _ _ _ (by decide), um_at, if_neg (by omega), um_at, if_neg (by omega), r3, fx _ (by decide) (by decide)]
      exact m1 j hj
    · rw [upd2_n _ _ _ (by decide), upd2_n _ _ _ (by decide), um_at, if_neg (by omega), um_at, if_neg (by omega), r3, fx _ (by decide) (by decide)]
      exact m2 j hj
    · rw [upd2_at, if_neg (by decide), upd2_at, if_pos ⟨rfl, rfl⟩, um_at, if_neg (by decide), um_at, if_pos ⟨rfl, rfl⟩]
    · rw [upd2_at, if_neg (by decide), upd2_at, if_neg (by decide), um_at, if_neg (by decide), um_at, if_neg (by decide), r3, x17]
      exact m4
    · rw [upd2_at, if_pos ⟨rfl, rfl⟩, um_at, if_pos ⟨rfl, rfl⟩]
    · rw [upd2_at, if_neg (by decide), upd2_at, if_neg (by decide), um_at, if_neg (by decide), um_at, if_neg (by decide), r3, x17]
      exact m6
  · obtain ⟨i1, ⟨N, i2, i3, i4⟩, s, i5, i6⟩ := a4
    refine ⟨fun j hj => ?_, ⟨N, i2, ?_, fun j hj => ?_⟩, s ||| 2 ^ f, Nat.or_lt_two_pow i5 (Nat.pow_lt_pow_right (by decide) hf), ?_⟩
    · rw [um_at, if_neg (by omega), um_at, if_neg (by omega), r3]; exact i1 j hj
    · rw [um_at, if_neg (by omega), um_at, if_neg (by omega), r3]; exact i3
    · rw [um_at, if_neg (by omega), um_at, if_neg (by omega), r3]; exact i4 j hj
    · rw [um_at, if_neg (by omega), um_at, if_pos ⟨rfl, rfl⟩, eso, i6, shl1 f (by omega), or_n]
  · rw [um_setR, setR_n _ _ (by decide), setR_n _ _ (by decide), um_setR, setR_n _ _ (by decide), setR_n _ _ (by decide)]
    exact PastR_eq (by rw [upd2_n _ _ _ (by decide), upd2_n _ _ _ (by decide)]) (by rw [upd2_n _ _ _ (by decide), upd2_n _ _ _ (by decide)]) P
  · rw [um_2, um_2, f2]
    exact SeedR_eq (by rw [upd2_n _ _ _ (by decide), upd2_n _ _ _ (by decide), fx 0 (by decide) (by decide)]) a11
theorem sim_feed : Sim_feed RR := by
  intro Mx Mm h a
  obtain ⟨kk, no, nf, hh, H⟩ := h
  obtain ⟨a1, a2, a3, a4, a5, a6, a7, a8, ⟨n, hn, e1, em, hE⟩, a10, a11⟩ := id H
  unfold FX7_feed FX8_feed
  rw [in_i (p := 0) (q := 255) rfl rfl, bo_s]
  have z0 : (0 : Int32).toInt = 0 := rfl
  have z255 : (255 : Int32).toInt = 255 := rfl
  by_cases q : ¬ (0 ≤ a.toInt ∧ a.toInt ≤ 255)
  · rw [if_neg q, if_pos (show (0 : Int32) = 0 from rfl)]
    refine ⟨-1000000002, Mx, Mm, ?_, rfl, kk, no, nf, hh, H⟩
    by_cases h0 : a < 0
    · rw [if_pos h0]
    · have g0 : ¬ a.toInt < (0 : Int32).toInt := fun z => h0 (i_lt.mpr z)
      rw [if_neg h0, if_neg (fun z => by have := i_le.mp z; omega)]
  replace q := Classical.not_not.mp q
  have h0 : ¬ a < 0 := fun z => by have := i_lt.mp z; omega
  rw [if_pos q, if_neg (show ¬ (1 : Int32) = 0 by decide), if_neg h0, if_pos (i_le.mpr (by omega))]
  unfold FX2_append
  rw [e1, em]
  by_cases hf : n = 240
  · subst hf
    rw [if_neg (show ¬ nI 240 < 240 by decide), bd_s, if_pos rfl, if_pos (show nI 240 = 240 from rfl)]
    exact ⟨_, _, _, rfl, rfl, kk, no, nf, hh, H⟩
  have hl : n < 240 := by omega
  rw [if_pos (show nI n < 240 from nI_lt (b := 240) hl (by decide)), put_ok (c := 2) (show n < 240 from hl), bo_s, bd_s, if_neg (show ¬ (1 : Int32) = 0 by decide), if_neg (show ¬ nI n = 240 from fun z => by have := (nI_eq (b := 240) (by omega) (by decide)).mp z; omega), if_pos (inb_n hl (by decide)), ix_n (by omega)]
  have g1 : upd2 Mx 2 n a 1 1 = nI n := by rw [upd2_n _ _ _ (by decide), e1]
  have g2 : (um Mm 7 n a).1 0 9 = nI n := by rw [um_at, if_neg (by omega), em]
  rw [g1, g2, nI_1]
  obtain ⟨x, hx, rfl⟩ := i_nat (a := a) (n := 256) ⟨by omega, by omega⟩
  refine ans (by rw [um_at, if_pos ⟨rfl, rfl⟩, upd2_at, if_pos ⟨rfl, rfl⟩]) ⟨kk, no, nf, hh, ?_⟩
  have rowx : ∀ i, i ≠ 1 → i ≠ 2 → upd2 (upd2 Mx 2 n (nI x)) 1 1 (nI (n + 1)) i = Mx i := fun i h1 h2 => by
    rw [upd2_n _ _ _ h1, upd2_n _ _ _ h2]
  have rowm : ∀ i, i ≠ 0 → i ≠ 7 → (um (um Mm 7 n (nI x)) 0 9 (nI (n + 1))).1 i = Mm.1 i := fun i h0 h7 => by
    rw [um_setR, setR_n _ _ h0, um_setR, setR_n _ _ h7]
  have row0 : ∀ k, k ≠ 9 → (um (um Mm 7 n (nI x)) 0 9 (nI (n + 1))).1 0 k = Mm.1 0 k := fun k hk => by
    rw [um_at, if_neg (fun z => hk z.2), um_at, if_neg (by omega)]
  unfold RRk
  rw [rowm 1 (by decide) (by decide), rowm 3 (by decide) (by decide), rowm 4 (by decide) (by decide), rowm 5 (by decide) (by decide), rowm 6 (by decide) (by decide), rowm 8 (by decide) (by decide), rowm 9 (by decide) (by decide), row0 4 (by decide), row0 10 (by decide), row0 12 (by decide), row0 14 (by decide)]
  refine ⟨a1, CityX_eq (fun i _ _ => rowx i (by omega) (by omega)) a2, MindX_eq (fun i _ _ => rowx i (by omega) (by omega)) a3, a4, PastR_eq (rowx _ (by omega) (by omega)) (rowx _ (by omega) (by omega)) a5, ImgR_eq (by rw [rowx 0 (by omega) (by omega)]) (rowx _ (by omega) (by omega)) (rowx _ (by omega) (by omega)) a6, BookR_eq (fun i _ _ => rowx i (by omega) (by omega)) a7, BookR_eq (fun i _ _ => rowx i (by omega) (by omega)) a8, ⟨n + 1, by omega, by rw [upd2_at, if_pos ⟨rfl, rfl⟩], by rw [um_at, if_pos ⟨rfl, rfl⟩], fun i hi => ?_⟩, by rw [upd2_at, if_neg (by decide), upd2_n _ _ _ (by decide)]; exact a10, SeedR_eq (by rw [rowx 0 (by omega) (by omega)]) a11⟩
  rw [um_at, if_neg (show ¬ (7 = 0 ∧ i = 9) by omega), um_at, upd2_n _ _ _ (by decide), upd2_at]
  by_cases hi2 : i = n
  · rw [if_pos ⟨rfl, hi2⟩, if_pos ⟨rfl, hi2⟩]
    exact ⟨rfl, x, by omega, rfl⟩
  · rw [if_neg (fun z => hi2 z.2), if_neg (fun z => hi2 z.2)]
    exact hE i (by omega)
