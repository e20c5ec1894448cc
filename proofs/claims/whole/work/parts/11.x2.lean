noncomputable def FX7_belief (a1 : Int32) (M : (Nat → Nat → Int32)) : Option Int32 :=
  bo (FX1_hasOpinion 3 a1 M) (fun (r_1 : Int32) => (if r_1 = 0 then some (-1000000001) else bo (FX7_at 18 a1 M) (fun (r_3 : Int32) => some r_3)))
set_option maxHeartbeats 4000000 in
set_option maxRecDepth 100000 in
theorem tX7_belief (l : Launch) (dC : Nat → ClassId) (dI : Nat → Nat → Nat) (kI : ClassId) (ad : Nat → Nat) (a1 : Int32) (M : (Nat → Nat → Int32))  {r0 : Int32} (h : FX7_belief a1 M = some r0) : Met l yX7_belief (wsA yX7_belief cX7_belief 2 (some .int)) ({ frames := 1, cells := 0, slots := 0, locals := 21 } : Room) (va_Pc [.ref (ad (0)), .int (a1)] (gI (x_Wd dC dI kI ad) (x_Kn dC dI kI ad) M)) (va_Qi (fun (r : Int32) (u : (Nat → Nat → Int32)) => r = r0 ∧ u = M) (gI (x_Wd dC dI kI ad) (x_Kn dC dI kI ad)) (x_A ad)) 0 0 (x_A ad) := by
  refine Met.ofW (cc := cX7_belief) (maxL := 2) (ret := (some .int)) (by decide) rfl ?_
  intro p e s m args below meth c s₁ B hml hv
  obtain ⟨rfl, hP, hKn⟩ := hv
  have hx := B.exec
  have hb := B.bytes
  have hr := B.returns
  have hts := atoms_spec (ws := wsA yX7_belief cX7_belief 2 (some .int)) B.pre
  have hg : ∀ w ∈ lw_good, w.before _ s = true := fun w h => hts w (List.mem_cons_of_mem _ h)
  have hown : s.vm.findClass RX7 = some m.cls := findClass_of_methodNamed B.named
  have hlocks := B.notSynchronized
  have hS : va_S (x_A ad) s.heap s.heap [] := va_S.rf
  have hFx : gFix p c cX7_belief 2 s m _ RX7 := ⟨hx, hb, hml, hown, hg⟩
  have hP : va_P (dC, dI) vwCl (x_w kI ad M) s.heap := hP
  have hl := lv_entry ([.ref (ad (0)), .int (a1)]) (n := 2) (Nat.le_of_ble_eq_true rfl)
  rw [lg_entry_eq]
  generalize (lg_sl ([.ref (ad (0)), .int (a1)]) ++ List.replicate (2 - (lg_sl ([.ref (ad (0)), .int (a1)])).length) Slot.unset).toArray = ls at hl ⊢
  have hl : lv_has ls 2 [(0, .ref (ad (0))), (1, .int (a1))] := hl
  unfold FX7_belief at h
  refine lv_aload_n hx hb dX7_belief_0 rfl (lv_at hl 0 rfl) ?_
  refine va_get (D := (dC, dI)) (ci := 7) (v := .ref (ad (3))) (C := RX7) (T := TX7) (N := 14) hx hb hg inX7 hown hKn.1 hP (0) (x_at7 (c := 0) (by decide)) rfl 1 (Nat.le_of_ble_eq_true rfl) (hg _ lkF_X7_19) (fun _ h9 => h9) rfl dX7_belief_1 ?_
  refine lv_iload_n hx hb dX7_belief_4 rfl (lv_at hl 1 rfl) ?_
  obtain ⟨r_1, e5, h⟩ := bo_use h
  refine gc_i (va_runVN (As := [.int (a1)]) (rest := []) hFx (tX1_hasOpinion l dC dI kI ad 3 a1 M (by decide) e5) ⟨(gc_N hFx hKn.2.2 ck_yX1_hasOpinion nkM_X7_139 ⟨Nat.le_of_ble_eq_true rfl, Nat.le_of_ble_eq_true rfl⟩ rfl rfl), hg _ vi_yX1_hasOpinion, hg _ vs_yX1_hasOpinion⟩ (gp_V x_KnB (x_KnW hKn) hP (x_rc1 (c := 3) (by decide) hKn hP)) rfl rfl hl.1 rfl (lv_room (Nat.le_of_ble_eq_true rfl)) dX7_belief_5 ⟨Nat.zero_le _, Nat.zero_le _⟩) hS (fun H locs hP hS => ?_)
  have hP : va_P (dC, dI) vwCl (x_w kI ad M) H := hP
  refine lv_if_eq (tgt := 25) hx hb dX7_belief_8 (by decide) (fun c_2 => ?_) (fun c_2 => ?_)
  · have h := ife_t c_2 h
    refine lv_ldc hx hb hown (hg _ kc_X7_149) dX7_belief_25 ?_
    exact W.iret (v := (-1000000001)) hx hb hr (fun t ht hW => ⟨⟨(-1000000001), M, rfl, ⟨Option.some.inj h, rfl⟩, by rw [ht]; exact hP, x_KnW hKn t hW⟩, hS.F ht⟩) hS.2.2 dX7_belief_27
  · have h := ife_f c_2 h
    refine lv_aload_n hx hb dX7_belief_11 rfl (lv_at hl 0 rfl) ?_
    refine va_get (D := (dC, dI)) (ci := 7) (v := .ref (ad (17))) (C := RX7) (T := TX7) (N := 14) hx hb hg inX7 hown hKn.1 hP (0) (x_at7 (c := 0) (by decide)) rfl 3 (Nat.le_of_ble_eq_true rfl) (hg _ lkF_X7_29) (fun _ h9 => h9) rfl dX7_belief_12 ?_
    refine va_getN (D := (dC, dI)) (ci := 3) (v := .ref (ad (18))) (C := RX3) (T := TX3) (N := 6) hx hb hg inX3 hown hKn.1 hP (17) (x_at3 (c := 17) (by decide)) rfl 0 (Nat.le_of_ble_eq_true rfl) (nest_use hKn.2.2 nkF_X7_142) (fun _ h9 => h9) rfl dX7_belief_15 ?_
    refine lv_iload_n hx hb dX7_belief_18 rfl (lv_at hl 1 rfl) ?_
    obtain ⟨r_3, e19, h⟩ := bo_use h
    refine gc_i (va_runS (As := [.ref (ad (18)), .int (a1)]) (rest := []) hFx (tX7_at l dC dI kI ad 18 a1 M (by decide) e19) ⟨(gc_B hFx ck_yX7_at lkM_X7_145 ⟨Nat.le_of_ble_eq_true rfl, Nat.le_of_ble_eq_true rfl⟩ rfl rfl), hg _ st_yX7_at⟩ (gp_S x_KnB (x_KnW hKn) hP) rfl rfl hl.1 rfl (lv_room (Nat.le_of_ble_eq_true rfl)) dX7_belief_19 ⟨Nat.zero_le _, Nat.zero_le _⟩) hS (fun H locs hP hS => ?_)
    have hP : va_P (dC, dI) vwCl (x_w kI ad M) H := hP
    refine lv_goto (tgt := 27) hx hb dX7_belief_22 (by decide) ?_
    exact W.iret (v := r_3) hx hb hr (fun t ht hW => ⟨⟨r_3, M, rfl, ⟨Option.some.inj h, rfl⟩, by rw [ht]; exact hP, x_KnW hKn t hW⟩, hS.F ht⟩) hS.2.2 dX7_belief_27
noncomputable def FX7_mayBe (a1 : Int32) (M : (Nat → Nat → Int32)) : Option Int32 :=
  (if (M 3 1) ≤ 0 then some 0 else bo (FX1_fits 3 a1 M) (fun (r_2 : Int32) => (if r_2 = 0 then some 0 else (if (a1 &&& ((M 17 2) ^^^ (-1))) = 0 then some 1 else some 0))))
set_option maxHeartbeats 4000000 in
set_option maxRecDepth 100000 in
theorem tX7_mayBe (l : Launch) (dC : Nat → ClassId) (dI : Nat → Nat → Nat) (kI : ClassId) (ad : Nat → Nat) (a1 : Int32) (M : (Nat → Nat → Int32))  {r0 : Int32} (h : FX7_mayBe a1 M = some r0) : Met l yX7_mayBe (wsA yX7_mayBe cX7_mayBe 2 (some .boolean)) ({ frames := 2, cells := 0, slots := 0, locals := 41 } : Room) (va_Pc [.ref (ad (0)), .int (a1)] (gI (x_Wd dC dI kI ad) (x_Kn dC dI kI ad) M)) (va_Qi (fun (r : Int32) (u : (Nat → Nat → Int32)) => r = r0 ∧ u = M) (gI (x_Wd dC dI kI ad) (x_Kn dC dI kI ad)) (x_A ad)) 0 0 (x_A ad) := by
  refine Met.ofW (cc := cX7_mayBe) (maxL := 2) (ret := (some .boolean)) (by decide) rfl ?_
  intro p e s m args below meth c s₁ B hml hv
  obtain ⟨rfl, hP, hKn⟩ := hv
  have hx := B.exec
  have hb := B.bytes
  have hr := B.returns
  have hts := atoms_spec (ws := wsA yX7_mayBe cX7_mayBe 2 (some .boolean)) B.pre
  have hg : ∀ w ∈ lw_good, w.before _ s = true := fun w h => hts w (List.mem_cons_of_mem _ h)
  have hown : s.vm.findClass RX7 = some m.cls := findClass_of_methodNamed B.named
  have hlocks := B.notSynchronized
  have hS : va_S (x_A ad) s.heap s.heap [] := va_S.rf
  have hFx : gFix p c cX7_mayBe 2 s m _ RX7 := ⟨hx, hb, hml, hown, hg⟩
  have hP : va_P (dC, dI) vwCl (x_w kI ad M) s.heap := hP
  have hl := lv_entry ([.ref (ad (0)), .int (a1)]) (n := 2) (Nat.le_of_ble_eq_true rfl)
  rw [lg_entry_eq]
  generalize (lg_sl ([.ref (ad (0)), .int (a1)]) ++ List.replicate (2 - (lg_sl ([.ref (ad (0)), .int (a1)])).length) Slot.unset).toArray = ls at hl ⊢
  have hl : lv_has ls 2 [(0, .ref (ad (0))), (1, .int (a1))] := hl
  unfold FX7_mayBe at h
  refine lv_aload_n hx hb dX7_mayBe_0 rfl (lv_at hl 0 rfl) ?_
  refine va_get (D := (dC, dI)) (ci := 7) (v := .ref (ad (3))) (C := RX7) (T := TX7) (N := 14) hx hb hg inX7 hown hKn.1 hP (0) (x_at7 (c := 0) (by decide)) rfl 1 (Nat.le_of_ble_eq_true rfl) (hg _ lkF_X7_19) (fun _ h9 => h9) rfl dX7_mayBe_1 ?_
  refine va_getN (D := (dC, dI)) (ci := 1) (v := .int ((M 3 1))) (C := RX1) (T := TX1) (N := 10) hx hb hg inX1 hown hKn.1 hP (3) (x_at1 (c := 3) (by decide)) rfl 1 (Nat.le_of_ble_eq_true rfl) (nest_use hKn.2.2 nkF_X7_116) (fun _ h9 => h9) rfl dX7_mayBe_4 ?_
  refine lv_if_le (tgt := 39) hx hb dX7_mayBe_7 (by decide) (fun c_1 => ?_) (fun c_1 => ?_)
  · have h := ife_t c_1 h
    refine lv_iconst (v := 0) hx hb dX7_mayBe_39 (by decide) ?_
    exact W.zret (v := 0) hx hb hr rfl (fun t ht hW => ⟨⟨0, M, rfl, ⟨Option.some.inj h, rfl⟩, by rw [ht]; exact hP, x_KnW hKn t hW⟩, hS.F ht⟩) hS.2.2 dX7_mayBe_40
  · have h := ife_f c_1 h
    refine lv_aload_n hx hb dX7_mayBe_10 rfl (lv_at hl 0 rfl) ?_
    refine va_get (D := (dC, dI)) (ci := 7) (v := .ref (ad (3))) (C := RX7) (T := TX7) (N := 14) hx hb hg inX7 hown hKn.1 hP (0) (x_at7 (c := 0) (by decide)) rfl 1 (Nat.le_of_ble_eq_true rfl) (hg _ lkF_X7_19) (fun _ h9 => h9) rfl dX7_mayBe_11 ?_
    refine lv_iload_n hx hb dX7_mayBe_14 rfl (lv_at hl 1 rfl) ?_
    obtain ⟨r_2, e15, h⟩ := bo_use h
    refine gc_i (va_runVN (As := [.int (a1)]) (rest := []) hFx (tX1_fits l dC dI kI ad 3 a1 M (by decide) e15) ⟨(gc_N hFx hKn.2.2 ck_yX1_fits nkM_X7_232 ⟨Nat.le_of_ble_eq_true rfl, Nat.le_of_ble_eq_true rfl⟩ rfl rfl), hg _ vi_yX1_fits, hg _ vs_yX1_fits⟩ (gp_V x_KnB (x_KnW hKn) hP (x_rc1 (c := 3) (by decide) hKn hP)) rfl rfl hl.1 rfl (lv_room (Nat.le_of_ble_eq_true rfl)) dX7_mayBe_15 ⟨Nat.zero_le _, Nat.zero_le _⟩) hS (fun H locs hP hS => ?_)
    have hP : va_P (dC, dI) vwCl (x_w kI ad M) H := hP
    refine lv_if_eq (tgt := 39) hx hb dX7_mayBe_18 (by decide) (fun c_3 => ?_) (fun c_3 => ?_)
    · have h := ife_t c_3 h
      refine lv_iconst (v := 0) hx hb dX7_mayBe_39 (by decide) ?_
      exact W.zret (v := 0) hx hb hr rfl (fun t ht hW => ⟨⟨0, M, rfl, ⟨Option.some.inj h, rfl⟩, by rw [ht]; exact hP, x_KnW hKn t hW⟩, hS.F ht⟩) hS.2.2 dX7_mayBe_40
    · have h := ife_f c_3 h
      refine lv_iload_n hx hb dX7_mayBe_21 rfl (lv_at hl 1 rfl) ?_
      refine lv_aload_n hx hb dX7_mayBe_22 rfl (lv_at hl 0 rfl) ?_
      refine va_get (D := (dC, dI)) (ci := 7) (v := .ref (ad (17))) (C := RX7) (T := TX7) (N := 14) hx hb hg inX7 hown hKn.1 hP (0) (x_at7 (c := 0) (by decide)) rfl 3 (Nat.le_of_ble_eq_true rfl) (hg _ lkF_X7_29) (fun _ h9 => h9) rfl dX7_mayBe_23 ?_
      refine va_getN (D := (dC, dI)) (ci := 3) (v := .int ((M 17 2))) (C := RX3) (T := TX3) (N := 6) hx hb hg inX3 hown hKn.1 hP (17) (x_at3 (c := 17) (by decide)) rfl 2 (Nat.le_of_ble_eq_true rfl) (nest_use hKn.2.2 nkF_X7_131) (fun _ h9 => h9) rfl dX7_mayBe_26 ?_
      refine lv_iconst (v := -1) hx hb dX7_mayBe_29 (by decide) ?_
      refine lv_ixor hx hb dX7_mayBe_30 ?_
      refine lv_iand hx hb dX7_mayBe_31 ?_
      refine lv_if_ne (tgt := 39) hx hb dX7_mayBe_32 (by decide) (fun c_4 => ?_) (fun c_4 => ?_)
      · have h := ife_f c_4 h
        refine lv_iconst (v := 0) hx hb dX7_mayBe_39 (by decide) ?_
        exact W.zret (v := 0) hx hb hr rfl (fun t ht hW => ⟨⟨0, M, rfl, ⟨Option.some.inj h, rfl⟩, by rw [ht]; exact hP, x_KnW hKn t hW⟩, hS.F ht⟩) hS.2.2 dX7_mayBe_40
      · have h := ife_t c_4 h
        refine lv_iconst (v := 1) hx hb dX7_mayBe_35 (by decide) ?_
        refine lv_goto (tgt := 40) hx hb dX7_mayBe_36 (by decide) ?_
        exact W.zret (v := 1) hx hb hr rfl (fun t ht hW => ⟨⟨1, M, rfl, ⟨Option.some.inj h, rfl⟩, by rw [ht]; exact hP, x_KnW hKn t hW⟩, hS.F ht⟩) hS.2.2 dX7_mayBe_40
noncomputable def FX7_reachedBehind_L37 (K : Int32 → (Nat → Nat → Int32) → Option (Int32 × (Nat → Nat → Int32))) (k : Nat) (v2_6 : Int32) (v3_7 : Int32) (M_8 : (Nat → Nat → Int32)) : Option (Int32 × (Nat → Nat → Int32)) := match k with
  | 0 => none
  | k + 1 => (if (1 <<< ((M_8 3 2) &&& 31)) ≤ v3_7 then K v2_6 M_8 else bo (FX7_mayBe v3_7 M_8) (fun (r_10 : Int32) => jn (fun (j2_11 : Int32) (M_12 : (Nat → Nat → Int32)) => FX7_reachedBehind_L37 K k j2_11 (v3_7 + 1) M_12) (fun J95 => (if r_10 = 0 then J95 v2_6 M_8 else bo (FX3_copyFrom 23 20 M_8) (fun (M_14 : (Nat → Nat → Int32)) => bo (FX3_spendNight 23 3 v3_7 M_14) (fun (M_15 : (Nat → Nat → Int32)) => bo (FX3_convincedOf 23 3 M_15) (fun (r_16 : Int32) => J95 (v2_6 ||| r_16) M_15)))))))
noncomputable def FX7_reachedBehind (a1 : Int32) (M : (Nat → Nat → Int32)) : Option (Int32 × (Nat → Nat → Int32)) :=
  bo (FX3_copyFrom 20 17 M) (fun (M_1 : (Nat → Nat → Int32)) => bo (FX3_spendNight 20 3 a1 M_1) (fun (M_2 : (Nat → Nat → Int32)) => bo (FX3_convincedOf 20 3 M_2) (fun (r_3 : Int32) => FX7_reachedBehind_L37 (fun (k2_4 : Int32) (M_5 : (Nat → Nat → Int32)) => some (k2_4, M_5)) fuelN r_3 0 M_2)))
set_option maxHeartbeats 4000000 in
set_option maxRecDepth 100000 in
theorem tX7_reachedBehind (l : Launch) (dC : Nat → ClassId) (dI : Nat → Nat → Nat) (kI : ClassId) (ad : Nat → Nat) (a1 : Int32) (M : (Nat → Nat → Int32))  {r0 : Int32} {M0 : (Nat → Nat → Int32)} (h : FX7_reachedBehind a1 M = some (r0, M0)) : Met l yX7_reachedBehind (wsA yX7_reachedBehind cX7_reachedBehind 4 (some .int)) ({ frames := 3, cells := 0, slots := 0, locals := 72 } : Room) (va_Pc [.ref (ad (0)), .int (a1)] (gI (x_Wd dC dI kI ad) (x_Kn dC dI kI ad) M)) (va_Qi (fun (r : Int32) (u : (Nat → Nat → Int32)) => r = r0 ∧ u = M0) (gI (x_Wd dC dI kI ad) (x_Kn dC dI kI ad)) (x_A ad)) 0 0 (x_A ad) := by
  refine Met.ofW (cc := cX7_reachedBehind) (maxL := 4) (ret := (some .int)) (by decide) rfl ?_
  intro p e s m args below meth c s₁ B hml hv
  obtain ⟨rfl, hP, hKn⟩ := hv
  have hx := B.exec
  have hb := B.bytes
  have hr := B.returns
  have hts := atoms_spec (ws := wsA yX7_reachedBehind cX7_reachedBehind 4 (some .int)) B.pre
  have hg : ∀ w ∈ lw_good, w.before _ s = true := fun w h => hts w (List.mem_cons_of_mem _ h)
  have hown : s.vm.findClass RX7 = some m.cls := findClass_of_methodNamed B.named
  have hlocks := B.notSynchronized
  have hS : va_S (x_A ad) s.heap s.heap [] := va_S.rf
  have hFx : gFix p c cX7_reachedBehind 4 s m _ RX7 := ⟨hx, hb, hml, hown, hg⟩
  have hP : va_P (dC, dI) vwCl (x_w kI ad M) s.heap := hP
  have hl := lv_entry ([.ref (ad (0)), .int (a1)]) (n := 4) (Nat.le_of_ble_eq_true rfl)
  rw [lg_entry_eq]
  generalize (lg_sl ([.ref (ad (0)), .int (a1)]) ++ List.replicate (4 - (lg_sl ([.ref (ad (0)), .int (a1)])).length) Slot.unset).toArray = ls at hl ⊢
  have hl : lv_has ls 4 [(0, .ref (ad (0))), (1, .int (a1))] := hl
  unfold FX7_reachedBehind at h
  refine lv_aload_n hx hb dX7_reachedBehind_0 rfl (lv_at hl 0 rfl) ?_
  refine va_get (D := (dC, dI)) (ci := 7) (v := .ref (ad (20))) (C := RX7) (T := TX7) (N := 14) hx hb hg inX7 hown hKn.1 hP (0) (x_at7 (c := 0) (by decide)) rfl 4 (Nat.le_of_ble_eq_true rfl) (hg _ lkF_X7_33) (fun _ h9 => h9) rfl dX7_reachedBehind_1 ?_
  refine lv_aload_n hx hb dX7_reachedBehind_4 rfl (lv_at hl 0 rfl) ?_
  refine va_get (D := (dC, dI)) (ci := 7) (v := .ref (ad (17))) (C := RX7) (T := TX7) (N := 14) hx hb hg inX7 hown hKn.1 hP (0) (x_at7 (c := 0) (by decide)) rfl 3 (Nat.le_of_ble_eq_true rfl) (hg _ lkF_X7_29) (fun _ h9 => h9) rfl dX7_reachedBehind_5 ?_
  obtain ⟨M_1, e8, h⟩ := bo_use h
  refine gc_v (va_runVN (As := [.ref (ad (17))]) (rest := []) hFx (tX3_copyFrom l dC dI kI ad 20 17 M (by decide) (by decide) e8) ⟨(gc_N hFx hKn.2.2 ck_yX3_copyFrom nkM_X7_210 ⟨Nat.le_of_ble_eq_true rfl, Nat.le_of_ble_eq_true rfl⟩ rfl rfl), hg _ vi_yX3_copyFrom, hg _ vs_yX3_copyFrom⟩ (gp_V x_KnB (x_KnW hKn) hP (x_rc3 (c := 20) (by decide) hKn hP)) rfl rfl hl.1 rfl (lv_room (Nat.le_of_ble_eq_true rfl)) dX7_reachedBehind_8 ⟨Nat.zero_le _, Nat.zero_le _⟩) hS (fun H locs hP hS => ?_)
  have hP : va_P (dC, dI) vwCl (x_w kI ad M_1) H := hP
  refine lv_aload_n hx hb dX7_reachedBehind_11 rfl (lv_at hl 0 rfl) ?_
  refine va_get (D := (dC, dI)) (ci := 7) (v := .ref (ad (20))) (C := RX7) (T := TX7) (N := 14) hx hb hg inX7 hown hKn.1 hP (0) (x_at7 (c := 0) (by decide)) rfl 4 (Nat.le_of_ble_eq_true rfl) (hg _ lkF_X7_33) (fun _ h9 => h9) rfl dX7_reachedBehind_12 ?_
  refine lv_aload_n hx hb dX7_reachedBehind_15 rfl (lv_at hl 0 rfl) ?_
  refine va_get (D := (dC, dI)) (ci := 7) (v := .ref (ad (3))) (C := RX7) (T := TX7) (N := 14) hx hb hg inX7 hown hKn.1 hP (0) (x_at7 (c := 0) (by decide)) rfl 1 (Nat.le_of_ble_eq_true rfl) (hg _ lkF_X7_19) (fun _ h9 => h9) rfl dX7_reachedBehind_16 ?_
  refine lv_iload_n hx hb dX7_reachedBehind_19 rfl (lv_at hl 1 rfl) ?_
  obtain ⟨M_2, e20, h⟩ := bo_use h
  refine gc_v (va_runVN (As := [.ref (ad (3)), .int (a1)]) (rest := []) hFx (tX3_spendNight l dC dI kI ad 20 3 a1 M_1 (by decide) (by decide) e20) ⟨(gc_N hFx hKn.2.2 ck_yX3_spendNight nkM_X7_187 ⟨Nat.le_of_ble_eq_true rfl, Nat.le_of_ble_eq_true rfl⟩ rfl rfl), hg _ vi_yX3_spendNight, hg _ vs_yX3_spendNight⟩ (gp_V x_KnB (x_KnW hKn) hP (x_rc3 (c := 20) (by decide) hKn hP)) rfl rfl hl.1 rfl (lv_room (Nat.le_of_ble_eq_true rfl)) dX7_reachedBehind_20 ⟨Nat.zero_le _, Nat.zero_le _⟩) hS (fun H locs hP hS => ?_)
  have hP : va_P (dC, dI) vwCl (x_w kI ad M_2) H := hP
  refine lv_aload_n hx hb dX7_reachedBehind_23 rfl (lv_at hl 0 rfl) ?_
  refine va_get (D := (dC, dI)) (ci := 7) (v := .ref (ad (20))) (C := RX7) (T := TX7) (N := 14) hx hb hg inX7 hown hKn.1 hP (0) (x_at7 (c := 0) (by decide)) rfl 4 (Nat.le_of_ble_eq_true rfl) (hg _ lkF_X7_33) (fun _ h9 => h9) rfl dX7_reachedBehind_24 ?_
  refine lv_aload_n hx hb dX7_reachedBehind_27 rfl (lv_at hl 0 rfl) ?_
  refine va_get (D := (dC, dI)) (ci := 7) (v := .ref (ad (3))) (C := RX7) (T := TX7) (N := 14) hx hb hg inX7 hown hKn.1 hP (0) (x_at7 (c := 0) (by decide)) rfl 1 (Nat.le_of_ble_eq_true rfl) (hg _ lkF_X7_19) (fun _ h9 => h9) rfl dX7_reachedBehind_28 ?_
  obtain ⟨r_3, e31, h⟩ := bo_use h
  refine gc_i (va_runVN (As := [.ref (ad (3))]) (rest := []) hFx (tX3_convincedOf l dC dI kI ad 20 3 M_2 (by decide) (by decide) e31) ⟨(gc_N hFx hKn.2.2 ck_yX3_convincedOf nkM_X7_128 ⟨Nat.le_of_ble_eq_true rfl, Nat.le_of_ble_eq_true rfl⟩ rfl rfl), hg _ vi_yX3_convincedOf, hg _ vs_yX3_convincedOf⟩ (gp_V x_KnB (x_KnW hKn) hP (x_rc3 (c := 20) (by decide) hKn hP)) rfl rfl hl.1 rfl (lv_room (Nat.le_of_ble_eq_true rfl)) dX7_reachedBehind_31 ⟨Nat.zero_le _, Nat.zero_le _⟩) hS (fun H locs hP hS => ?_)
  have hP : va_P (dC, dI) vwCl (x_w kI ad M_2) H := hP
  refine lv_istore_n (lv' := [(2, .int (r_3)), (0, .ref (ad (0))), (1, .int (a1))]) hx hb dX7_reachedBehind_34 rfl hl (Nat.le_of_ble_eq_true rfl) rfl (fun ls hl => ?_)
  refine lv_iconst (v := 0) hx hb dX7_reachedBehind_35 (by decide) ?_
  refine lv_istore_n (lv' := [(3, .int (0)), (2, .int (r_3)), (0, .ref (ad (0))), (1, .int (a1))]) hx hb dX7_reachedBehind_36 rfl hl (Nat.le_of_ble_eq_true rfl) rfl (fun ls hl => ?_)
  obtain ⟨K37, eK37, h⟩ := exK (Lp := fun K => FX7_reachedBehind_L37 K fuelN r_3 0 M_2) h
  have hK37 : ∀ (k2_4 : Int32) (M_5 : (Nat → Nat → Int32)) (H : Heap) (locs : List Loc) (ls : Array Slot), va_P (dC, dI) vwCl (x_w kI ad M_5) H → va_S (x_A ad) s.heap H locs → lv_has ls 4 [(2, .int (k2_4))] → K37 k2_4 M_5 = some (r0, M0) → W p l e (headSpec (wsA yX7_reachedBehind cX7_reachedBehind 4 (some .int)) ({ frames := 3, cells := 0, slots := 0, locals := 72 } : Room)).room s m (([.ref (ad (0)), .int (a1)] : List Value).toArray) below meth c H locs 0 0 (MQ below (va_Qi (fun (r : Int32) (u : (Nat → Nat → Int32)) => r = r0 ∧ u = M0) (gI (x_Wd dC dI kI ad) (x_Kn dC dI kI ad)) (x_A ad)) (([.ref (ad (0)), .int (a1)] : List Value).toArray) s 0 0 (x_A ad)) (F0 m 101 ls []) := by
    intro k2_4 M_5 H locs ls hP hS hl h
    have h := useK2 eK37 h
    refine lv_iload_n hx hb dX7_reachedBehind_101 rfl (lv_at hl 0 rfl) ?_
    exact W.iret (v := k2_4) hx hb hr (fun t ht hW => ⟨⟨k2_4, M_5, rfl, Prod.mk.inj (Option.some.inj h), by rw [ht]; exact hP, x_KnW hKn t hW⟩, hS.F ht⟩) hS.2.2 dX7_reachedBehind_102
  have hL37 : ∀ (k : Nat) (v2_6 : Int32) (v3_7 : Int32) (M_8 : (Nat → Nat → Int32)) (H : Heap) (locs : List Loc) (ls : Array Slot), va_P (dC, dI) vwCl (x_w kI ad M_8) H → va_S (x_A ad) s.heap H locs → lv_has ls 4 [(0, .ref (ad (0))), (2, .int (v2_6)), (3, .int (v3_7))] → FX7_reachedBehind_L37 K37 k v2_6 v3_7 M_8 = some (r0, M0) → W p l e (headSpec (wsA yX7_reachedBehind cX7_reachedBehind 4 (some .int)) ({ frames := 3, cells := 0, slots := 0, locals := 72 } : Room)).room s m (([.ref (ad (0)), .int (a1)] : List Value).toArray) below meth c H locs 0 0 (MQ below (va_Qi (fun (r : Int32) (u : (Nat → Nat → Int32)) => r = r0 ∧ u = M0) (gI (x_Wd dC dI kI ad) (x_Kn dC dI kI ad)) (x_A ad)) (([.ref (ad (0)), .int (a1)] : List Value).toArray) s 0 0 (x_A ad)) (F0 m 37 ls []) := by
    intro k
    induction k with
    | zero => intro v2_6 v3_7 M_8 H locs ls hP hS hl h; cases h
    | succ k ih37 =>
      intro v2_6 v3_7 M_8 H locs ls hP hS hl h
      unfold FX7_reachedBehind_L37 at h
      refine lv_iload_n hx hb dX7_reachedBehind_37 rfl (lv_at hl 2 rfl) ?_
      refine lv_iconst (v := 1) hx hb dX7_reachedBehind_38 (by decide) ?_
      refine lv_aload_n hx hb dX7_reachedBehind_39 rfl (lv_at hl 0 rfl) ?_
      refine va_get (D := (dC, dI)) (ci := 7) (v := .ref (ad (3))) (C := RX7) (T := TX7) (N := 14) hx hb hg inX7 hown hKn.1 hP (0) (x_at7 (c := 0) (by decide)) rfl 1 (Nat.le_of_ble_eq_true rfl) (hg _ lkF_X7_19) (fun _ h9 => h9) rfl dX7_reachedBehind_40 ?_
      refine va_getN (D := (dC, dI)) (ci := 1) (v := .int ((M_8 3 2))) (C := RX1) (T := TX1) (N := 10) hx hb hg inX1 hown hKn.1 hP (3) (x_at1 (c := 3) (by decide)) rfl 2 (Nat.le_of_ble_eq_true rfl) (nest_use hKn.2.2 nkF_X7_107) (fun _ h9 => h9) rfl dX7_reachedBehind_43 ?_
      refine lv_ishl hx hb dX7_reachedBehind_46 ?_
      refine lv_icmp_ge (tgt := 101) hx hb dX7_reachedBehind_47 (by decide) (fun c_9 => ?_) (fun c_9 => ?_)
      · have h := ife_t c_9 h
        exact hK37 v2_6 M_8 _ _ _ hP hS (lv_sub hl [1] rfl) h
      · have h := ife_f c_9 h
        refine lv_aload_n hx hb dX7_reachedBehind_50 rfl (lv_at hl 0 rfl) ?_
        refine lv_iload_n hx hb dX7_reachedBehind_51 rfl (lv_at hl 2 rfl) ?_
        obtain ⟨r_10, e52, h⟩ := bo_use h
        refine gc_i (va_runV (As := [.int (v3_7)]) (rest := []) hFx (tX7_mayBe l dC dI kI ad v3_7 M_8  e52) ⟨(gc_B hFx ck_yX7_mayBe lkM_X7_178 ⟨Nat.le_of_ble_eq_true rfl, Nat.le_of_ble_eq_true rfl⟩ rfl rfl), hg _ vi_yX7_mayBe, hg _ vs_yX7_mayBe⟩ (gp_V x_KnB (x_KnW hKn) hP (x_rc7 (c := 0) (by decide) hKn hP)) rfl rfl hl.1 rfl (lv_room (Nat.le_of_ble_eq_true rfl)) dX7_reachedBehind_52 ⟨Nat.zero_le _, Nat.zero_le _⟩) hS (fun H locs hP hS => ?_)
        have hP : va_P (dC, dI) vwCl (x_w kI ad M_8) H := hP
        obtain ⟨J95, eJ95, h⟩ := jn_use h
        have hJ95 : ∀ (j2_11 : Int32) (M_12 : (Nat → Nat → Int32)) (H : Heap) (locs : List Loc) (ls : Array Slot), va_P (dC, dI) vwCl (x_w kI ad M_12) H → va_S (x_A ad) s.heap H locs → lv_has ls 4 [(0, .ref (ad (0))), (3, .int (v3_7)), (2, .int (j2_11))] → J95 j2_11 M_12 = some (r0, M0) → W p l e (headSpec (wsA yX7_reachedBehind cX7_reachedBehind 4 (some .int)) ({ frames := 3, cells := 0, slots := 0, locals := 72 } : Room)).room s m (([.ref (ad (0)), .int (a1)] : List Value).toArray) below meth c H locs 0 0 (MQ below (va_Qi (fun (r : Int32) (u : (Nat → Nat → Int32)) => r = r0 ∧ u = M0) (gI (x_Wd dC dI kI ad) (x_Kn dC dI kI ad)) (x_A ad)) (([.ref (ad (0)), .int (a1)] : List Value).toArray) s 0 0 (x_A ad)) (F0 m 95 ls []) := by
          intro j2_11 M_12 H locs ls hP hS hl h
          have h := useK2 eJ95 h
          refine lv_iinc (v := (v3_7 + 1)) (lv' := [(3, .int ((v3_7 + 1))), (0, .ref (ad (0))), (2, .int (j2_11))]) hx hb dX7_reachedBehind_95 hl (k := 1) rfl rfl (Nat.le_of_ble_eq_true rfl) rfl (fun ls hl => ?_)
          refine lv_goto (tgt := 37) hx hb dX7_reachedBehind_98 (by decide) ?_
          exact ih37 j2_11 (v3_7 + 1) M_12 _ _ _ hP hS (lv_sub hl [1, 2, 0] rfl) h
        refine lv_if_eq (tgt := 95) hx hb dX7_reachedBehind_55 (by decide) (fun c_13 => ?_) (fun c_13 => ?_)
        · have h := ife_t c_13 h
          exact hJ95 v2_6 M_8 _ _ _ hP hS (lv_sub hl [0, 2, 1] rfl) h
        · have h := ife_f c_13 h
          refine lv_aload_n hx hb dX7_reachedBehind_58 rfl (lv_at hl 0 rfl) ?_
          refine va_get (D := (dC, dI)) (ci := 7) (v := .ref (ad (23))) (C := RX7) (T := TX7) (N := 14) hx hb hg inX7 hown hKn.1 hP (0) (x_at7 (c := 0) (by decide)) rfl 5 (Nat.le_of_ble_eq_true rfl) (hg _ lkF_X7_36) (fun _ h9 => h9) rfl dX7_reachedBehind_59 ?_
          refine lv_aload_n hx hb dX7_reachedBehind_62 rfl (lv_at hl 0 rfl) ?_
          refine va_get (D := (dC, dI)) (ci := 7) (v := .ref (ad (20))) (C := RX7) (T := TX7) (N := 14) hx hb hg inX7 hown hKn.1 hP (0) (x_at7 (c := 0) (by decide)) rfl 4 (Nat.le_of_ble_eq_true rfl) (hg _ lkF_X7_33) (fun _ h9 => h9) rfl dX7_reachedBehind_63 ?_
          obtain ⟨M_14, e66, h⟩ := bo_use h
          refine gc_v (va_runVN (As := [.ref (ad (20))]) (rest := []) hFx (tX3_copyFrom l dC dI kI ad 23 20 M_8 (by decide) (by decide) e66) ⟨(gc_N hFx hKn.2.2 ck_yX3_copyFrom nkM_X7_210 ⟨Nat.le_of_ble_eq_true rfl, Nat.le_of_ble_eq_true rfl⟩ rfl rfl), hg _ vi_yX3_copyFrom, hg _ vs_yX3_copyFrom⟩ (gp_V x_KnB (x_KnW hKn) hP (x_rc3 (c := 23) (by decide) hKn hP)) rfl rfl hl.1 rfl (lv_room (Nat.le_of_ble_eq_true rfl)) dX7_reachedBehind_66 ⟨Nat.zero_le _, Nat.zero_le _⟩) hS (fun H locs hP hS => ?_)
          have hP : va_P (dC, dI) vwCl (x_w kI ad M_14) H := hP
          refine lv_aload_n hx hb dX7_reachedBehind_69 rfl (lv_at hl 0 rfl) ?_
          refine va_get (D := (dC, dI)) (ci := 7) (v := .ref (ad (23))) (C := RX7) (T := TX7) (N := 14) hx hb hg inX7 hown hKn.1 hP (0) (x_at7 (c := 0) (by decide)) rfl 5 (Nat.le_of_ble_eq_true rfl) (hg _ lkF_X7_36) (fun _ h9 => h9) rfl dX7_reachedBehind_70 ?_
          refine lv_aload_n hx hb dX7_reachedBehind_73 rfl (lv_at hl 0 rfl) ?_
          refine va_get (D := (dC, dI)) (ci := 7) (v := .ref (ad (3))) (C := RX7) (T := TX7) (N := 14) hx hb hg inX7 hown hKn.1 hP (0) (x_at7 (c := 0) (by decide)) rfl 1 (Nat.le_of_ble_eq_true rfl) (hg _ lkF_X7_19) (fun _ h9 => h9) rfl dX7_reachedBehind_74 ?_
          refine lv_iload_n hx hb dX7_reachedBehind_77 rfl (lv_at hl 2 rfl) ?_
          obtain ⟨M_15, e78, h⟩ := bo_use h
          refine gc_v (va_runVN (As := [.ref (ad (3)), .int (v3_7)]) (rest := []) hFx (tX3_spendNight l dC dI kI ad 23 3 v3_7 M_14 (by decide) (by decide) e78) ⟨(gc_N hFx hKn.2.2 ck_yX3_spendNight nkM_X7_187 ⟨Nat.le_of_ble_eq_true rfl, Nat.le_of_ble_eq_true rfl⟩ rfl rfl), hg _ vi_yX3_spendNight, hg _ vs_yX3_spendNight⟩ (gp_V x_KnB (x_KnW hKn) hP (x_rc3 (c := 23) (by decide) hKn hP)) rfl rfl hl.1 rfl (lv_room (Nat.le_of_ble_eq_true rfl)) dX7_reachedBehind_78 ⟨Nat.zero_le _, Nat.zero_le _⟩) hS (fun H locs hP hS => ?_)
          have hP : va_P (dC, dI) vwCl (x_w kI ad M_15) H := hP
          refine lv_iload_n hx hb dX7_reachedBehind_81 rfl (lv_at hl 1 rfl) ?_
          refine lv_aload_n hx hb dX7_reachedBehind_82 rfl (lv_at hl 0 rfl) ?_
          refine va_get (D := (dC, dI)) (ci := 7) (v := .ref (ad (23))) (C := RX7) (T := TX7) (N := 14) hx hb hg inX7 hown hKn.1 hP (0) (x_at7 (c := 0) (by decide)) rfl 5 (Nat.le_of_ble_eq_true rfl) (hg _ lkF_X7_36) (fun _ h9 => h9) rfl dX7_reachedBehind_83 ?_
          refine lv_aload_n hx hb dX7_reachedBehind_86 rfl (lv_at hl 0 rfl) ?_
          refine va_get (D := (dC, dI)) (ci := 7) (v := .ref (ad (3))) (C := RX7) (T := TX7) (N := 14) hx hb hg inX7 hown hKn.1 hP (0) (x_at7 (c := 0) (by decide)) rfl 1 (Nat.le_of_ble_eq_true rfl) (hg _ lkF_X7_19) (fun _ h9 => h9) rfl dX7_reachedBehind_87 ?_
          obtain ⟨r_16, e90, h⟩ := bo_use h
          refine gc_i (va_runVN (As := [.ref (ad (3))]) (rest := [.int (v2_6)]) hFx (tX3_convincedOf l dC dI kI ad 23 3 M_15 (by decide) (by decide) e90) ⟨(gc_N hFx hKn.2.2 ck_yX3_convincedOf nkM_X7_128 ⟨Nat.le_of_ble_eq_true rfl, Nat.le_of_ble_eq_true rfl⟩ rfl rfl), hg _ vi_yX3_convincedOf, hg _ vs_yX3_convincedOf⟩ (gp_V x_KnB (x_KnW hKn) hP (x_rc3 (c := 23) (by decide) hKn hP)) rfl rfl hl.1 rfl (lv_room (Nat.le_of_ble_eq_true rfl)) dX7_reachedBehind_90 ⟨Nat.zero_le _, Nat.zero_le _⟩) hS (fun H locs hP hS => ?_)
          have hP : va_P (dC, dI) vwCl (x_w kI ad M_15) H := hP
          refine lv_ior hx hb dX7_reachedBehind_93 ?_
          refine lv_istore_n (lv' := [(2, .int ((v2_6 ||| r_16))), (0, .ref (ad (0))), (3, .int (v3_7))]) hx hb dX7_reachedBehind_94 rfl hl (Nat.le_of_ble_eq_true rfl) rfl (fun ls hl => ?_)
          exact hJ95 (v2_6 ||| r_16) M_15 _ _ _ hP hS (lv_sub hl [1, 2, 0] rfl) h
  exact hL37 fuelN r_3 0 M_2 _ _ _ hP hS (lv_sub hl [2, 1, 0] rfl) h
noncomputable def FX7_cannot_L26 (b1 : Int32) (K : Int32 → (Nat → Nat → Int32) → Option (Int32 × (Nat → Nat → Int32))) (k : Nat) (v2_4 : Int32) (v3_5 : Int32) (M_6 : (Nat → Nat → Int32)) : Option (Int32 × (Nat → Nat → Int32)) := match k with
  | 0 => none
  | k + 1 => (if (1 <<< ((M_6 3 2) &&& 31)) ≤ v3_5 then K v2_4 M_6 else (if v2_4 = b1 then K v2_4 M_6 else bo (FX7_mayBe v3_5 M_6) (fun (r_9 : Int32) => jn (fun (j2_10 : Int32) (M_11 : (Nat → Nat → Int32)) => FX7_cannot_L26 b1 K k j2_10 (v3_5 + 1) M_11) (fun J60 => (if r_9 = 0 then J60 v2_4 M_6 else bd (FX7_reachedBehind v3_5 M_6) (fun (r_13 : Int32) (M_14 : (Nat → Nat → Int32)) => J60 (v2_4 ||| r_13) M_14))))))
noncomputable def FX7_cannot  (M : (Nat → Nat → Int32)) : Option (Int32 × (Nat → Nat → Int32)) :=
  bo (FX3_convincedOf 17 3 M) (fun (r_1 : Int32) => FX7_cannot_L26 ((1 <<< ((M 3 1) &&& 31)) - 1) (fun (k2_2 : Int32) (M_3 : (Nat → Nat → Int32)) => some ((((1 <<< ((M 3 1) &&& 31)) - 1) &&& (k2_2 ^^^ (-1))), M_3)) fuelN r_1 0 M)
set_option maxHeartbeats 4000000 in
set_option maxRecDepth 100000 in
theorem tX7_cannot (l : Launch) (dC : Nat → ClassId) (dI : Nat → Nat → Nat) (kI : ClassId) (ad : Nat → Nat)  (M : (Nat → Nat → Int32))  {r0 : Int32} {M0 : (Nat → Nat → Int32)} (h : FX7_cannot  M = some (r0, M0)) : Met l yX7_cannot (wsA yX7_cannot cX7_cannot 4 (some .int)) ({ frames := 4, cells := 0, slots := 0, locals := 95 } : Room) (va_Pc [.ref (ad (0))] (gI (x_Wd dC dI kI ad) (x_Kn dC dI kI ad) M)) (va_Qi (fun (r : Int32) (u : (Nat → Nat → Int32)) => r = r0 ∧ u = M0) (gI (x_Wd dC dI kI ad) (x_Kn dC dI kI ad)) (x_A ad)) 0 0 (x_A ad) := by
  refine Met.ofW (cc := cX7_cannot) (maxL := 4) (ret := (some .int)) (by decide) rfl ?_
  intro p e s m args below meth c s₁ B hml hv
  obtain ⟨rfl, hP, hKn⟩ := hv
  have hx := B.exec
  have hb := B.bytes
  have hr := B.returns
  have hts := atoms_spec (ws := wsA yX7_cannot cX7_cannot 4 (some .int)) B.pre
  have hg : ∀ w ∈ lw_good, w.before _ s = true := fun w h => hts w (List.mem_cons_of_mem _ h)
  have hown : s.vm.findClass RX7 = some m.cls := findClass_of_methodNamed B.named
  have hlocks := B.notSynchronized
  have hS : va_S (x_A ad) s.heap s.heap [] := va_S.rf
  have hFx : gFix p c cX7_cannot 4 s m _ RX7 := ⟨hx, hb, hml, hown, hg⟩
  have hP : va_P (dC, dI) vwCl (x_w kI ad M) s.heap := hP
  have hl := lv_entry ([.ref (ad (0))]) (n := 4) (Nat.le_of_ble_eq_true rfl)
  rw [lg_entry_eq]
  generalize (lg_sl ([.ref (ad (0))]) ++ List.replicate (4 - (lg_sl ([.ref (ad (0))])).length) Slot.unset).toArray = ls at hl ⊢
  have hl : lv_has ls 4 [(0, .ref (ad (0)))] := hl
  unfold FX7_cannot at h
  refine lv_iconst (v := 1) hx hb dX7_cannot_0 (by decide) ?_
  refine lv_aload_n hx hb dX7_cannot_1 rfl (lv_at hl 0 rfl) ?_
  refine va_get (D := (dC, dI)) (ci := 7) (v := .ref (ad (3))) (C := RX7) (T := TX7) (N := 14) hx hb hg inX7 hown hKn.1 hP (0) (x_at7 (c := 0) (by decide)) rfl 1 (Nat.le_of_ble_eq_true rfl) (hg _ lkF_X7_19) (fun _ h9 => h9) rfl dX7_cannot_2 ?_
  refine va_getN (D := (dC, dI)) (ci := 1) (v := .int ((M 3 1))) (C := RX1) (T := TX1) (N := 10) hx hb hg inX1 hown hKn.1 hP (3) (x_at1 (c := 3) (by decide)) rfl 1 (Nat.le_of_ble_eq_true rfl) (nest_use hKn.2.2 nkF_X7_116) (fun _ h9 => h9) rfl dX7_cannot_5 ?_
  refine lv_ishl hx hb dX7_cannot_8 ?_
  refine lv_iconst (v := 1) hx hb dX7_cannot_9 (by decide) ?_
  refine lv_isub hx hb dX7_cannot_10 ?_
  refine lv_istore_n (lv' := [(1, .int (((1 <<< ((M 3 1) &&& 31)) - 1))), (0, .ref (ad (0)))]) hx hb dX7_cannot_11 rfl hl (Nat.le_of_ble_eq_true rfl) rfl (fun ls hl => ?_)
  refine lv_aload_n hx hb dX7_cannot_12 rfl (lv_at hl 1 rfl) ?_
  refine va_get (D := (dC, dI)) (ci := 7) (v := .ref (ad (17))) (C := RX7) (T := TX7) (N := 14) hx hb hg inX7 hown hKn.1 hP (0) (x_at7 (c := 0) (by decide)) rfl 3 (Nat.le_of_ble_eq_true rfl) (hg _ lkF_X7_29) (fun _ h9 => h9) rfl dX7_cannot_13 ?_
  refine lv_aload_n hx hb dX7_cannot_16 rfl (lv_at hl 1 rfl) ?_
  refine va_get (D := (dC, dI)) (ci := 7) (v := .ref (ad (3))) (C := RX7) (T := TX7) (N := 14) hx hb hg inX7 hown hKn.1 hP (0) (x_at7 (c := 0) (by decide)) rfl 1 (Nat.le_of_ble_eq_true rfl) (hg _ lkF_X7_19) (fun _ h9 => h9) rfl dX7_cannot_17 ?_
  obtain ⟨r_1, e20, h⟩ := bo_use h
  refine gc_i (va_runVN (As := [.ref (ad (3))]) (rest := []) hFx (tX3_convincedOf l dC dI kI ad 17 3 M (by decide) (by decide) e20) ⟨(gc_N hFx hKn.2.2 ck_yX3_convincedOf nkM_X7_128 ⟨Nat.le_of_ble_eq_true rfl, Nat.le_of_ble_eq_true rfl⟩ rfl rfl), hg _ vi_yX3_convincedOf, hg _ vs_yX3_convincedOf⟩ (gp_V x_KnB (x_KnW hKn) hP (x_rc3 (c := 17) (by decide) hKn hP)) rfl rfl hl.1 rfl (lv_room (Nat.le_of_ble_eq_true rfl)) dX7_cannot_20 ⟨Nat.zero_le _, Nat.zero_le _⟩) hS (fun H locs hP hS => ?_)
  have hP : va_P (dC, dI) vwCl (x_w kI ad M) H := hP
  refine lv_istore_n (lv' := [(2, .int (r_1)), (1, .int (((1 <<< ((M 3 1) &&& 31)) - 1))), (0, .ref (ad (0)))]) hx hb dX7_cannot_23 rfl hl (Nat.le_of_ble_eq_true rfl) rfl (fun ls hl => ?_)
  refine lv_iconst (v := 0) hx hb dX7_cannot_24 (by decide) ?_
  refine lv_istore_n (lv' := [(3, .int (0)), (2, .int (r_1)), (1, .int (((1 <<< ((M 3 1) &&& 31)) - 1))), (0, .ref (ad (0)))]) hx hb dX7_cannot_25 rfl hl (Nat.le_of_ble_eq_true rfl) rfl (fun ls hl => ?_)
  obtain ⟨K26, eK26, h⟩ := exK (Lp := fun K => FX7_cannot_L26 ((1 <<< ((M 3 1) &&& 31)) - 1) K fuelN r_1 0 M) h
  have hK26 : ∀ (k2_2 : Int32) (M_3 : (Nat → Nat → Int32)) (H : Heap) (locs : List Loc) (ls : Array Slot), va_P (dC, dI) vwCl (x_w kI ad M_3) H → va_S (x_A ad) s.heap H locs → lv_has ls 4 [(1, .int (((1 <<< ((M 3 1) &&& 31)) - 1))), (2, .int (k2_2))] → K26 k2_2 M_3 = some (r0, M0) → W p l e (headSpec (wsA yX7_cannot cX7_cannot 4 (some .int)) ({ frames := 4, cells := 0, slots := 0, locals := 95 } : Room)).room s m (([.ref (ad (0))] : List Value).toArray) below meth c H locs 0 0 (MQ below (va_Qi (fun (r : Int32) (u : (Nat → Nat → Int32)) => r = r0 ∧ u = M0) (gI (x_Wd dC dI kI ad) (x_Kn dC dI kI ad)) (x_A ad)) (([.ref (ad (0))] : List Value).toArray) s 0 0 (x_A ad)) (F0 m 66 ls []) := by
    intro k2_2 M_3 H locs ls hP hS hl h
    have h := useK2 eK26 h
    refine lv_iload_n hx hb dX7_cannot_66 rfl (lv_at hl 0 rfl) ?_
    refine lv_iload_n hx hb dX7_cannot_67 rfl (lv_at hl 1 rfl) ?_
    refine lv_iconst (v := -1) hx hb dX7_cannot_68 (by decide) ?_
    refine lv_ixor hx hb dX7_cannot_69 ?_
    refine lv_iand hx hb dX7_cannot_70 ?_
    exact W.iret (v := (((1 <<< ((M 3 1) &&& 31)) - 1) &&& (k2_2 ^^^ (-1)))) hx hb hr (fun t ht hW => ⟨⟨(((1 <<< ((M 3 1) &&& 31)) - 1) &&& (k2_2 ^^^ (-1))), M_3, rfl, Prod.mk.inj (Option.some.inj h), by rw [ht]; exact hP, x_KnW hKn t hW⟩, hS.F ht⟩) hS.2.2 dX7_cannot_71
  have hL26 : ∀ (k : Nat) (v2_4 : Int32) (v3_5 : Int32) (M_6 : (Nat → Nat → Int32)) (H : Heap) (locs : List Loc) (ls : Array Slot), va_P (dC, dI) vwCl (x_w kI ad M_6) H → va_S (x_A ad) s.heap H locs → lv_has ls 4 [(0, .ref (ad (0))), (1, .int (((1 <<< ((M 3 1) &&& 31)) - 1))), (2, .int (v2_4)), (3, .int (v3_5))] → FX7_cannot_L26 ((1 <<< ((M 3 1) &&& 31)) - 1) K26 k v2_4 v3_5 M_6 = some (r0, M0) → W p l e (headSpec (wsA yX7_cannot cX7_cannot 4 (some .int)) ({ frames := 4, cells := 0, slots := 0, locals := 95 } : Room)).room s m (([.ref (ad (0))] : List Value).toArray) below meth c H locs 0 0 (MQ below (va_Qi (fun (r : Int32) (u : (Nat → Nat → Int32)) => r = r0 ∧ u = M0) (gI (x_Wd dC dI kI ad) (x_Kn dC dI kI ad)) (x_A ad)) (([.ref (ad (0))] : List Value).toArray) s 0 0 (x_A ad)) (F0 m 26 ls []) := by
    intro k
    induction k with
    | zero => intro v2_4 v3_5 M_6 H locs ls hP hS hl h; cases h
    | succ k ih26 =>
      intro v2_4 v3_5 M_6 H locs ls hP hS hl h
      unfold FX7_cannot_L26 at h
      refine lv_iload_n hx hb dX7_cannot_26 rfl (lv_at hl 3 rfl) ?_
      refine lv_iconst (v := 1) hx hb dX7_cannot_27 (by decide) ?_
      refine lv_aload_n hx hb dX7_cannot_28 rfl (lv_at hl 0 rfl) ?_
      refine va_get (D := (dC, dI)) (ci := 7) (v := .ref (ad (3))) (C := RX7) (T := TX7) (N := 14) hx hb hg inX7 hown hKn.1 hP (0) (x_at7 (c := 0) (by decide)) rfl 1 (Nat.le_of_ble_eq_true rfl) (hg _ lkF_X7_19) (fun _ h9 => h9) rfl dX7_cannot_29 ?_
      refine va_getN (D := (dC, dI)) (ci := 1) (v := .int ((M_6 3 2))) (C := RX1) (T := TX1) (N := 10) hx hb hg inX1 hown hKn.1 hP (3) (x_at1 (c := 3) (by decide)) rfl 2 (Nat.le_of_ble_eq_true rfl) (nest_use hKn.2.2 nkF_X7_107) (fun _ h9 => h9) rfl dX7_cannot_32 ?_
      refine lv_ishl hx hb dX7_cannot_35 ?_
      refine lv_icmp_ge (tgt := 66) hx hb dX7_cannot_36 (by decide) (fun c_7 => ?_) (fun c_7 => ?_)
      · have h := ife_t c_7 h
        exact hK26 v2_4 M_6 _ _ _ hP hS (lv_sub hl [1, 2] rfl) h
      · have h := ife_f c_7 h
        refine lv_iload_n hx hb dX7_cannot_39 rfl (lv_at hl 2 rfl) ?_
        refine lv_iload_n hx hb dX7_cannot_40 rfl (lv_at hl 1 rfl) ?_
        refine lv_icmp_eq (tgt := 66) hx hb dX7_cannot_41 (by decide) (fun c_8 => ?_) (fun c_8 => ?_)
        · have h := ife_t c_8 h
          exact hK26 v2_4 M_6 _ _ _ hP hS (lv_sub hl [1, 2] rfl) h
        · have h := ife_f c_8 h
          refine lv_aload_n hx hb dX7_cannot_44 rfl (lv_at hl 0 rfl) ?_
          refine lv_iload_n hx hb dX7_cannot_45 rfl (lv_at hl 3 rfl) ?_
          obtain ⟨r_9, e46, h⟩ := bo_use h
          refine gc_i (va_runV (As := [.int (v3_5)]) (rest := []) hFx (tX7_mayBe l dC dI kI ad v3_5 M_6  e46) ⟨(gc_B hFx ck_yX7_mayBe lkM_X7_178 ⟨Nat.le_of_ble_eq_true rfl, Nat.le_of_ble_eq_true rfl⟩ rfl rfl), hg _ vi_yX7_mayBe, hg _ vs_yX7_mayBe⟩ (gp_V x_KnB (x_KnW hKn) hP (x_rc7 (c := 0) (by decide) hKn hP)) rfl rfl hl.1 rfl (lv_room (Nat.le_of_ble_eq_true rfl)) dX7_cannot_46 ⟨Nat.zero_le _, Nat.zero_le _⟩) hS (fun H locs hP hS => ?_)
          have hP : va_P (dC, dI) vwCl (x_w kI ad M_6) H := hP
          obtain ⟨J60, eJ60, h⟩ := jn_use h
          have hJ60 : ∀ (j2_10 : Int32) (M_11 : (Nat → Nat → Int32)) (H : Heap) (locs : List Loc) (ls : Array Slot), va_P (dC, dI) vwCl (x_w kI ad M_11) H → va_S (x_A ad) s.heap H locs → lv_has ls 4 [(0, .ref (ad (0))), (1, .int (((1 <<< ((M 3 1) &&& 31)) - 1))), (3, .int (v3_5)), (2, .int (j2_10))] → J60 j2_10 M_11 = some (r0, M0) → W p l e (headSpec (wsA yX7_cannot cX7_cannot 4 (some .int)) ({ frames := 4, cells := 0, slots := 0, locals := 95 } : Room)).room s m (([.ref (ad (0))] : List Value).toArray) below meth c H locs 0 0 (MQ below (va_Qi (fun (r : Int32) (u : (Nat → Nat → Int32)) => r = r0 ∧ u = M0) (gI (x_Wd dC dI kI ad) (x_Kn dC dI kI ad)) (x_A ad)) (([.ref (ad (0))] : List Value).toArray) s 0 0 (x_A ad)) (F0 m 60 ls []) := by
            intro j2_10 M_11 H locs ls hP hS hl h
            have h := useK2 eJ60 h
            refine lv_iinc (v := (v3_5 + 1)) (lv' := [(3, .int ((v3_5 + 1))), (0, .ref (ad (0))), (1, .int (((1 <<< ((M 3 1) &&& 31)) - 1))), (2, .int (j2_10))]) hx hb dX7_cannot_60 hl (k := 2) rfl rfl (Nat.le_of_ble_eq_true rfl) rfl (fun ls hl => ?_)
            refine lv_goto (tgt := 26) hx hb dX7_cannot_63 (by decide) ?_
            exact ih26 j2_10 (v3_5 + 1) M_11 _ _ _ hP hS (lv_sub hl [1, 2, 3, 0] rfl) h
          refine lv_if_eq (tgt := 60) hx hb dX7_cannot_49 (by decide) (fun c_12 => ?_) (fun c_12 => ?_)
          · have h := ife_t c_12 h
            exact hJ60 v2_4 M_6 _ _ _ hP hS (lv_sub hl [0, 1, 3, 2] rfl) h
          · have h := ife_f c_12 h
            refine lv_iload_n hx hb dX7_cannot_52 rfl (lv_at hl 2 rfl) ?_
            refine lv_aload_n hx hb dX7_cannot_53 rfl (lv_at hl 0 rfl) ?_
            refine lv_iload_n hx hb dX7_cannot_54 rfl (lv_at hl 3 rfl) ?_
            obtain ⟨r_13, M_14, e55, h⟩ := bd_use h
            refine gc_i (va_runV (As := [.int (v3_5)]) (rest := [.int (v2_4)]) hFx (tX7_reachedBehind l dC dI kI ad v3_5 M_6  e55) ⟨(gc_B hFx ck_yX7_reachedBehind lkM_X7_225 ⟨Nat.le_of_ble_eq_true rfl, Nat.le_of_ble_eq_true rfl⟩ rfl rfl), hg _ vi_yX7_reachedBehind, hg _ vs_yX7_reachedBehind⟩ (gp_V x_KnB (x_KnW hKn) hP (x_rc7 (c := 0) (by decide) hKn hP)) rfl rfl hl.1 rfl (lv_room (Nat.le_of_ble_eq_true rfl)) dX7_cannot_55 ⟨Nat.zero_le _, Nat.zero_le _⟩) hS (fun H locs hP hS => ?_)
            have hP : va_P (dC, dI) vwCl (x_w kI ad M_14) H := hP
            refine lv_ior hx hb dX7_cannot_58 ?_
            refine lv_istore_n (lv' := [(2, .int ((v2_4 ||| r_13))), (0, .ref (ad (0))), (1, .int (((1 <<< ((M 3 1) &&& 31)) - 1))), (3, .int (v3_5))]) hx hb dX7_cannot_59 rfl hl (Nat.le_of_ble_eq_true rfl) rfl (fun ls hl => ?_)
            exact hJ60 (v2_4 ||| r_13) M_14 _ _ _ hP hS (lv_sub hl [1, 2, 3, 0] rfl) h
  exact hL26 fuelN r_1 0 M _ _ _ hP hS (lv_sub hl [3, 2, 1, 0] rfl) h
noncomputable def FX7_city  (M : (Nat → Nat → Int32)) : Option (Int32 × (Nat → Nat → Int32)) :=
  bd (FX2_readInto 10 M) (fun (r_1 : Int32) (M_2 : (Nat → Nat → Int32)) => (if r_1 = 0 then bo (FX1_copyFrom 3 10 (upd2 M_2 1 1 0)) (fun (M_4 : (Nat → Nat → Int32)) => bo (FX3_begin 17 3 M_4) (fun (M_5 : (Nat → Nat → Int32)) => bo (FX4_clear  M_5) (fun (M_6 : (Nat → Nat → Int32)) => bo (FX0_clear 33 M_6) (fun (M_7 : (Nat → Nat → Int32)) => bo (FX0_clear 36 M_7) (fun (M_8 : (Nat → Nat → Int32)) => some ((upd2 M_8 0 10 0 3 2), upd2 M_8 0 10 0)))))) else some (((-10) - r_1), upd2 M_2 1 1 0)))
set_option maxHeartbeats 4000000 in
set_option maxRecDepth 100000 in
theorem tX7_city (l : Launch) (dC : Nat → ClassId) (dI : Nat → Nat → Nat) (kI : ClassId) (ad : Nat → Nat)  (M : (Nat → Nat → Int32))  {r0 : Int32} {M0 : (Nat → Nat → Int32)} (h : FX7_city  M = some (r0, M0)) : Met l yX7_city (wsA yX7_city cX7_city 2 (some .int)) ({ frames := 7, cells := 0, slots := 0, locals := 153 } : Room) (va_Pc [.ref (ad (0))] (gI (x_Wd dC dI kI ad) (x_Kn dC dI kI ad) M)) (va_Qi (fun (r : Int32) (u : (Nat → Nat → Int32)) => r = r0 ∧ u = M0) (gI (x_Wd dC dI kI ad) (x_Kn dC dI kI ad)) (x_A ad)) 0 0 (x_A ad) := by
  refine Met.ofW (cc := cX7_city) (maxL := 2) (ret := (some .int)) (by decide) rfl ?_
  intro p e s m args below meth c s₁ B hml hv
  obtain ⟨rfl, hP, hKn⟩ := hv
  have hx := B.exec
  have hb := B.bytes
  have hr := B.returns
  have hts := atoms_spec (ws := wsA yX7_city cX7_city 2 (some .int)) B.pre
  have hg : ∀ w ∈ lw_good, w.before _ s = true := fun w h => hts w (List.mem_cons_of_mem _ h)
  have hown : s.vm.findClass RX7 = some m.cls := findClass_of_methodNamed B.named
  have hlocks := B.notSynchronized
  have hS : va_S (x_A ad) s.heap s.heap [] := va_S.rf
  have hFx : gFix p c cX7_city 2 s m _ RX7 := ⟨hx, hb, hml, hown, hg⟩
  have hP : va_P (dC, dI) vwCl (x_w kI ad M) s.heap := hP
  have hl := lv_entry ([.ref (ad (0))]) (n := 2) (Nat.le_of_ble_eq_true rfl)
  rw [lg_entry_eq]
  generalize (lg_sl ([.ref (ad (0))]) ++ List.replicate (2 - (lg_sl ([.ref (ad (0))])).length) Slot.unset).toArray = ls at hl ⊢
  have hl : lv_has ls 2 [(0, .ref (ad (0)))] := hl
  unfold FX7_city at h
  refine lv_aload_n hx hb dX7_city_0 rfl (lv_at hl 0 rfl) ?_
  refine va_get (D := (dC, dI)) (ci := 7) (v := .ref (ad (1))) (C := RX7) (T := TX7) (N := 14) hx hb hg inX7 hown hKn.1 hP (0) (x_at7 (c := 0) (by decide)) rfl 0 (Nat.le_of_ble_eq_true rfl) (hg _ lkF_X7_10) (fun _ h9 => h9) rfl dX7_city_1 ?_
  refine lv_aload_n hx hb dX7_city_4 rfl (lv_at hl 0 rfl) ?_
  refine va_get (D := (dC, dI)) (ci := 7) (v := .ref (ad (10))) (C := RX7) (T := TX7) (N := 14) hx hb hg inX7 hown hKn.1 hP (0) (x_at7 (c := 0) (by decide)) rfl 2 (Nat.le_of_ble_eq_true rfl) (hg _ lkF_X7_23) (fun _ h9 => h9) rfl dX7_city_5 ?_
  obtain ⟨r_1, M_2, e8, h⟩ := bd_use h
  refine gc_i (va_runVN (As := [.ref (ad (10))]) (rest := []) hFx (tX2_readInto l dC dI kI ad 10 M (by decide) e8) ⟨(gc_N hFx hKn.2.2 ck_yX2_readInto nkM_X7_92 ⟨Nat.le_of_ble_eq_true rfl, Nat.le_of_ble_eq_true rfl⟩ rfl rfl), hg _ vi_yX2_readInto, hg _ vs_yX2_readInto⟩ (gp_V x_KnB (x_KnW hKn) hP (x_rc2 (c := 1) (by decide) hKn hP)) rfl rfl hl.1 rfl (lv_room (Nat.le_of_ble_eq_true rfl)) dX7_city_8 ⟨Nat.zero_le _, Nat.zero_le _⟩) hS (fun H locs hP hS => ?_)
  have hP : va_P (dC, dI) vwCl (x_w kI ad M_2) H := hP
  refine lv_istore_n (lv' := [(1, .int (r_1)), (0, .ref (ad (0)))]) hx hb dX7_city_11 rfl hl (Nat.le_of_ble_eq_true rfl) rfl (fun ls hl => ?_)
  refine lv_aload_n hx hb dX7_city_12 rfl (lv_at hl 1 rfl) ?_
  refine va_get (D := (dC, dI)) (ci := 7) (v := .ref (ad (1))) (C := RX7) (T := TX7) (N := 14) hx hb hg inX7 hown hKn.1 hP (0) (x_at7 (c := 0) (by decide)) rfl 0 (Nat.le_of_ble_eq_true rfl) (hg _ lkF_X7_10) (fun _ h9 => h9) rfl dX7_city_13 ?_
  refine lv_iconst (v := 0) hx hb dX7_city_16 (by decide) ?_
  refine va_putN (D := (dC, dI)) (ci := 2) (v := .int (0)) (ty := .int) (C := RX2) (T := TX2) (N := 7) hx hb hg inX2 tyX2 tyX2_ok nmX2 hown hKn.1 hP (x_D hKn.2.1) hS (1) (x_at2 (c := 1) (by decide)) rfl 1 (Nat.le_of_ble_eq_true rfl) (nest_use hKn.2.2 nkF_X7_88) (fun _ h9 => h9) rfl (by decide +kernel) rfl rfl (Nat.le_of_ble_eq_true rfl) dX7_city_17 (fun H locs hP _ hS => ?_)
  have hP : va_P (dC, dI) vwCl (x_w kI ad (upd2 M_2 1 1 0)) H := vp_eq (x_put2_1 (by decide) _) hP
  refine lv_iload_n hx hb dX7_city_20 rfl (lv_at hl 0 rfl) ?_
  refine lv_if_eq (tgt := 29) hx hb dX7_city_21 (by decide) (fun c_3 => ?_) (fun c_3 => ?_)
  · have h := ife_t c_3 h
    refine lv_aload_n hx hb dX7_city_29 rfl (lv_at hl 1 rfl) ?_
    refine va_get (D := (dC, dI)) (ci := 7) (v := .ref (ad (3))) (C := RX7) (T := TX7) (N := 14) hx hb hg inX7 hown hKn.1 hP (0) (x_at7 (c := 0) (by decide)) rfl 1 (Nat.le_of_ble_eq_true rfl) (hg _ lkF_X7_19) (fun _ h9 => h9) rfl dX7_city_30 ?_
    refine lv_aload_n hx hb dX7_city_33 rfl (lv_at hl 1 rfl) ?_
    refine va_get (D := (dC, dI)) (ci := 7) (v := .ref (ad (10))) (C := RX7) (T := TX7) (N := 14) hx hb hg inX7 hown hKn.1 hP (0) (x_at7 (c := 0) (by decide)) rfl 2 (Nat.le_of_ble_eq_true rfl) (hg _ lkF_X7_23) (fun _ h9 => h9) rfl dX7_city_34 ?_
    obtain ⟨M_4, e37, h⟩ := bo_use h
    refine gc_v (va_runVN (As := [.ref (ad (10))]) (rest := []) hFx (tX1_copyFrom l dC dI kI ad 3 10 (upd2 M_2 1 1 0) (by decide) (by decide) e37) ⟨(gc_N hFx hKn.2.2 ck_yX1_copyFrom nkM_X7_96 ⟨Nat.le_of_ble_eq_true rfl, Nat.le_of_ble_eq_true rfl⟩ rfl rfl), hg _ vi_yX1_copyFrom, hg _ vs_yX1_copyFrom⟩ (gp_V x_KnB (x_KnW hKn) hP (x_rc1 (c := 3) (by decide) hKn hP)) rfl rfl hl.1 rfl (lv_room (Nat.le_of_ble_eq_true rfl)) dX7_city_37 ⟨Nat.zero_le _, Nat.zero_le _⟩) hS (fun H locs hP hS => ?_)
    have hP : va_P (dC, dI) vwCl (x_w kI ad M_4) H := hP
    refine lv_aload_n hx hb dX7_city_40 rfl (lv_at hl 1 rfl) ?_
    refine va_get (D := (dC, dI)) (ci := 7) (v := .ref (ad (17))) (C := RX7) (T := TX7) (N := 14) hx hb hg inX7 hown hKn.1 hP (0) (x_at7 (c := 0) (by decide)) rfl 3 (Nat.le_of_ble_eq_true rfl) (hg _ lkF_X7_29) (fun _ h9 => h9) rfl dX7_city_41 ?_
    refine lv_aload_n hx hb dX7_city_44 rfl (lv_at hl 1 rfl) ?_
    refine va_get (D := (dC, dI)) (ci := 7) (v := .ref (ad (3))) (C := RX7) (T := TX7) (N := 14) hx hb hg inX7 hown hKn.1 hP (0) (x_at7 (c := 0) (by decide)) rfl 1 (Nat.le_of_ble_eq_true rfl) (hg _ lkF_X7_19) (fun _ h9 => h9) rfl dX7_city_45 ?_
    obtain ⟨M_5, e48, h⟩ := bo_use h
    refine gc_v (va_runVN (As := [.ref (ad (3))]) (rest := []) hFx (tX3_begin l dC dI kI ad 17 3 M_4 (by decide) (by decide) e48) ⟨(gc_N hFx hKn.2.2 ck_yX3_begin nkM_X7_100 ⟨Nat.le_of_ble_eq_true rfl, Nat.le_of_ble_eq_true rfl⟩ rfl rfl), hg _ vi_yX3_begin, hg _ vs_yX3_begin⟩ (gp_V x_KnB (x_KnW hKn) hP (x_rc3 (c := 17) (by decide) hKn hP)) rfl rfl hl.1 rfl (lv_room (Nat.le_of_ble_eq_true rfl)) dX7_city_48 ⟨Nat.zero_le _, Nat.zero_le _⟩) hS (fun H locs hP hS => ?_)
    have hP : va_P (dC, dI) vwCl (x_w kI ad M_5) H := hP
    refine lv_aload_n hx hb dX7_city_51 rfl (lv_at hl 1 rfl) ?_
    refine va_get (D := (dC, dI)) (ci := 7) (v := .ref (ad (27))) (C := RX7) (T := TX7) (N := 14) hx hb hg inX7 hown hKn.1 hP (0) (x_at7 (c := 0) (by decide)) rfl 7 (Nat.le_of_ble_eq_true rfl) (hg _ lkF_X7_49) (fun _ h9 => h9) rfl dX7_city_52 ?_
    obtain ⟨M_6, e55, h⟩ := bo_use h
    refine gc_v (va_runVN (As := []) (rest := []) hFx (tX4_clear l dC dI kI ad  M_5  e55) ⟨(gc_N hFx hKn.2.2 ck_yX4_clear nkM_X7_103 ⟨Nat.le_of_ble_eq_true rfl, Nat.le_of_ble_eq_true rfl⟩ rfl rfl), hg _ vi_yX4_clear, hg _ vs_yX4_clear⟩ (gp_V x_KnB (x_KnW hKn) hP (x_rc4 (c := 27) (by decide) hKn hP)) rfl rfl hl.1 rfl (lv_room (Nat.le_of_ble_eq_true rfl)) dX7_city_55 ⟨Nat.zero_le _, Nat.zero_le _⟩) hS (fun H locs hP hS => ?_)
    have hP : va_P (dC, dI) vwCl (x_w kI ad M_6) H := hP
    refine lv_aload_n hx hb dX7_city_58 rfl (lv_at hl 1 rfl) ?_
    refine va_get (D := (dC, dI)) (ci := 7) (v := .ref (ad (33))) (C := RX7) (T := TX7) (N := 14) hx hb hg inX7 hown hKn.1 hP (0) (x_at7 (c := 0) (by decide)) rfl 12 (Nat.le_of_ble_eq_true rfl) (hg _ lkF_X7_76) (fun _ h9 => h9) rfl dX7_city_59 ?_
    obtain ⟨M_7, e62, h⟩ := bo_use h
    refine gc_v (va_runVN (As := []) (rest := []) hFx (tX0_clear l dC dI kI ad 33 M_6 (by decide) e62) ⟨(gc_N hFx hKn.2.2 ck_yX0_clear nkM_X7_106 ⟨Nat.le_of_ble_eq_true rfl, Nat.le_of_ble_eq_true rfl⟩ rfl rfl), hg _ vi_yX0_clear, hg _ vs_yX0_clear⟩ (gp_V x_KnB (x_KnW hKn) hP (x_rc0 (c := 33) (by decide) hKn hP)) rfl rfl hl.1 rfl (lv_room (Nat.le_of_ble_eq_true rfl)) dX7_city_62 ⟨Nat.zero_le _, Nat.zero_le _⟩) hS (fun H locs hP hS => ?_)
    have hP : va_P (dC, dI) vwCl (x_w kI ad M_7) H := hP
    refine lv_aload_n hx hb dX7_city_65 rfl (lv_at hl 1 rfl) ?_
    refine va_get (D := (dC, dI)) (ci := 7) (v := .ref (ad (36))) (C := RX7) (T := TX7) (N := 14) hx hb hg inX7 hown hKn.1 hP (0) (x_at7 (c := 0) (by decide)) rfl 13 (Nat.le_of_ble_eq_true rfl) (hg _ lkF_X7_80) (fun _ h9 => h9) rfl dX7_city_66 ?_
    obtain ⟨M_8, e69, h⟩ := bo_use h
    refine gc_v (va_runVN (As := []) (rest := []) hFx (tX0_clear l dC dI kI ad 36 M_7 (by decide) e69) ⟨(gc_N hFx hKn.2.2 ck_yX0_clear nkM_X7_106 ⟨Nat.le_of_ble_eq_true rfl, Nat.le_of_ble_eq_true rfl⟩ rfl rfl), hg _ vi_yX0_clear, hg _ vs_yX0_clear⟩ (gp_V x_KnB (x_KnW hKn) hP (x_rc0 (c := 36) (by decide) hKn hP)) rfl rfl hl.1 rfl (lv_room (Nat.le_of_ble_eq_true rfl)) dX7_city_69 ⟨Nat.zero_le _, Nat.zero_le _⟩) hS (fun H locs hP hS => ?_)
    have hP : va_P (dC, dI) vwCl (x_w kI ad M_8) H := hP
    refine lv_aload_n hx hb dX7_city_72 rfl (lv_at hl 1 rfl) ?_
    refine lv_iconst (v := 0) hx hb dX7_city_73 (by decide) ?_
    refine va_put (D := (dC, dI)) (ci := 7) (v := .int (0)) (ty := .int) (C := RX7) (T := TX7) (N := 14) hx hb hg inX7 tyX7 tyX7_ok nmX7 hown hKn.1 hP (x_D hKn.2.1) hS (0) (x_at7 (c := 0) (by decide)) rfl 10 (Nat.le_of_ble_eq_true rfl) (hg _ lkF_X7_66) (fun _ h9 => h9) rfl (by decide +kernel) rfl rfl (Nat.le_of_ble_eq_true rfl) dX7_city_74 (fun H locs hP _ hS => ?_)
    have hP : va_P (dC, dI) vwCl (x_w kI ad (upd2 M_8 0 10 0)) H := vp_eq (x_put7_10 (by decide) _) hP
    refine lv_aload_n hx hb dX7_city_77 rfl (lv_at hl 1 rfl) ?_
    refine va_get (D := (dC, dI)) (ci := 7) (v := .ref (ad (3))) (C := RX7) (T := TX7) (N := 14) hx hb hg inX7 hown hKn.1 hP (0) (x_at7 (c := 0) (by decide)) rfl 1 (Nat.le_of_ble_eq_true rfl) (hg _ lkF_X7_19) (fun _ h9 => h9) rfl dX7_city_78 ?_
    refine va_getN (D := (dC, dI)) (ci := 1) (v := .int ((upd2 M_8 0 10 0 3 2))) (C := RX1) (T := TX1) (N := 10) hx hb hg inX1 hown hKn.1 hP (3) (x_at1 (c := 3) (by decide)) rfl 2 (Nat.le_of_ble_eq_true rfl) (nest_use hKn.2.2 nkF_X7_107) (fun _ h9 => h9) rfl dX7_city_81 ?_
    exact W.iret (v := (upd2 M_8 0 10 0 3 2)) hx hb hr (fun t ht hW => ⟨⟨(upd2 M_8 0 10 0 3 2), upd2 M_8 0 10 0, rfl, Prod.mk.inj (Option.some.inj h), by rw [ht]; exact hP, x_KnW hKn t hW⟩, hS.F ht⟩) hS.2.2 dX7_city_84
  · have h := ife_f c_3 h
    refine lv_bipush (v := -10) hx hb dX7_city_24 (by decide) ?_
    refine lv_iload_n hx hb dX7_city_26 rfl (lv_at hl 0 rfl) ?_
    refine lv_isub hx hb dX7_city_27 ?_
    exact W.iret (v := ((-10) - r_1)) hx hb hr (fun t ht hW => ⟨⟨((-10) - r_1), upd2 M_2 1 1 0, rfl, Prod.mk.inj (Option.some.inj h), by rw [ht]; exact hP, x_KnW hKn t hW⟩, hS.F ht⟩) hS.2.2 dX7_city_28
noncomputable def FX7_convincesOf (a1 : Int32) (a2 : Int32) (M : (Nat → Nat → Int32)) : Option (Int32 × (Nat → Nat → Int32)) :=
  bo (FX3_copyFrom 20 17 M) (fun (M_1 : (Nat → Nat → Int32)) => bo (FX3_spendNight 20 3 a1 M_1) (fun (M_2 : (Nat → Nat → Int32)) => bo (FX3_convincedOf 20 3 M_2) (fun (r_3 : Int32) => bo (FX7_has r_3 a2) (fun (r_4 : Int32) => if bo01 r_4 then some (r_4, M_2) else none))))
set_option maxHeartbeats 4000000 in
set_option maxRecDepth 100000 in
theorem tX7_convincesOf (l : Launch) (dC : Nat → ClassId) (dI : Nat → Nat → Nat) (kI : ClassId) (ad : Nat → Nat) (a1 : Int32) (a2 : Int32) (M : (Nat → Nat → Int32))  {r0 : Int32} {M0 : (Nat → Nat → Int32)} (h : FX7_convincesOf a1 a2 M = some (r0, M0)) : Met l yX7_convincesOf (wsA yX7_convincesOf cX7_convincesOf 3 (some .boolean)) ({ frames := 3, cells := 0, slots := 0, locals := 72 } : Room) (va_Pc [.ref (ad (0)), .int (a1), .int (a2)] (gI (x_Wd dC dI kI ad) (x_Kn dC dI kI ad) M)) (va_Qi (fun (r : Int32) (u : (Nat → Nat → Int32)) => r = r0 ∧ u = M0) (gI (x_Wd dC dI kI ad) (x_Kn dC dI kI ad)) (x_A ad)) 0 0 (x_A ad) := by
  refine Met.ofW (cc := cX7_convincesOf) (maxL := 3) (ret := (some .boolean)) (by decide) rfl ?_
  intro p e s m args below meth c s₁ B hml hv
  obtain ⟨rfl, hP, hKn⟩ := hv
  have hx := B.exec
  have hb := B.bytes
  have hr := B.returns
  have hts := atoms_spec (ws := wsA yX7_convincesOf cX7_convincesOf 3 (some .boolean)) B.pre
  have hg : ∀ w ∈ lw_good, w.before _ s = true := fun w h => hts w (List.mem_cons_of_mem _ h)
  have hown : s.vm.findClass RX7 = some m.cls := findClass_of_methodNamed B.named
  have hlocks := B.notSynchronized
  have hS : va_S (x_A ad) s.heap s.heap [] := va_S.rf
  have hFx : gFix p c cX7_convincesOf 3 s m _ RX7 := ⟨hx, hb, hml, hown, hg⟩
  have hP : va_P (dC, dI) vwCl (x_w kI ad M) s.heap := hP
  have hl := lv_entry ([.ref (ad (0)), .int (a1), .int (a2)]) (n := 3) (Nat.le_of_ble_eq_true rfl)
  rw [lg_entry_eq]
  generalize (lg_sl ([.ref (ad (0)), .int (a1), .int (a2)]) ++ List.replicate (3 - (lg_sl ([.ref (ad (0)), .int (a1), .int (a2)])).length) Slot.unset).toArray = ls at hl ⊢
  have hl : lv_has ls 3 [(0, .ref (ad (0))), (1, .int (a1)), (2, .int (a2))] := hl
  unfold FX7_convincesOf at h
  refine lv_aload_n hx hb dX7_convincesOf_0 rfl (lv_at hl 0 rfl) ?_
  refine va_get (D := (dC, dI)) (ci := 7) (v := .ref (ad (20))) (C := RX7) (T := TX7) (N := 14) hx hb hg inX7 hown hKn.1 hP (0) (x_at7 (c := 0) (by decide)) rfl 4 (Nat.le_of_ble_eq_true rfl) (hg _ lkF_X7_33) (fun _ h9 => h9) rfl dX7_convincesOf_1 ?_
  refine lv_aload_n hx hb dX7_convincesOf_4 rfl (lv_at hl 0 rfl) ?_
  refine va_get (D := (dC, dI)) (ci := 7) (v := .ref (ad (17))) (C := RX7) (T := TX7) (N := 14) hx hb hg inX7 hown hKn.1 hP (0) (x_at7 (c := 0) (by decide)) rfl 3 (Nat.le_of_ble_eq_true rfl) (hg _ lkF_X7_29) (fun _ h9 => h9) rfl dX7_convincesOf_5 ?_
  obtain ⟨M_1, e8, h⟩ := bo_use h
  refine gc_v (va_runVN (As := [.ref (ad (17))]) (rest := []) hFx (tX3_copyFrom l dC dI kI ad 20 17 M (by decide) (by decide) e8) ⟨(gc_N hFx hKn.2.2 ck_yX3_copyFrom nkM_X7_210 ⟨Nat.le_of_ble_eq_true rfl, Nat.le_of_ble_eq_true rfl⟩ rfl rfl), hg _ vi_yX3_copyFrom, hg _ vs_yX3_copyFrom⟩ (gp_V x_KnB (x_KnW hKn) hP (x_rc3 (c := 20) (by decide) hKn hP)) rfl rfl hl.1 rfl (lv_room (Nat.le_of_ble_eq_true rfl)) dX7_convincesOf_8 ⟨Nat.zero_le _, Nat.zero_le _⟩) hS (fun H locs hP hS => ?_)
  have hP : va_P (dC, dI) vwCl (x_w kI ad M_1) H := hP
  refine lv_aload_n hx hb dX7_convincesOf_11 rfl (lv_at hl 0 rfl) ?_
  refine va_get (D := (dC, dI)) (ci := 7) (v := .ref (ad (20))) (C := RX7) (T := TX7) (N := 14) hx hb hg inX7 hown hKn.1 hP (0) (x_at7 (c := 0) (by decide)) rfl 4 (Nat.le_of_ble_eq_true rfl) (hg _ lkF_X7_33) (fun _ h9 => h9) rfl dX7_convincesOf_12 ?_
  refine lv_aload_n hx hb dX7_convincesOf_15 rfl (lv_at hl 0 rfl) ?_
  refine va_get (D := (dC, dI)) (ci := 7) (v := .ref (ad (3))) (C := RX7) (T := TX7) (N := 14) hx hb hg inX7 hown hKn.1 hP (0) (x_at7 (c := 0) (by decide)) rfl 1 (Nat.le_of_ble_eq_true rfl) (hg _ lkF_X7_19) (fun _ h9 => h9) rfl dX7_convincesOf_16 ?_
  refine lv_iload_n hx hb dX7_convincesOf_19 rfl (lv_at hl 1 rfl) ?_
  obtain ⟨M_2, e20, h⟩ := bo_use h
  refine gc_v (va_runVN (As := [.ref (ad (3)), .int (a1)]) (rest := []) hFx (tX3_spendNight l dC dI kI ad 20 3 a1 M_1 (by decide) (by decide) e20) ⟨(gc_N hFx hKn.2.2 ck_yX3_spendNight nkM_X7_187 ⟨Nat.le_of_ble_eq_true rfl, Nat.le_of_ble_eq_true rfl⟩ rfl rfl), hg _ vi_yX3_spendNight, hg _ vs_yX3_spendNight⟩ (gp_V x_KnB (x_KnW hKn) hP (x_rc3 (c := 20) (by decide) hKn hP)) rfl rfl hl.1 rfl (lv_room (Nat.le_of_ble_eq_true rfl)) dX7_convincesOf_20 ⟨Nat.zero_le _, Nat.zero_le _⟩) hS (fun H locs hP hS => ?_)
  have hP : va_P (dC, dI) vwCl (x_w kI ad M_2) H := hP
  refine lv_aload_n hx hb dX7_convincesOf_23 rfl (lv_at hl 0 rfl) ?_
  refine va_get (D := (dC, dI)) (ci := 7) (v := .ref (ad (20))) (C := RX7) (T := TX7) (N := 14) hx hb hg inX7 hown hKn.1 hP (0) (x_at7 (c := 0) (by decide)) rfl 4 (Nat.le_of_ble_eq_true rfl) (hg _ lkF_X7_33) (fun _ h9 => h9) rfl dX7_convincesOf_24 ?_
  refine lv_aload_n hx hb dX7_convincesOf_27 rfl (lv_at hl 0 rfl) ?_
  refine va_get (D := (dC, dI)) (ci := 7) (v := .ref (ad (3))) (C := RX7) (T := TX7) (N := 14) hx hb hg inX7 hown hKn.1 hP (0) (x_at7 (c := 0) (by decide)) rfl 1 (Nat.le_of_ble_eq_true rfl) (hg _ lkF_X7_19) (fun _ h9 => h9) rfl dX7_convincesOf_28 ?_
  obtain ⟨r_3, e31, h⟩ := bo_use h
  refine gc_i (va_runVN (As := [.ref (ad (3))]) (rest := []) hFx (tX3_convincedOf l dC dI kI ad 20 3 M_2 (by decide) (by decide) e31) ⟨(gc_N hFx hKn.2.2 ck_yX3_convincedOf nkM_X7_128 ⟨Nat.le_of_ble_eq_true rfl, Nat.le_of_ble_eq_true rfl⟩ rfl rfl), hg _ vi_yX3_convincedOf, hg _ vs_yX3_convincedOf⟩ (gp_V x_KnB (x_KnW hKn) hP (x_rc3 (c := 20) (by decide) hKn hP)) rfl rfl hl.1 rfl (lv_room (Nat.le_of_ble_eq_true rfl)) dX7_convincesOf_31 ⟨Nat.zero_le _, Nat.zero_le _⟩) hS (fun H locs hP hS => ?_)
  have hP : va_P (dC, dI) vwCl (x_w kI ad M_2) H := hP
  refine lv_iload_n hx hb dX7_convincesOf_34 rfl (lv_at hl 2 rfl) ?_
  obtain ⟨r_4, e35, h⟩ := bo_use h
  refine gc_i (va_runS (As := [.int (r_3), .int (a2)]) (rest := []) hFx (tX7_has l dC dI kI ad r_3 a2 M_2  e35) ⟨(gc_B hFx ck_yX7_has lkM_X7_168 ⟨Nat.le_of_ble_eq_true rfl, Nat.le_of_ble_eq_true rfl⟩ rfl rfl), hg _ st_yX7_has⟩ (gp_S x_KnB (x_KnW hKn) hP) rfl rfl hl.1 rfl (lv_room (Nat.le_of_ble_eq_true rfl)) dX7_convincesOf_35 ⟨Nat.zero_le _, Nat.zero_le _⟩) hS (fun H locs hP hS => ?_)
  have hP : va_P (dC, dI) vwCl (x_w kI ad M_2) H := hP
  obtain ⟨hbo, h⟩ := if_use h
  exact W.zret (v := r_4) hx hb hr (narrow_b01 hbo) (fun t ht hW => ⟨⟨r_4, M_2, rfl, Prod.mk.inj (Option.some.inj h), by rw [ht]; exact hP, x_KnW hKn t hW⟩, hS.F ht⟩) hS.2.2 dX7_convincesOf_38
noncomputable def FX7_drawOf (a1 : Int32) (M : (Nat → Nat → Int32)) : Option (Int32 × (Nat → Nat → Int32)) :=
  (if a1 ≤ 0 then some (0, upd2 M 0 11 (Int64.toInt32 ((((((M 0 11)).toInt64) * 1103515245) + 12345) &&& 2147483647))) else (if a1 = 0 then none else some ((((upd2 M 0 11 (Int64.toInt32 ((((((M 0 11)).toInt64) * 1103515245) + 12345) &&& 2147483647)) 0 11) / 65536) - ((upd2 M 0 11 (Int64.toInt32 ((((((M 0 11)).toInt64) * 1103515245) + 12345) &&& 2147483647)) 0 11) / 65536) / a1 * a1), upd2 M 0 11 (Int64.toInt32 ((((((M 0 11)).toInt64) * 1103515245) + 12345) &&& 2147483647)))))
set_option maxHeartbeats 4000000 in
set_option maxRecDepth 100000 in
theorem tX7_drawOf (l : Launch) (dC : Nat → ClassId) (dI : Nat → Nat → Nat) (kI : ClassId) (ad : Nat → Nat) (a1 : Int32) (M : (Nat → Nat → Int32))  {r0 : Int32} {M0 : (Nat → Nat → Int32)} (h : FX7_drawOf a1 M = some (r0, M0)) : Met l yX7_drawOf (wsA yX7_drawOf cX7_drawOf 2 (some .int)) ({ frames := 0, cells := 0, slots := 0, locals := 0 } : Room) (va_Pc [.ref (ad (0)), .int (a1)] (gI (x_Wd dC dI kI ad) (x_Kn dC dI kI ad) M)) (va_Qi (fun (r : Int32) (u : (Nat → Nat → Int32)) => r = r0 ∧ u = M0) (gI (x_Wd dC dI kI ad) (x_Kn dC dI kI ad)) (x_A ad)) 0 0 (x_A ad) := by
  refine Met.ofW (cc := cX7_drawOf) (maxL := 2) (ret := (some .int)) (by decide) rfl ?_
  intro p e s m args below meth c s₁ B hml hv
  obtain ⟨rfl, hP, hKn⟩ := hv
  have hx := B.exec
  have hb := B.bytes
  have hr := B.returns
  have hts := atoms_spec (ws := wsA yX7_drawOf cX7_drawOf 2 (some .int)) B.pre
  have hg : ∀ w ∈ lw_good, w.before _ s = true := fun w h => hts w (List.mem_cons_of_mem _ h)
  have hown : s.vm.findClass RX7 = some m.cls := findClass_of_methodNamed B.named
  have hlocks := B.notSynchronized
  have hS : va_S (x_A ad) s.heap s.heap [] := va_S.rf
  have hFx : gFix p c cX7_drawOf 2 s m _ RX7 := ⟨hx, hb, hml, hown, hg⟩
  have hP : va_P (dC, dI) vwCl (x_w kI ad M) s.heap := hP
  have hl := lv_entry ([.ref (ad (0)), .int (a1)]) (n := 2) (Nat.le_of_ble_eq_true rfl)
  rw [lg_entry_eq]
  generalize (lg_sl ([.ref (ad (0)), .int (a1)]) ++ List.replicate (2 - (lg_sl ([.ref (ad (0)), .int (a1)])).length) Slot.unset).toArray = ls at hl ⊢
  have hl : lv_has ls 2 [(0, .ref (ad (0))), (1, .int (a1))] := hl
  unfold FX7_drawOf at h
  refine lv_aload_n hx hb dX7_drawOf_0 rfl (lv_at hl 0 rfl) ?_
  refine lv_aload_n hx hb dX7_drawOf_1 rfl (lv_at hl 0 rfl) ?_
  refine va_get (D := (dC, dI)) (ci := 7) (v := .int ((M 0 11))) (C := RX7) (T := TX7) (N := 14) hx hb hg inX7 hown hKn.1 hP (0) (x_at7 (c := 0) (by decide)) rfl 11 (Nat.le_of_ble_eq_true rfl) (hg _ lkF_X7_70) (fun _ h9 => h9) rfl dX7_drawOf_2 ?_
  refine lv_i2l (v := (((M 0 11)).toInt64)) hx hb dX7_drawOf_5 rfl ?_
  refine lv_ldc2 hx hb hown (hg _ kc_X7_268) dX7_drawOf_6 ?_
  refine lv_lmul hx hb dX7_drawOf_9 ?_
  refine lv_ldc2 hx hb hown (hg _ kc_X7_270) dX7_drawOf_10 ?_
  refine lv_ladd hx hb dX7_drawOf_13 ?_
  refine lv_ldc2 hx hb hown (hg _ kc_X7_272) dX7_drawOf_14 ?_
  refine lv_land hx hb dX7_drawOf_17 ?_
  refine lv_l2i (v := (Int64.toInt32 ((((((M 0 11)).toInt64) * 1103515245) + 12345) &&& 2147483647))) hx hb dX7_drawOf_18 rfl ?_
  refine va_put (D := (dC, dI)) (ci := 7) (v := .int ((Int64.toInt32 ((((((M 0 11)).toInt64) * 1103515245) + 12345) &&& 2147483647)))) (ty := .int) (C := RX7) (T := TX7) (N := 14) hx hb hg inX7 tyX7 tyX7_ok nmX7 hown hKn.1 hP (x_D hKn.2.1) hS (0) (x_at7 (c := 0) (by decide)) rfl 11 (Nat.le_of_ble_eq_true rfl) (hg _ lkF_X7_70) (fun _ h9 => h9) rfl (by decide +kernel) rfl rfl (Nat.le_of_ble_eq_true rfl) dX7_drawOf_19 (fun H locs hP _ hS => ?_)
  have hP : va_P (dC, dI) vwCl (x_w kI ad (upd2 M 0 11 (Int64.toInt32 ((((((M 0 11)).toInt64) * 1103515245) + 12345) &&& 2147483647)))) H := vp_eq (x_put7_11 (by decide) _) hP
  refine lv_iload_n hx hb dX7_drawOf_22 rfl (lv_at hl 1 rfl) ?_
  refine lv_if_le (tgt := 39) hx hb dX7_drawOf_23 (by decide) (fun c_1 => ?_) (fun c_1 => ?_)
  · have h := ife_t c_1 h
    refine lv_iconst (v := 0) hx hb dX7_drawOf_39 (by decide) ?_
    exact W.iret (v := 0) hx hb hr (fun t ht hW => ⟨⟨0, upd2 M 0 11 (Int64.toInt32 ((((((M 0 11)).toInt64) * 1103515245) + 12345) &&& 2147483647)), rfl, Prod.mk.inj (Option.some.inj h), by rw [ht]; exact hP, x_KnW hKn t hW⟩, hS.F ht⟩) hS.2.2 dX7_drawOf_40
  · have h := ife_f c_1 h
    refine lv_aload_n hx hb dX7_drawOf_26 rfl (lv_at hl 0 rfl) ?_
    refine va_get (D := (dC, dI)) (ci := 7) (v := .int ((upd2 M 0 11 (Int64.toInt32 ((((((M 0 11)).toInt64) * 1103515245) + 12345) &&& 2147483647)) 0 11))) (C := RX7) (T := TX7) (N := 14) hx hb hg inX7 hown hKn.1 hP (0) (x_at7 (c := 0) (by decide)) rfl 11 (Nat.le_of_ble_eq_true rfl) (hg _ lkF_X7_70) (fun _ h9 => h9) rfl dX7_drawOf_27 ?_
    refine lv_ldcw hx hb hown (hg _ kc_X7_274) dX7_drawOf_30 ?_
    refine lv_idiv hx hb dX7_drawOf_33 (by decide) ?_
    refine lv_iload_n hx hb dX7_drawOf_34 rfl (lv_at hl 1 rfl) ?_
    obtain ⟨hd35, h⟩ := ifn_use h
    refine lv_irem hx hb dX7_drawOf_35 hd35 ?_
    refine lv_goto (tgt := 40) hx hb dX7_drawOf_36 (by decide) ?_
    exact W.iret (v := (((upd2 M 0 11 (Int64.toInt32 ((((((M 0 11)).toInt64) * 1103515245) + 12345) &&& 2147483647)) 0 11) / 65536) - ((upd2 M 0 11 (Int64.toInt32 ((((((M 0 11)).toInt64) * 1103515245) + 12345) &&& 2147483647)) 0 11) / 65536) / a1 * a1)) hx hb hr (fun t ht hW => ⟨⟨(((upd2 M 0 11 (Int64.toInt32 ((((((M 0 11)).toInt64) * 1103515245) + 12345) &&& 2147483647)) 0 11) / 65536) - ((upd2 M 0 11 (Int64.toInt32 ((((((M 0 11)).toInt64) * 1103515245) + 12345) &&& 2147483647)) 0 11) / 65536) / a1 * a1), upd2 M 0 11 (Int64.toInt32 ((((((M 0 11)).toInt64) * 1103515245) + 12345) &&& 2147483647)), rfl, Prod.mk.inj (Option.some.inj h), by rw [ht]; exact hP, x_KnW hKn t hW⟩, hS.F ht⟩) hS.2.2 dX7_drawOf_40
noncomputable def FX7_drawnSheet_L6 (K : Int32 → (Nat → Nat → Int32) → Option (Int32 × (Nat → Nat → Int32))) (k : Nat) (v1_3 : Int32) (v2_4 : Int32) (v3_5 : Int32) (M_6 : (Nat → Nat → Int32)) : Option (Int32 × (Nat → Nat → Int32)) := match k with
  | 0 => none
  | k + 1 => (if (M_6 3 2) ≤ v3_5 then K v1_3 M_6 else bo (FX7_has (M_6 17 2) v3_5) (fun (r_8 : Int32) => jn (fun (j1_9 : Int32) (j2_10 : Int32) (M_11 : (Nat → Nat → Int32)) => FX7_drawnSheet_L6 K k j1_9 j2_10 (v3_5 + 1) M_11) (fun J59 => (if r_8 = 0 then J59 v1_3 v2_4 M_6 else (if (M_6 3 0) ≤ v2_4 then J59 v1_3 v2_4 M_6 else bd (FX7_drawOf 3 M_6) (fun (r_14 : Int32) (M_15 : (Nat → Nat → Int32)) => (if r_14 = 0 then J59 (v1_3 ||| (1 <<< (v3_5 &&& 31))) (v2_4 + 1) M_15 else J59 v1_3 v2_4 M_15)))))))
noncomputable def FX7_drawnSheet  (M : (Nat → Nat → Int32)) : Option (Int32 × (Nat → Nat → Int32)) :=
  FX7_drawnSheet_L6 (fun (k1_1 : Int32) (M_2 : (Nat → Nat → Int32)) => some (k1_1, M_2)) fuelN 0 0 0 M
set_option maxHeartbeats 4000000 in
set_option maxRecDepth 100000 in
theorem tX7_drawnSheet (l : Launch) (dC : Nat → ClassId) (dI : Nat → Nat → Nat) (kI : ClassId) (ad : Nat → Nat)  (M : (Nat → Nat → Int32))  {r0 : Int32} {M0 : (Nat → Nat → Int32)} (h : FX7_drawnSheet  M = some (r0, M0)) : Met l yX7_drawnSheet (wsA yX7_drawnSheet cX7_drawnSheet 4 (some .int)) ({ frames := 1, cells := 0, slots := 0, locals := 21 } : Room) (va_Pc [.ref (ad (0))] (gI (x_Wd dC dI kI ad) (x_Kn dC dI kI ad) M)) (va_Qi (fun (r : Int32) (u : (Nat → Nat → Int32)) => r = r0 ∧ u = M0) (gI (x_Wd dC dI kI ad) (x_Kn dC dI kI ad)) (x_A ad)) 0 0 (x_A ad) := by
  refine Met.ofW (cc := cX7_drawnSheet) (maxL := 4) (ret := (some .int)) (by decide) rfl ?_
  intro p e s m args below meth c s₁ B hml hv
  obtain ⟨rfl, hP, hKn⟩ := hv
  have hx := B.exec
  have hb := B.bytes
  have hr := B.returns
  have hts := atoms_spec (ws := wsA yX7_drawnSheet cX7_drawnSheet 4 (some .int)) B.pre
  have hg : ∀ w ∈ lw_good, w.before _ s = true := fun w h => hts w (List.mem_cons_of_mem _ h)
  have hown : s.vm.findClass RX7 = some m.cls := findClass_of_methodNamed B.named
  have hlocks := B.notSynchronized
  have hS : va_S (x_A ad) s.heap s.heap [] := va_S.rf
  have hFx : gFix p c cX7_drawnSheet 4 s m _ RX7 := ⟨hx, hb, hml, hown, hg⟩
  have hP : va_P (dC, dI) vwCl (x_w kI ad M) s.heap := hP
  have hl := lv_entry ([.ref (ad (0))]) (n := 4) (Nat.le_of_ble_eq_true rfl)
  rw [lg_entry_eq]
  generalize (lg_sl ([.ref (ad (0))]) ++ List.replicate (4 - (lg_sl ([.ref (ad (0))])).length) Slot.unset).toArray = ls at hl ⊢
  have hl : lv_has ls 4 [(0, .ref (ad (0)))] := hl
  unfold FX7_drawnSheet at h
  refine lv_iconst (v := 0) hx hb dX7_drawnSheet_0 (by decide) ?_
  refine lv_istore_n (lv' := [(1, .int (0)), (0, .ref (ad (0)))]) hx hb dX7_drawnSheet_1 rfl hl (Nat.le_of_ble_eq_true rfl) rfl (fun ls hl => ?_)
  refine lv_iconst (v := 0) hx hb dX7_drawnSheet_2 (by decide) ?_
  refine lv_istore_n (lv' := [(2, .int (0)), (1, .int (0)), (0, .ref (ad (0)))]) hx hb dX7_drawnSheet_3 rfl hl (Nat.le_of_ble_eq_true rfl) rfl (fun ls hl => ?_)
  refine lv_iconst (v := 0) hx hb dX7_drawnSheet_4 (by decide) ?_
  refine lv_istore_n (lv' := [(3, .int (0)), (2, .int (0)), (1, .int (0)), (0, .ref (ad (0)))]) hx hb dX7_drawnSheet_5 rfl hl (Nat.le_of_ble_eq_true rfl) rfl (fun ls hl => ?_)
  obtain ⟨K6, eK6, h⟩ := exK (Lp := fun K => FX7_drawnSheet_L6 K fuelN 0 0 0 M) h
  have hK6 : ∀ (k1_1 : Int32) (M_2 : (Nat → Nat → Int32)) (H : Heap) (locs : List Loc) (ls : Array Slot), va_P (dC, dI) vwCl (x_w kI ad M_2) H → va_S (x_A ad) s.heap H locs → lv_has ls 4 [(1, .int (k1_1))] → K6 k1_1 M_2 = some (r0, M0) → W p l e (headSpec (wsA yX7_drawnSheet cX7_drawnSheet 4 (some .int)) ({ frames := 1, cells := 0, slots := 0, locals := 21 } : Room)).room s m (([.ref (ad (0))] : List Value).toArray) below meth c H locs 0 0 (MQ below (va_Qi (fun (r : Int32) (u : (Nat → Nat → Int32)) => r = r0 ∧ u = M0) (gI (x_Wd dC dI kI ad) (x_Kn dC dI kI ad)) (x_A ad)) (([.ref (ad (0))] : List Value).toArray) s 0 0 (x_A ad)) (F0 m 65 ls []) := by
    intro k1_1 M_2 H locs ls hP hS hl h
    have h := useK2 eK6 h
    refine lv_iload_n hx hb dX7_drawnSheet_65 rfl (lv_at hl 0 rfl) ?_
    exact W.iret (v := k1_1) hx hb hr (fun t ht hW => ⟨⟨k1_1, M_2, rfl, Prod.mk.inj (Option.some.inj h), by rw [ht]; exact hP, x_KnW hKn t hW⟩, hS.F ht⟩) hS.2.2 dX7_drawnSheet_66
  have hL6 : ∀ (k : Nat) (v1_3 : Int32) (v2_4 : Int32) (v3_5 : Int32) (M_6 : (Nat → Nat → Int32)) (H : Heap) (locs : List Loc) (ls : Array Slot), va_P (dC, dI) vwCl (x_w kI ad M_6) H → va_S (x_A ad) s.heap H locs → lv_has ls 4 [(0, .ref (ad (0))), (1, .int (v1_3)), (2, .int (v2_4)), (3, .int (v3_5))] → FX7_drawnSheet_L6 K6 k v1_3 v2_4 v3_5 M_6 = some (r0, M0) → W p l e (headSpec (wsA yX7_drawnSheet cX7_drawnSheet 4 (some .int)) ({ frames := 1, cells := 0, slots := 0, locals := 21 } : Room)).room s m (([.ref (ad (0))] : List Value).toArray) below meth c H locs 0 0 (MQ below (va_Qi (fun (r : Int32) (u : (Nat → Nat → Int32)) => r = r0 ∧ u = M0) (gI (x_Wd dC dI kI ad) (x_Kn dC dI kI ad)) (x_A ad)) (([.ref (ad (0))] : List Value).toArray) s 0 0 (x_A ad)) (F0 m 6 ls []) := by
    intro k
    induction k with
    | zero => intro v1_3 v2_4 v3_5 M_6 H locs ls hP hS hl h; cases h
    | succ k ih6 =>
      intro v1_3 v2_4 v3_5 M_6 H locs ls hP hS hl h
      unfold FX7_drawnSheet_L6 at h
      refine lv_iload_n hx hb dX7_drawnSheet_6 rfl (lv_at hl 3 rfl) ?_
      refine lv_aload_n hx hb dX7_drawnSheet_7 rfl (lv_at hl 0 rfl) ?_
      refine va_get (D := (dC, dI)) (ci := 7) (v := .ref (ad (3))) (C := RX7) (T := TX7) (N := 14) hx hb hg inX7 hown hKn.1 hP (0) (x_at7 (c := 0) (by decide)) rfl 1 (Nat.le_of_ble_eq_true rfl) (hg _ lkF_X7_19) (fun _ h9 => h9) rfl dX7_drawnSheet_8 ?_
      refine va_getN (D := (dC, dI)) (ci := 1) (v := .int ((M_6 3 2))) (C := RX1) (T := TX1) (N := 10) hx hb hg inX1 hown hKn.1 hP (3) (x_at1 (c := 3) (by decide)) rfl 2 (Nat.le_of_ble_eq_true rfl) (nest_use hKn.2.2 nkF_X7_107) (fun _ h9 => h9) rfl dX7_drawnSheet_11 ?_
      refine lv_icmp_ge (tgt := 65) hx hb dX7_drawnSheet_14 (by decide) (fun c_7 => ?_) (fun c_7 => ?_)
      · have h := ife_t c_7 h
        exact hK6 v1_3 M_6 _ _ _ hP hS (lv_sub hl [1] rfl) h
      · have h := ife_f c_7 h
        refine lv_aload_n hx hb dX7_drawnSheet_17 rfl (lv_at hl 0 rfl) ?_
        refine va_get (D := (dC, dI)) (ci := 7) (v := .ref (ad (17))) (C := RX7) (T := TX7) (N := 14) hx hb hg inX7 hown hKn.1 hP (0) (x_at7 (c := 0) (by decide)) rfl 3 (Nat.le_of_ble_eq_true rfl) (hg _ lkF_X7_29) (fun _ h9 => h9) rfl dX7_drawnSheet_18 ?_
        refine va_getN (D := (dC, dI)) (ci := 3) (v := .int ((M_6 17 2))) (C := RX3) (T := TX3) (N := 6) hx hb hg inX3 hown hKn.1 hP (17) (x_at3 (c := 17) (by decide)) rfl 2 (Nat.le_of_ble_eq_true rfl) (nest_use hKn.2.2 nkF_X7_131) (fun _ h9 => h9) rfl dX7_drawnSheet_21 ?_
        refine lv_iload_n hx hb dX7_drawnSheet_24 rfl (lv_at hl 3 rfl) ?_
        obtain ⟨r_8, e25, h⟩ := bo_use h
        refine gc_i (va_runS (As := [.int ((M_6 17 2)), .int (v3_5)]) (rest := []) hFx (tX7_has l dC dI kI ad (M_6 17 2) v3_5 M_6  e25) ⟨(gc_B hFx ck_yX7_has lkM_X7_168 ⟨Nat.le_of_ble_eq_true rfl, Nat.le_of_ble_eq_true rfl⟩ rfl rfl), hg _ st_yX7_has⟩ (gp_S x_KnB (x_KnW hKn) hP) rfl rfl hl.1 rfl (lv_room (Nat.le_of_ble_eq_true rfl)) dX7_drawnSheet_25 ⟨Nat.zero_le _, Nat.zero_le _⟩) hS (fun H locs hP hS => ?_)
        have hP : va_P (dC, dI) vwCl (x_w kI ad M_6) H := hP
        obtain ⟨J59, eJ59, h⟩ := jn_use h
        have hJ59 : ∀ (j1_9 : Int32) (j2_10 : Int32) (M_11 : (Nat → Nat → Int32)) (H : Heap) (locs : List Loc) (ls : Array Slot), va_P (dC, dI) vwCl (x_w kI ad M_11) H → va_S (x_A ad) s.heap H locs → lv_has ls 4 [(0, .ref (ad (0))), (3, .int (v3_5)), (1, .int (j1_9)), (2, .int (j2_10))] → J59 j1_9 j2_10 M_11 = some (r0, M0) → W p l e (headSpec (wsA yX7_drawnSheet cX7_drawnSheet 4 (some .int)) ({ frames := 1, cells := 0, slots := 0, locals := 21 } : Room)).room s m (([.ref (ad (0))] : List Value).toArray) below meth c H locs 0 0 (MQ below (va_Qi (fun (r : Int32) (u : (Nat → Nat → Int32)) => r = r0 ∧ u = M0) (gI (x_Wd dC dI kI ad) (x_Kn dC dI kI ad)) (x_A ad)) (([.ref (ad (0))] : List Value).toArray) s 0 0 (x_A ad)) (F0 m 59 ls []) := by
          intro j1_9 j2_10 M_11 H locs ls hP hS hl h
          have h := useK3 eJ59 h
          refine lv_iinc (v := (v3_5 + 1)) (lv' := [(3, .int ((v3_5 + 1))), (0, .ref (ad (0))), (1, .int (j1_9)), (2, .int (j2_10))]) hx hb dX7_drawnSheet_59 hl (k := 1) rfl rfl (Nat.le_of_ble_eq_true rfl) rfl (fun ls hl => ?_)
          refine lv_goto (tgt := 6) hx hb dX7_drawnSheet_62 (by decide) ?_
          exact ih6 j1_9 j2_10 (v3_5 + 1) M_11 _ _ _ hP hS (lv_sub hl [1, 2, 3, 0] rfl) h
        refine lv_if_eq (tgt := 59) hx hb dX7_drawnSheet_28 (by decide) (fun c_12 => ?_) (fun c_12 => ?_)
        · have h := ife_t c_12 h
          exact hJ59 v1_3 v2_4 M_6 _ _ _ hP hS (lv_sub hl [0, 3, 1, 2] rfl) h
        · have h := ife_f c_12 h
          refine lv_iload_n hx hb dX7_drawnSheet_31 rfl (lv_at hl 2 rfl) ?_
          refine lv_aload_n hx hb dX7_drawnSheet_32 rfl (lv_at hl 0 rfl) ?_
          refine va_get (D := (dC, dI)) (ci := 7) (v := .ref (ad (3))) (C := RX7) (T := TX7) (N := 14) hx hb hg inX7 hown hKn.1 hP (0) (x_at7 (c := 0) (by decide)) rfl 1 (Nat.le_of_ble_eq_true rfl) (hg _ lkF_X7_19) (fun _ h9 => h9) rfl dX7_drawnSheet_33 ?_
          refine va_getN (D := (dC, dI)) (ci := 1) (v := .int ((M_6 3 0))) (C := RX1) (T := TX1) (N := 10) hx hb hg inX1 hown hKn.1 hP (3) (x_at1 (c := 3) (by decide)) rfl 0 (Nat.le_of_ble_eq_true rfl) (nest_use hKn.2.2 nkF_X7_113) (fun _ h9 => h9) rfl dX7_drawnSheet_36 ?_
          refine lv_icmp_ge (tgt := 59) hx hb dX7_drawnSheet_39 (by decide) (fun c_13 => ?_) (fun c_13 => ?_)
          · have h := ife_t c_13 h
            exact hJ59 v1_3 v2_4 M_6 _ _ _ hP hS (lv_sub hl [0, 3, 1, 2] rfl) h
          · have h := ife_f c_13 h
            refine lv_aload_n hx hb dX7_drawnSheet_42 rfl (lv_at hl 0 rfl) ?_
            refine lv_iconst (v := 3) hx hb dX7_drawnSheet_43 (by decide) ?_
            obtain ⟨r_14, M_15, e44, h⟩ := bd_use h
            refine gc_i (va_runV (As := [.int (3)]) (rest := []) hFx (tX7_drawOf l dC dI kI ad 3 M_6  e44) ⟨(gc_B hFx ck_yX7_drawOf lkM_X7_275 ⟨Nat.le_of_ble_eq_true rfl, Nat.le_of_ble_eq_true rfl⟩ rfl rfl), hg _ vi_yX7_drawOf, hg _ vs_yX7_drawOf⟩ (gp_V x_KnB (x_KnW hKn) hP (x_rc7 (c := 0) (by decide) hKn hP)) rfl rfl hl.1 rfl (lv_room (Nat.le_of_ble_eq_true rfl)) dX7_drawnSheet_44 ⟨Nat.zero_le _, Nat.zero_le _⟩) hS (fun H locs hP hS => ?_)
            have hP : va_P (dC, dI) vwCl (x_w kI ad M_15) H := hP
            refine lv_if_ne (tgt := 59) hx hb dX7_drawnSheet_47 (by decide) (fun c_16 => ?_) (fun c_16 => ?_)
            · have h := ife_f c_16 h
              exact hJ59 v1_3 v2_4 M_15 _ _ _ hP hS (lv_sub hl [0, 3, 1, 2] rfl) h
            · have h := ife_t c_16 h
              refine lv_iload_n hx hb dX7_drawnSheet_50 rfl (lv_at hl 1 rfl) ?_
              refine lv_iconst (v := 1) hx hb dX7_drawnSheet_51 (by decide) ?_
              refine lv_iload_n hx hb dX7_drawnSheet_52 rfl (lv_at hl 3 rfl) ?_
              refine lv_ishl hx hb dX7_drawnSheet_53 ?_
              refine lv_ior hx hb dX7_drawnSheet_54 ?_
              refine lv_istore_n (lv' := [(1, .int ((v1_3 ||| (1 <<< (v3_5 &&& 31))))), (0, .ref (ad (0))), (2, .int (v2_4)), (3, .int (v3_5))]) hx hb dX7_drawnSheet_55 rfl hl (Nat.le_of_ble_eq_true rfl) rfl (fun ls hl => ?_)
              refine lv_iinc (v := (v2_4 + 1)) (lv' := [(2, .int ((v2_4 + 1))), (1, .int ((v1_3 ||| (1 <<< (v3_5 &&& 31))))), (0, .ref (ad (0))), (3, .int (v3_5))]) hx hb dX7_drawnSheet_56 hl (k := 2) rfl rfl (Nat.le_of_ble_eq_true rfl) rfl (fun ls hl => ?_)
              exact hJ59 (v1_3 ||| (1 <<< (v3_5 &&& 31))) (v2_4 + 1) M_15 _ _ _ hP hS (lv_sub hl [2, 3, 1, 0] rfl) h
  exact hL6 fuelN 0 0 0 M _ _ _ hP hS (lv_sub hl [3, 2, 1, 0] rfl) h
noncomputable def FX7_drift_L55 (b1 : Int32) (K : (Nat → Nat → Int32) → Option (Int32 × (Nat → Nat → Int32))) (k : Nat) (v2_7 : Int32) (M_8 : (Nat → Nat → Int32)) : Option (Int32 × (Nat → Nat → Int32)) := match k with
  | 0 => none
  | k + 1 => (if b1 ≤ v2_7 then K M_8 else bd (FX7_drawnSheet  M_8) (fun (r_10 : Int32) (M_11 : (Nat → Nat → Int32)) => bo (FX3_spendNight 17 3 r_10 M_11) (fun (M_12 : (Nat → Nat → Int32)) => FX7_drift_L55 b1 K k (v2_7 + 1) M_12)))
noncomputable def FX7_drift (a1 : Int32) (M : (Nat → Nat → Int32)) : Option (Int32 × (Nat → Nat → Int32)) :=
  (if a1 < 1 then some ((-1000000002), M) else (if a1 ≤ 60 then (if (M 3 1) = 0 then some ((-1000000003), M) else (if (M 17 3) ≤ 90000 then bo (FX4_push 17 M) (fun (M_5 : (Nat → Nat → Int32)) => FX7_drift_L55 a1 (fun (M_6 : (Nat → Nat → Int32)) => some ((M_6 17 3), M_6)) fuelN 0 M_5) else some ((-1000000004), M))) else some ((-1000000002), M)))
set_option maxHeartbeats 4000000 in
set_option maxRecDepth 100000 in
theorem tX7_drift (l : Launch) (dC : Nat → ClassId) (dI : Nat → Nat → Nat) (kI : ClassId) (ad : Nat → Nat) (a1 : Int32) (M : (Nat → Nat → Int32))  {r0 : Int32} {M0 : (Nat → Nat → Int32)} (h : FX7_drift a1 M = some (r0, M0)) : Met l yX7_drift (wsA yX7_drift cX7_drift 3 (some .int)) ({ frames := 3, cells := 0, slots := 0, locals := 72 } : Room) (va_Pc [.ref (ad (0)), .int (a1)] (gI (x_Wd dC dI kI ad) (x_Kn dC dI kI ad) M)) (va_Qi (fun (r : Int32) (u : (Nat → Nat → Int32)) => r = r0 ∧ u = M0) (gI (x_Wd dC dI kI ad) (x_Kn dC dI kI ad)) (x_A ad)) 0 0 (x_A ad) := by
  refine Met.ofW (cc := cX7_drift) (maxL := 3) (ret := (some .int)) (by decide) rfl ?_
  intro p e s m args below meth c s₁ B hml hv
  obtain ⟨rfl, hP, hKn⟩ := hv
  have hx := B.exec
  have hb := B.bytes
  have hr := B.returns
  have hts := atoms_spec (ws := wsA yX7_drift cX7_drift 3 (some .int)) B.pre
  have hg : ∀ w ∈ lw_good, w.before _ s = true := fun w h => hts w (List.mem_cons_of_mem _ h)
  have hown : s.vm.findClass RX7 = some m.cls := findClass_of_methodNamed B.named
  have hlocks := B.notSynchronized
  have hS : va_S (x_A ad) s.heap s.heap [] := va_S.rf
  have hFx : gFix p c cX7_drift 3 s m _ RX7 := ⟨hx, hb, hml, hown, hg⟩
  have hP : va_P (dC, dI) vwCl (x_w kI ad M) s.heap := hP
  have hl := lv_entry ([.ref (ad (0)), .int (a1)]) (n := 3) (Nat.le_of_ble_eq_true rfl)
  rw [lg_entry_eq]
  generalize (lg_sl ([.ref (ad (0)), .int (a1)]) ++ List.replicate (3 - (lg_sl ([.ref (ad (0)), .int (a1)])).length) Slot.unset).toArray = ls at hl ⊢
  have hl : lv_has ls 3 [(0, .ref (ad (0))), (1, .int (a1))] := hl
  unfold FX7_drift at h
  refine lv_iload_n hx hb dX7_drift_0 rfl (lv_at hl 1 rfl) ?_
  refine lv_iconst (v := 1) hx hb dX7_drift_1 (by decide) ?_
  refine lv_icmp_lt (tgt := 11) hx hb dX7_drift_2 (by decide) (fun c_1 => ?_) (fun c_1 => ?_)
  · have h := ife_t c_1 h
    refine lv_ldc hx hb hown (hg _ kc_X7_83) dX7_drift_11 ?_
    exact W.iret (v := (-1000000002)) hx hb hr (fun t ht hW => ⟨⟨(-1000000002), M, rfl, Prod.mk.inj (Option.some.inj h), by rw [ht]; exact hP, x_KnW hKn t hW⟩, hS.F ht⟩) hS.2.2 dX7_drift_13
  · have h := ife_f c_1 h
    refine lv_iload_n hx hb dX7_drift_5 rfl (lv_at hl 1 rfl) ?_
    refine lv_bipush (v := 60) hx hb dX7_drift_6 (by decide) ?_
    refine lv_icmp_le (tgt := 14) hx hb dX7_drift_8 (by decide) (fun c_2 => ?_) (fun c_2 => ?_)
    · have h := ife_t c_2 h
      refine lv_aload_n hx hb dX7_drift_14 rfl (lv_at hl 0 rfl) ?_
      refine va_get (D := (dC, dI)) (ci := 7) (v := .ref (ad (3))) (C := RX7) (T := TX7) (N := 14) hx hb hg inX7 hown hKn.1 hP (0) (x_at7 (c := 0) (by decide)) rfl 1 (Nat.le_of_ble_eq_true rfl) (hg _ lkF_X7_19) (fun _ h9 => h9) rfl dX7_drift_15 ?_
      refine va_getN (D := (dC, dI)) (ci := 1) (v := .int ((M 3 1))) (C := RX1) (T := TX1) (N := 10) hx hb hg inX1 hown hKn.1 hP (3) (x_at1 (c := 3) (by decide)) rfl 1 (Nat.le_of_ble_eq_true rfl) (nest_use hKn.2.2 nkF_X7_116) (fun _ h9 => h9) rfl dX7_drift_18 ?_
      refine lv_if_ne (tgt := 27) hx hb dX7_drift_21 (by decide) (fun c_3 => ?_) (fun c_3 => ?_)
      · have h := ife_f c_3 h
        refine lv_aload_n hx hb dX7_drift_27 rfl (lv_at hl 0 rfl) ?_
        refine va_get (D := (dC, dI)) (ci := 7) (v := .ref (ad (17))) (C := RX7) (T := TX7) (N := 14) hx hb hg inX7 hown hKn.1 hP (0) (x_at7 (c := 0) (by decide)) rfl 3 (Nat.le_of_ble_eq_true rfl) (hg _ lkF_X7_29) (fun _ h9 => h9) rfl dX7_drift_28 ?_
        refine va_getN (D := (dC, dI)) (ci := 3) (v := .int ((M 17 3))) (C := RX3) (T := TX3) (N := 6) hx hb hg inX3 hown hKn.1 hP (17) (x_at3 (c := 17) (by decide)) rfl 3 (Nat.le_of_ble_eq_true rfl) (nest_use hKn.2.2 nkF_X7_122) (fun _ h9 => h9) rfl dX7_drift_31 ?_
        refine lv_ldc hx hb hown (hg _ kc_X7_182) dX7_drift_34 ?_
        refine lv_icmp_le (tgt := 42) hx hb dX7_drift_36 (by decide) (fun c_4 => ?_) (fun c_4 => ?_)
        · have h := ife_t c_4 h
          refine lv_aload_n hx hb dX7_drift_42 rfl (lv_at hl 0 rfl) ?_
          refine va_get (D := (dC, dI)) (ci := 7) (v := .ref (ad (27))) (C := RX7) (T := TX7) (N := 14) hx hb hg inX7 hown hKn.1 hP (0) (x_at7 (c := 0) (by decide)) rfl 7 (Nat.le_of_ble_eq_true rfl) (hg _ lkF_X7_49) (fun _ h9 => h9) rfl dX7_drift_43 ?_
          refine lv_aload_n hx hb dX7_drift_46 rfl (lv_at hl 0 rfl) ?_
          refine va_get (D := (dC, dI)) (ci := 7) (v := .ref (ad (17))) (C := RX7) (T := TX7) (N := 14) hx hb hg inX7 hown hKn.1 hP (0) (x_at7 (c := 0) (by decide)) rfl 3 (Nat.le_of_ble_eq_true rfl) (hg _ lkF_X7_29) (fun _ h9 => h9) rfl dX7_drift_47 ?_
          obtain ⟨M_5, e50, h⟩ := bo_use h
          refine gc_v (va_runVN (As := [.ref (ad (17))]) (rest := []) hFx (tX4_push l dC dI kI ad 17 M (by decide) e50) ⟨(gc_N hFx hKn.2.2 ck_yX4_push nkM_X7_183 ⟨Nat.le_of_ble_eq_true rfl, Nat.le_of_ble_eq_true rfl⟩ rfl rfl), hg _ vi_yX4_push, hg _ vs_yX4_push⟩ (gp_V x_KnB (x_KnW hKn) hP (x_rc4 (c := 27) (by decide) hKn hP)) rfl rfl hl.1 rfl (lv_room (Nat.le_of_ble_eq_true rfl)) dX7_drift_50 ⟨Nat.zero_le _, Nat.zero_le _⟩) hS (fun H locs hP hS => ?_)
          have hP : va_P (dC, dI) vwCl (x_w kI ad M_5) H := hP
          refine lv_iconst (v := 0) hx hb dX7_drift_53 (by decide) ?_
          refine lv_istore_n (lv' := [(2, .int (0)), (0, .ref (ad (0))), (1, .int (a1))]) hx hb dX7_drift_54 rfl hl (Nat.le_of_ble_eq_true rfl) rfl (fun ls hl => ?_)
          obtain ⟨K55, eK55, h⟩ := exK (Lp := fun K => FX7_drift_L55 a1 K fuelN 0 M_5) h
          have hK55 : ∀ (M_6 : (Nat → Nat → Int32)) (H : Heap) (locs : List Loc) (ls : Array Slot), va_P (dC, dI) vwCl (x_w kI ad M_6) H → va_S (x_A ad) s.heap H locs → lv_has ls 3 [(0, .ref (ad (0)))] → K55 M_6 = some (r0, M0) → W p l e (headSpec (wsA yX7_drift cX7_drift 3 (some .int)) ({ frames := 3, cells := 0, slots := 0, locals := 72 } : Room)).room s m (([.ref (ad (0)), .int (a1)] : List Value).toArray) below meth c H locs 0 0 (MQ below (va_Qi (fun (r : Int32) (u : (Nat → Nat → Int32)) => r = r0 ∧ u = M0) (gI (x_Wd dC dI kI ad) (x_Kn dC dI kI ad)) (x_A ad)) (([.ref (ad (0)), .int (a1)] : List Value).toArray) s 0 0 (x_A ad)) (F0 m 81 ls []) := by
            intro M_6 H locs ls hP hS hl h
            have h := useK1 eK55 h
            refine lv_aload_n hx hb dX7_drift_81 rfl (lv_at hl 0 rfl) ?_
            refine va_get (D := (dC, dI)) (ci := 7) (v := .ref (ad (17))) (C := RX7) (T := TX7) (N := 14) hx hb hg inX7 hown hKn.1 hP (0) (x_at7 (c := 0) (by decide)) rfl 3 (Nat.le_of_ble_eq_true rfl) (hg _ lkF_X7_29) (fun _ h9 => h9) rfl dX7_drift_82 ?_
            refine va_getN (D := (dC, dI)) (ci := 3) (v := .int ((M_6 17 3))) (C := RX3) (T := TX3) (N := 6) hx hb hg inX3 hown hKn.1 hP (17) (x_at3 (c := 17) (by decide)) rfl 3 (Nat.le_of_ble_eq_true rfl) (nest_use hKn.2.2 nkF_X7_122) (fun _ h9 => h9) rfl dX7_drift_85 ?_
            exact W.iret (v := (M_6 17 3)) hx hb hr (fun t ht hW => ⟨⟨(M_6 17 3), M_6, rfl, Prod.mk.inj (Option.some.inj h), by rw [ht]; exact hP, x_KnW hKn t hW⟩, hS.F ht⟩) hS.2.2 dX7_drift_88
          have hL55 : ∀ (k : Nat) (v2_7 : Int32) (M_8 : (Nat → Nat → Int32)) (H : Heap) (locs : List Loc) (ls : Array Slot), va_P (dC, dI) vwCl (x_w kI ad M_8) H → va_S (x_A ad) s.heap H locs → lv_has ls 3 [(0, .ref (ad (0))), (1, .int (a1)), (2, .int (v2_7))] → FX7_drift_L55 a1 K55 k v2_7 M_8 = some (r0, M0) → W p l e (headSpec (wsA yX7_drift cX7_drift 3 (some .int)) ({ frames := 3, cells := 0, slots := 0, locals := 72 } : Room)).room s m (([.ref (ad (0)), .int (a1)] : List Value).toArray) below meth c H locs 0 0 (MQ below (va_Qi (fun (r : Int32) (u : (Nat → Nat → Int32)) => r = r0 ∧ u = M0) (gI (x_Wd dC dI kI ad) (x_Kn dC dI kI ad)) (x_A ad)) (([.ref (ad (0)), .int (a1)] : List Value).toArray) s 0 0 (x_A ad)) (F0 m 55 ls []) := by
            intro k
            induction k with
            | zero => intro v2_7 M_8 H locs ls hP hS hl h; cases h
            | succ k ih55 =>
              intro v2_7 M_8 H locs ls hP hS hl h
              unfold FX7_drift_L55 at h
              refine lv_iload_n hx hb dX7_drift_55 rfl (lv_at hl 2 rfl) ?_
              refine lv_iload_n hx hb dX7_drift_56 rfl (lv_at hl 1 rfl) ?_
              refine lv_icmp_ge (tgt := 81) hx hb dX7_drift_57 (by decide) (fun c_9 => ?_) (fun c_9 => ?_)
              · have h := ife_t c_9 h
                exact hK55 M_8 _ _ _ hP hS (lv_sub hl [0] rfl) h
              · have h := ife_f c_9 h
                refine lv_aload_n hx hb dX7_drift_60 rfl (lv_at hl 0 rfl) ?_
                refine va_get (D := (dC, dI)) (ci := 7) (v := .ref (ad (17))) (C := RX7) (T := TX7) (N := 14) hx hb hg inX7 hown hKn.1 hP (0) (x_at7 (c := 0) (by decide)) rfl 3 (Nat.le_of_ble_eq_true rfl) (hg _ lkF_X7_29) (fun _ h9 => h9) rfl dX7_drift_61 ?_
                refine lv_aload_n hx hb dX7_drift_64 rfl (lv_at hl 0 rfl) ?_
                refine va_get (D := (dC, dI)) (ci := 7) (v := .ref (ad (3))) (C := RX7) (T := TX7) (N := 14) hx hb hg inX7 hown hKn.1 hP (0) (x_at7 (c := 0) (by decide)) rfl 1 (Nat.le_of_ble_eq_true rfl) (hg _ lkF_X7_19) (fun _ h9 => h9) rfl dX7_drift_65 ?_
                refine lv_aload_n hx hb dX7_drift_68 rfl (lv_at hl 0 rfl) ?_
                obtain ⟨r_10, M_11, e69, h⟩ := bd_use h
                refine gc_i (va_runV (As := []) (rest := [.ref (ad (3)), .ref (ad (17))]) hFx (tX7_drawnSheet l dC dI kI ad  M_8  e69) ⟨(gc_B hFx ck_yX7_drawnSheet lkM_X7_202 ⟨Nat.le_of_ble_eq_true rfl, Nat.le_of_ble_eq_true rfl⟩ rfl rfl), hg _ vi_yX7_drawnSheet, hg _ vs_yX7_drawnSheet⟩ (gp_V x_KnB (x_KnW hKn) hP (x_rc7 (c := 0) (by decide) hKn hP)) rfl rfl hl.1 rfl (lv_room (Nat.le_of_ble_eq_true rfl)) dX7_drift_69 ⟨Nat.zero_le _, Nat.zero_le _⟩) hS (fun H locs hP hS => ?_)
                have hP : va_P (dC, dI) vwCl (x_w kI ad M_11) H := hP
                obtain ⟨M_12, e72, h⟩ := bo_use h
                refine gc_v (va_runVN (As := [.ref (ad (3)), .int (r_10)]) (rest := []) hFx (tX3_spendNight l dC dI kI ad 17 3 r_10 M_11 (by decide) (by decide) e72) ⟨(gc_N hFx hKn.2.2 ck_yX3_spendNight nkM_X7_187 ⟨Nat.le_of_ble_eq_true rfl, Nat.le_of_ble_eq_true rfl⟩ rfl rfl), hg _ vi_yX3_spendNight, hg _ vs_yX3_spendNight⟩ (gp_V x_KnB (x_KnW hKn) hP (x_rc3 (c := 17) (by decide) hKn hP)) rfl rfl hl.1 rfl (lv_room (Nat.le_of_ble_eq_true rfl)) dX7_drift_72 ⟨Nat.zero_le _, Nat.zero_le _⟩) hS (fun H locs hP hS => ?_)
                have hP : va_P (dC, dI) vwCl (x_w kI ad M_12) H := hP
                refine lv_iinc (v := (v2_7 + 1)) (lv' := [(2, .int ((v2_7 + 1))), (0, .ref (ad (0))), (1, .int (a1))]) hx hb dX7_drift_75 hl (k := 2) rfl rfl (Nat.le_of_ble_eq_true rfl) rfl (fun ls hl => ?_)
                refine lv_goto (tgt := 55) hx hb dX7_drift_78 (by decide) ?_
                exact ih55 (v2_7 + 1) M_12 _ _ _ hP hS (lv_sub hl [1, 2, 0] rfl) h
          exact hL55 fuelN 0 M_5 _ _ _ hP hS (lv_sub hl [1, 2, 0] rfl) h
        · have h := ife_f c_4 h
          refine lv_ldc hx hb hown (hg _ kc_X7_91) dX7_drift_39 ?_
          exact W.iret (v := (-1000000004)) hx hb hr (fun t ht hW => ⟨⟨(-1000000004), M, rfl, Prod.mk.inj (Option.some.inj h), by rw [ht]; exact hP, x_KnW hKn t hW⟩, hS.F ht⟩) hS.2.2 dX7_drift_41
      · have h := ife_t c_3 h
        refine lv_ldc hx hb hown (hg _ kc_X7_181) dX7_drift_24 ?_
        exact W.iret (v := (-1000000003)) hx hb hr (fun t ht hW => ⟨⟨(-1000000003), M, rfl, Prod.mk.inj (Option.some.inj h), by rw [ht]; exact hP, x_KnW hKn t hW⟩, hS.F ht⟩) hS.2.2 dX7_drift_26
    · have h := ife_f c_2 h
      refine lv_ldc hx hb hown (hg _ kc_X7_83) dX7_drift_11 ?_
      exact W.iret (v := (-1000000002)) hx hb hr (fun t ht hW => ⟨⟨(-1000000002), M, rfl, Prod.mk.inj (Option.some.inj h), by rw [ht]; exact hP, x_KnW hKn t hW⟩, hS.F ht⟩) hS.2.2 dX7_drift_13
noncomputable def FX7_fact (a1 : Int32) (a2 : Int32) (M : (Nat → Nat → Int32)) : Option Int32 :=
  bo (FX1_hasFact 3 a1 M) (fun (r_1 : Int32) => (if r_1 = 0 then some (-1000000001) else (if a2 = 0 then bo (FX7_at 5 a1 M) (fun (r_4 : Int32) => some r_4) else (if a2 = 1 then bo (FX7_at 6 a1 M) (fun (r_6 : Int32) => some (r_6 + 9)) else (if a2 = 2 then bo (FX7_at 7 a1 M) (fun (r_8 : Int32) => some r_8) else (if a2 = 3 then bo (FX7_at 8 a1 M) (fun (r_10 : Int32) => some r_10) else (if a2 = 4 then bo (FX7_at 9 a1 M) (fun (r_12 : Int32) => some r_12) else (if a2 = 5 then bo (FX7_has (M 17 2) a1) (fun (r_14 : Int32) => (if r_14 = 0 then some 0 else some 1)) else (if a2 = 6 then bo (FX7_at 19 a1 M) (fun (r_17 : Int32) => some r_17) else some (-1000000002))))))))))
set_option maxHeartbeats 4000000 in
set_option maxRecDepth 100000 in
theorem tX7_fact (l : Launch) (dC : Nat → ClassId) (dI : Nat → Nat → Nat) (kI : ClassId) (ad : Nat → Nat) (a1 : Int32) (a2 : Int32) (M : (Nat → Nat → Int32))  {r0 : Int32} (h : FX7_fact a1 a2 M = some r0) : Met l yX7_fact (wsA yX7_fact cX7_fact 3 (some .int)) ({ frames := 1, cells := 0, slots := 0, locals := 21 } : Room) (va_Pc [.ref (ad (0)), .int (a1), .int (a2)] (gI (x_Wd dC dI kI ad) (x_Kn dC dI kI ad) M)) (va_Qi (fun (r : Int32) (u : (Nat → Nat → Int32)) => r = r0 ∧ u = M) (gI (x_Wd dC dI kI ad) (x_Kn dC dI kI ad)) (x_A ad)) 0 0 (x_A ad) := by
  refine Met.ofW (cc := cX7_fact) (maxL := 3) (ret := (some .int)) (by decide) rfl ?_
  intro p e s m args below meth c s₁ B hml hv
  obtain ⟨rfl, hP, hKn⟩ := hv
  have hx := B.exec
  have hb := B.bytes
  have hr := B.returns
  have hts := atoms_spec (ws := wsA yX7_fact cX7_fact 3 (some .int)) B.pre
  have hg : ∀ w ∈ lw_good, w.before _ s = true := fun w h => hts w (List.mem_cons_of_mem _ h)
  have hown : s.vm.findClass RX7 = some m.cls := findClass_of_methodNamed B.named
  have hlocks := B.notSynchronized
  have hS : va_S (x_A ad) s.heap s.heap [] := va_S.rf
  have hFx : gFix p c cX7_fact 3 s m _ RX7 := ⟨hx, hb, hml, hown, hg⟩
  have hP : va_P (dC, dI) vwCl (x_w kI ad M) s.heap := hP
  have hl := lv_entry ([.ref (ad (0)), .int (a1), .int (a2)]) (n := 3) (Nat.le_of_ble_eq_true rfl)
  rw [lg_entry_eq]
  generalize (lg_sl ([.ref (ad (0)), .int (a1), .int (a2)]) ++ List.replicate (3 - (lg_sl ([.ref (ad (0)), .int (a1), .int (a2)])).length) Slot.unset).toArray = ls at hl ⊢
  have hl : lv_has ls 3 [(0, .ref (ad (0))), (1, .int (a1)), (2, .int (a2))] := hl
  unfold FX7_fact at h
  refine lv_aload_n hx hb dX7_fact_0 rfl (lv_at hl 0 rfl) ?_
  refine va_get (D := (dC, dI)) (ci := 7) (v := .ref (ad (3))) (C := RX7) (T := TX7) (N := 14) hx hb hg inX7 hown hKn.1 hP (0) (x_at7 (c := 0) (by decide)) rfl 1 (Nat.le_of_ble_eq_true rfl) (hg _ lkF_X7_19) (fun _ h9 => h9) rfl dX7_fact_1 ?_
  refine lv_iload_n hx hb dX7_fact_4 rfl (lv_at hl 1 rfl) ?_
  obtain ⟨r_1, e5, h⟩ := bo_use h
  refine gc_i (va_runVN (As := [.int (a1)]) (rest := []) hFx (tX1_hasFact l dC dI kI ad 3 a1 M (by decide) e5) ⟨(gc_N hFx hKn.2.2 ck_yX1_hasFact nkM_X7_150 ⟨Nat.le_of_ble_eq_true rfl, Nat.le_of_ble_eq_true rfl⟩ rfl rfl), hg _ vi_yX1_hasFact, hg _ vs_yX1_hasFact⟩ (gp_V x_KnB (x_KnW hKn) hP (x_rc1 (c := 3) (by decide) hKn hP)) rfl rfl hl.1 rfl (lv_room (Nat.le_of_ble_eq_true rfl)) dX7_fact_5 ⟨Nat.zero_le _, Nat.zero_le _⟩) hS (fun H locs hP hS => ?_)
  have hP : va_P (dC, dI) vwCl (x_w kI ad M) H := hP
  refine lv_if_ne (tgt := 14) hx hb dX7_fact_8 (by decide) (fun c_2 => ?_) (fun c_2 => ?_)
  · have h := ife_f c_2 h
    refine lv_iload_n hx hb dX7_fact_14 rfl (lv_at hl 2 rfl) ?_
    by_cases c_3 : a2 = 0
    · have h := ife_t c_3 h
      refine lv_tableIn (off := 41) (tgt := 56) hx hb dX7_fact_15 (by rw [c_3]; decide) (by rw [c_3]; decide) (by rw [c_3]; rfl) (by decide) ?_
      refine lv_aload_n hx hb dX7_fact_56 rfl (lv_at hl 0 rfl) ?_
      refine va_get (D := (dC, dI)) (ci := 7) (v := .ref (ad (3))) (C := RX7) (T := TX7) (N := 14) hx hb hg inX7 hown hKn.1 hP (0) (x_at7 (c := 0) (by decide)) rfl 1 (Nat.le_of_ble_eq_true rfl) (hg _ lkF_X7_19) (fun _ h9 => h9) rfl dX7_fact_57 ?_
      refine va_getN (D := (dC, dI)) (ci := 1) (v := .ref (ad (5))) (C := RX1) (T := TX1) (N := 10) hx hb hg inX1 hown hKn.1 hP (3) (x_at1 (c := 3) (by decide)) rfl 5 (Nat.le_of_ble_eq_true rfl) (nest_use hKn.2.2 nkF_X7_153) (fun _ h9 => h9) rfl dX7_fact_60 ?_
      refine lv_iload_n hx hb dX7_fact_63 rfl (lv_at hl 1 rfl) ?_
      obtain ⟨r_4, e64, h⟩ := bo_use h
      refine gc_i (va_runS (As := [.ref (ad (5)), .int (a1)]) (rest := []) hFx (tX7_at l dC dI kI ad 5 a1 M (by decide) e64) ⟨(gc_B hFx ck_yX7_at lkM_X7_145 ⟨Nat.le_of_ble_eq_true rfl, Nat.le_of_ble_eq_true rfl⟩ rfl rfl), hg _ st_yX7_at⟩ (gp_S x_KnB (x_KnW hKn) hP) rfl rfl hl.1 rfl (lv_room (Nat.le_of_ble_eq_true rfl)) dX7_fact_64 ⟨Nat.zero_le _, Nat.zero_le _⟩) hS (fun H locs hP hS => ?_)
      have hP : va_P (dC, dI) vwCl (x_w kI ad M) H := hP
      exact W.iret (v := r_4) hx hb hr (fun t ht hW => ⟨⟨r_4, M, rfl, ⟨Option.some.inj h, rfl⟩, by rw [ht]; exact hP, x_KnW hKn t hW⟩, hS.F ht⟩) hS.2.2 dX7_fact_67
    have h := ife_f c_3 h
    by_cases c_5 : a2 = 1
    · have h := ife_t c_5 h
      refine lv_tableIn (off := 53) (tgt := 68) hx hb dX7_fact_15 (by rw [c_5]; decide) (by rw [c_5]; decide) (by rw [c_5]; rfl) (by decide) ?_
      refine lv_aload_n hx hb dX7_fact_68 rfl (lv_at hl 0 rfl) ?_
      refine va_get (D := (dC, dI)) (ci := 7) (v := .ref (ad (3))) (C := RX7) (T := TX7) (N := 14) hx hb hg inX7 hown hKn.1 hP (0) (x_at7 (c := 0) (by decide)) rfl 1 (Nat.le_of_ble_eq_true rfl) (hg _ lkF_X7_19) (fun _ h9 => h9) rfl dX7_fact_69 ?_
      refine va_getN (D := (dC, dI)) (ci := 1) (v := .ref (ad (6))) (C := RX1) (T := TX1) (N := 10) hx hb hg inX1 hown hKn.1 hP (3) (x_at1 (c := 3) (by decide)) rfl 6 (Nat.le_of_ble_eq_true rfl) (nest_use hKn.2.2 nkF_X7_156) (fun _ h9 => h9) rfl dX7_fact_72 ?_
      refine lv_iload_n hx hb dX7_fact_75 rfl (lv_at hl 1 rfl) ?_
      obtain ⟨r_6, e76, h⟩ := bo_use h
      refine gc_i (va_runS (As := [.ref (ad (6)), .int (a1)]) (rest := []) hFx (tX7_at l dC dI kI ad 6 a1 M (by decide) e76) ⟨(gc_B hFx ck_yX7_at lkM_X7_145 ⟨Nat.le_of_ble_eq_true rfl, Nat.le_of_ble_eq_true rfl⟩ rfl rfl), hg _ st_yX7_at⟩ (gp_S x_KnB (x_KnW hKn) hP) rfl rfl hl.1 rfl (lv_room (Nat.le_of_ble_eq_true rfl)) dX7_fact_76 ⟨Nat.zero_le _, Nat.zero_le _⟩) hS (fun H locs hP hS => ?_)
      have hP : va_P (dC, dI) vwCl (x_w kI ad M) H := hP
      refine lv_bipush (v := 9) hx hb dX7_fact_79 (by decide) ?_
      refine lv_iadd hx hb dX7_fact_81 ?_
      exact W.iret (v := (r_6 + 9)) hx hb hr (fun t ht hW => ⟨⟨(r_6 + 9), M, rfl, ⟨Option.some.inj h, rfl⟩, by rw [ht]; exact hP, x_KnW hKn t hW⟩, hS.F ht⟩) hS.2.2 dX7_fact_82
    have h := ife_f c_5 h
    by_cases c_7 : a2 = 2
    · have h := ife_t c_7 h
      refine lv_tableIn (off := 68) (tgt := 83) hx hb dX7_fact_15 (by rw [c_7]; decide) (by rw [c_7]; decide) (by rw [c_7]; rfl) (by decide) ?_
      refine lv_aload_n hx hb dX7_fact_83 rfl (lv_at hl 0 rfl) ?_
      refine va_get (D := (dC, dI)) (ci := 7) (v := .ref (ad (3))) (C := RX7) (T := TX7) (N := 14) hx hb hg inX7 hown hKn.1 hP (0) (x_at7 (c := 0) (by decide)) rfl 1 (Nat.le_of_ble_eq_true rfl) (hg _ lkF_X7_19) (fun _ h9 => h9) rfl dX7_fact_84 ?_
      refine va_getN (D := (dC, dI)) (ci := 1) (v := .ref (ad (7))) (C := RX1) (T := TX1) (N := 10) hx hb hg inX1 hown hKn.1 hP (3) (x_at1 (c := 3) (by decide)) rfl 7 (Nat.le_of_ble_eq_true rfl) (nest_use hKn.2.2 nkF_X7_159) (fun _ h9 => h9) rfl dX7_fact_87 ?_
      refine lv_iload_n hx hb dX7_fact_90 rfl (lv_at hl 1 rfl) ?_
      obtain ⟨r_8, e91, h⟩ := bo_use h
      refine gc_i (va_runS (As := [.ref (ad (7)), .int (a1)]) (rest := []) hFx (tX7_at l dC dI kI ad 7 a1 M (by decide) e91) ⟨(gc_B hFx ck_yX7_at lkM_X7_145 ⟨Nat.le_of_ble_eq_true rfl, Nat.le_of_ble_eq_true rfl⟩ rfl rfl), hg _ st_yX7_at⟩ (gp_S x_KnB (x_KnW hKn) hP) rfl rfl hl.1 rfl (lv_room (Nat.le_of_ble_eq_true rfl)) dX7_fact_91 ⟨Nat.zero_le _, Nat.zero_le _⟩) hS (fun H locs hP hS => ?_)
      have hP : va_P (dC, dI) vwCl (x_w kI ad M) H := hP
      exact W.iret (v := r_8) hx hb hr (fun t ht hW => ⟨⟨r_8, M, rfl, ⟨Option.some.inj h, rfl⟩, by rw [ht]; exact hP, x_KnW hKn t hW⟩, hS.F ht⟩) hS.2.2 dX7_fact_94
    have h := ife_f c_7 h
    by_cases c_9 : a2 = 3
    · have h := ife_t c_9 h
      refine lv_tableIn (off := 80) (tgt := 95) hx hb dX7_fact_15 (by rw [c_9]; decide) (by rw [c_9]; decide) (by rw [c_9]; rfl) (by decide) ?_
      refine lv_aload_n hx hb dX7_fact_95 rfl (lv_at hl 0 rfl) ?_
      refine va_get (D := (dC, dI)) (ci := 7) (v := .ref (ad (3))) (C := RX7) (T := TX7) (N := 14) hx hb hg inX7 hown hKn.1 hP (0) (x_at7 (c := 0) (by decide)) rfl 1 (Nat.le_of_ble_eq_true rfl) (hg _ lkF_X7_19) (fun _ h9 => h9) rfl dX7_fact_96 ?_
      refine va_getN (D := (dC, dI)) (ci := 1) (v := .ref (ad (8))) (C := RX1) (T := TX1) (N := 10) hx hb hg inX1 hown hKn.1 hP (3) (x_at1 (c := 3) (by decide)) rfl 8 (Nat.le_of_ble_eq_true rfl) (nest_use hKn.2.2 nkF_X7_162) (fun _ h9 => h9) rfl dX7_fact_99 ?_
      refine lv_iload_n hx hb dX7_fact_102 rfl (lv_at hl 1 rfl) ?_
      obtain ⟨r_10, e103, h⟩ := bo_use h
      refine gc_i (va_runS (As := [.ref (ad (8)), .int (a1)]) (rest := []) hFx (tX7_at l dC dI kI ad 8 a1 M (by decide) e103) ⟨(gc_B hFx ck_yX7_at lkM_X7_145 ⟨Nat.le_of_ble_eq_true rfl, Nat.le_of_ble_eq_true rfl⟩ rfl rfl), hg _ st_yX7_at⟩ (gp_S x_KnB (x_KnW hKn) hP) rfl rfl hl.1 rfl (lv_room (Nat.le_of_ble_eq_true rfl)) dX7_fact_103 ⟨Nat.zero_le _, Nat.zero_le _⟩) hS (fun H locs hP hS => ?_)
      have hP : va_P (dC, dI) vwCl (x_w kI ad M) H := hP
      exact W.iret (v := r_10) hx hb hr (fun t ht hW => ⟨⟨r_10, M, rfl, ⟨Option.some.inj h, rfl⟩, by rw [ht]; exact hP, x_KnW hKn t hW⟩, hS.F ht⟩) hS.2.2 dX7_fact_106
    have h := ife_f c_9 h
    by_cases c_11 : a2 = 4
    · have h := ife_t c_11 h
      refine lv_tableIn (off := 92) (tgt := 107) hx hb dX7_fact_15 (by rw [c_11]; decide) (by rw [c_11]; decide) (by rw [c_11]; rfl) (by decide) ?_
      refine lv_aload_n hx hb dX7_fact_107 rfl (lv_at hl 0 rfl) ?_
      refine va_get (D := (dC, dI)) (ci := 7) (v := .ref (ad (3))) (C := RX7) (T := TX7) (N := 14) hx hb hg inX7 hown hKn.1 hP (0) (x_at7 (c := 0) (by decide)) rfl 1 (Nat.le_of_ble_eq_true rfl) (hg _ lkF_X7_19) (fun _ h9 => h9) rfl dX7_fact_108 ?_
      refine va_getN (D := (dC, dI)) (ci := 1) (v := .ref (ad (9))) (C := RX1) (T := TX1) (N := 10) hx hb hg inX1 hown hKn.1 hP (3) (x_at1 (c := 3) (by decide)) rfl 9 (Nat.le_of_ble_eq_true rfl) (nest_use hKn.2.2 nkF_X7_165) (fun _ h9 => h9) rfl dX7_fact_111 ?_
      refine lv_iload_n hx hb dX7_fact_114 rfl (lv_at hl 1 rfl) ?_
      obtain ⟨r_12, e115, h⟩ := bo_use h
      refine gc_i (va_runS (As := [.ref (ad (9)), .int (a1)]) (rest := []) hFx (tX7_at l dC dI kI ad 9 a1 M (by decide) e115) ⟨(gc_B hFx ck_yX7_at lkM_X7_145 ⟨Nat.le_of_ble_eq_true rfl, Nat.le_of_ble_eq_true rfl⟩ rfl rfl), hg _ st_yX7_at⟩ (gp_S x_KnB (x_KnW hKn) hP) rfl rfl hl.1 rfl (lv_room (Nat.le_of_ble_eq_true rfl)) dX7_fact_115 ⟨Nat.zero_le _, Nat.zero_le _⟩) hS (fun H locs hP hS => ?_)
      have hP : va_P (dC, dI) vwCl (x_w kI ad M) H := hP
      exact W.iret (v := r_12) hx hb hr (fun t ht hW => ⟨⟨r_12, M, rfl, ⟨Option.some.inj h, rfl⟩, by rw [ht]; exact hP, x_KnW hKn t hW⟩, hS.F ht⟩) hS.2.2 dX7_fact_118
    have h := ife_f c_11 h
    by_cases c_13 : a2 = 5
    · have h := ife_t c_13 h
      refine lv_tableIn (off := 104) (tgt := 119) hx hb dX7_fact_15 (by rw [c_13]; decide) (by rw [c_13]; decide) (by rw [c_13]; rfl) (by decide) ?_
      refine lv_aload_n hx hb dX7_fact_119 rfl (lv_at hl 0 rfl) ?_
      refine va_get (D := (dC, dI)) (ci := 7) (v := .ref (ad (17))) (C := RX7) (T := TX7) (N := 14) hx hb hg inX7 hown hKn.1 hP (0) (x_at7 (c := 0) (by decide)) rfl 3 (Nat.le_of_ble_eq_true rfl) (hg _ lkF_X7_29) (fun _ h9 => h9) rfl dX7_fact_120 ?_
      refine va_getN (D := (dC, dI)) (ci := 3) (v := .int ((M 17 2))) (C := RX3) (T := TX3) (N := 6) hx hb hg inX3 hown hKn.1 hP (17) (x_at3 (c := 17) (by decide)) rfl 2 (Nat.le_of_ble_eq_true rfl) (nest_use hKn.2.2 nkF_X7_131) (fun _ h9 => h9) rfl dX7_fact_123 ?_
      refine lv_iload_n hx hb dX7_fact_126 rfl (lv_at hl 1 rfl) ?_
      obtain ⟨r_14, e127, h⟩ := bo_use h
      refine gc_i (va_runS (As := [.int ((M 17 2)), .int (a1)]) (rest := []) hFx (tX7_has l dC dI kI ad (M 17 2) a1 M  e127) ⟨(gc_B hFx ck_yX7_has lkM_X7_168 ⟨Nat.le_of_ble_eq_true rfl, Nat.le_of_ble_eq_true rfl⟩ rfl rfl), hg _ st_yX7_has⟩ (gp_S x_KnB (x_KnW hKn) hP) rfl rfl hl.1 rfl (lv_room (Nat.le_of_ble_eq_true rfl)) dX7_fact_127 ⟨Nat.zero_le _, Nat.zero_le _⟩) hS (fun H locs hP hS => ?_)
      have hP : va_P (dC, dI) vwCl (x_w kI ad M) H := hP
      refine lv_if_eq (tgt := 137) hx hb dX7_fact_130 (by decide) (fun c_15 => ?_) (fun c_15 => ?_)
      · have h := ife_t c_15 h
        refine lv_iconst (v := 0) hx hb dX7_fact_137 (by decide) ?_
        exact W.iret (v := 0) hx hb hr (fun t ht hW => ⟨⟨0, M, rfl, ⟨Option.some.inj h, rfl⟩, by rw [ht]; exact hP, x_KnW hKn t hW⟩, hS.F ht⟩) hS.2.2 dX7_fact_138
      · have h := ife_f c_15 h
        refine lv_iconst (v := 1) hx hb dX7_fact_133 (by decide) ?_
        refine lv_goto (tgt := 138) hx hb dX7_fact_134 (by decide) ?_
        exact W.iret (v := 1) hx hb hr (fun t ht hW => ⟨⟨1, M, rfl, ⟨Option.some.inj h, rfl⟩, by rw [ht]; exact hP, x_KnW hKn t hW⟩, hS.F ht⟩) hS.2.2 dX7_fact_138
    have h := ife_f c_13 h
    by_cases c_16 : a2 = 6
    · have h := ife_t c_16 h
      refine lv_tableIn (off := 124) (tgt := 139) hx hb dX7_fact_15 (by rw [c_16]; decide) (by rw [c_16]; decide) (by rw [c_16]; rfl) (by decide) ?_
      refine lv_aload_n hx hb dX7_fact_139 rfl (lv_at hl 0 rfl) ?_
      refine va_get (D := (dC, dI)) (ci := 7) (v := .ref (ad (17))) (C := RX7) (T := TX7) (N := 14) hx hb hg inX7 hown hKn.1 hP (0) (x_at7 (c := 0) (by decide)) rfl 3 (Nat.le_of_ble_eq_true rfl) (hg _ lkF_X7_29) (fun _ h9 => h9) rfl dX7_fact_140 ?_
      refine va_getN (D := (dC, dI)) (ci := 3) (v := .ref (ad (19))) (C := RX3) (T := TX3) (N := 6) hx hb hg inX3 hown hKn.1 hP (17) (x_at3 (c := 17) (by decide)) rfl 1 (Nat.le_of_ble_eq_true rfl) (nest_use hKn.2.2 nkF_X7_172) (fun _ h9 => h9) rfl dX7_fact_143 ?_
      refine lv_iload_n hx hb dX7_fact_146 rfl (lv_at hl 1 rfl) ?_
      obtain ⟨r_17, e147, h⟩ := bo_use h
      refine gc_i (va_runS (As := [.ref (ad (19)), .int (a1)]) (rest := []) hFx (tX7_at l dC dI kI ad 19 a1 M (by decide) e147) ⟨(gc_B hFx ck_yX7_at lkM_X7_145 ⟨Nat.le_of_ble_eq_true rfl, Nat.le_of_ble_eq_true rfl⟩ rfl rfl), hg _ st_yX7_at⟩ (gp_S x_KnB (x_KnW hKn) hP) rfl rfl hl.1 rfl (lv_room (Nat.le_of_ble_eq_true rfl)) dX7_fact_147 ⟨Nat.zero_le _, Nat.zero_le _⟩) hS (fun H locs hP hS => ?_)
      have hP : va_P (dC, dI) vwCl (x_w kI ad M) H := hP
      exact W.iret (v := r_17) hx hb hr (fun t ht hW => ⟨⟨r_17, M, rfl, ⟨Option.some.inj h, rfl⟩, by rw [ht]; exact hP, x_KnW hKn t hW⟩, hS.F ht⟩) hS.2.2 dX7_fact_150
    have h := ife_f c_16 h
    have n0_c_3 := lv_neT (a := 0) c_3 (by decide)
    have n1_c_5 := lv_neT (a := 1) c_5 (by decide)
    have n2_c_7 := lv_neT (a := 2) c_7 (by decide)
    have n3_c_9 := lv_neT (a := 3) c_9 (by decide)
    have n4_c_11 := lv_neT (a := 4) c_11 (by decide)
    have n5_c_13 := lv_neT (a := 5) c_13 (by decide)
    have n6_c_16 := lv_neT (a := 6) c_16 (by decide)
    refine lv_tableOut (tgt := 151) hx hb dX7_fact_15 (by omega) (by decide) ?_
    refine lv_ldc hx hb hown (hg _ kc_X7_83) dX7_fact_151 ?_
    exact W.iret (v := (-1000000002)) hx hb hr (fun t ht hW => ⟨⟨(-1000000002), M, rfl, ⟨Option.some.inj h, rfl⟩, by rw [ht]; exact hP, x_KnW hKn t hW⟩, hS.F ht⟩) hS.2.2 dX7_fact_153
  · have h := ife_t c_2 h
    refine lv_ldc hx hb hown (hg _ kc_X7_149) dX7_fact_11 ?_
    exact W.iret (v := (-1000000001)) hx hb hr (fun t ht hW => ⟨⟨(-1000000001), M, rfl, ⟨Option.some.inj h, rfl⟩, by rw [ht]; exact hP, x_KnW hKn t hW⟩, hS.F ht⟩) hS.2.2 dX7_fact_13
noncomputable def FX7_fault  (M : (Nat → Nat → Int32)) : Option Int32 :=
  some (M 1 5)
set_option maxHeartbeats 4000000 in
set_option maxRecDepth 100000 in
theorem tX7_fault (l : Launch) (dC : Nat → ClassId) (dI : Nat → Nat → Nat) (kI : ClassId) (ad : Nat → Nat)  (M : (Nat → Nat → Int32))  {r0 : Int32} (h : FX7_fault  M = some r0) : Met l yX7_fault (wsA yX7_fault cX7_fault 1 (some .int)) ({ frames := 0, cells := 0, slots := 0, locals := 0 } : Room) (va_Pc [.ref (ad (0))] (gI (x_Wd dC dI kI ad) (x_Kn dC dI kI ad) M)) (va_Qi (fun (r : Int32) (u : (Nat → Nat → Int32)) => r = r0 ∧ u = M) (gI (x_Wd dC dI kI ad) (x_Kn dC dI kI ad)) (x_A ad)) 0 0 (x_A ad) := by
  refine Met.ofW (cc := cX7_fault) (maxL := 1) (ret := (some .int)) (by decide) rfl ?_
  intro p e s m args below meth c s₁ B hml hv
  obtain ⟨rfl, hP, hKn⟩ := hv
  have hx := B.exec
  have hb := B.bytes
  have hr := B.returns
  have hts := atoms_spec (ws := wsA yX7_fault cX7_fault 1 (some .int)) B.pre
  have hg : ∀ w ∈ lw_good, w.before _ s = true := fun w h => hts w (List.mem_cons_of_mem _ h)
  have hown : s.vm.findClass RX7 = some m.cls := findClass_of_methodNamed B.named
  have hlocks := B.notSynchronized
  have hS : va_S (x_A ad) s.heap s.heap [] := va_S.rf
  have hFx : gFix p c cX7_fault 1 s m _ RX7 := ⟨hx, hb, hml, hown, hg⟩
  have hP : va_P (dC, dI) vwCl (x_w kI ad M) s.heap := hP
  have hl := lv_entry ([.ref (ad (0))]) (n := 1) (Nat.le_of_ble_eq_true rfl)
  rw [lg_entry_eq]
  generalize (lg_sl ([.ref (ad (0))]) ++ List.replicate (1 - (lg_sl ([.ref (ad (0))])).length) Slot.unset).toArray = ls at hl ⊢
  have hl : lv_has ls 1 [(0, .ref (ad (0)))] := hl
  unfold FX7_fault at h
  refine lv_aload_n hx hb dX7_fault_0 rfl (lv_at hl 0 rfl) ?_
  refine va_get (D := (dC, dI)) (ci := 7) (v := .ref (ad (1))) (C := RX7) (T := TX7) (N := 14) hx hb hg inX7 hown hKn.1 hP (0) (x_at7 (c := 0) (by decide)) rfl 0 (Nat.le_of_ble_eq_true rfl) (hg _ lkF_X7_10) (fun _ h9 => h9) rfl dX7_fault_1 ?_
  refine va_getN (D := (dC, dI)) (ci := 2) (v := .int ((M 1 5))) (C := RX2) (T := TX2) (N := 7) hx hb hg inX2 hown hKn.1 hP (1) (x_at2 (c := 1) (by decide)) rfl 5 (Nat.le_of_ble_eq_true rfl) (nest_use hKn.2.2 nkF_X7_110) (fun _ h9 => h9) rfl dX7_fault_4 ?_
  exact W.iret (v := (M 1 5)) hx hb hr (fun t ht hW => ⟨⟨(M 1 5), M, rfl, ⟨Option.some.inj h, rfl⟩, by rw [ht]; exact hP, x_KnW hKn t hW⟩, hS.F ht⟩) hS.2.2 dX7_fault_7
noncomputable def FX7_feed (a1 : Int32) (M : (Nat → Nat → Int32)) : Option (Int32 × (Nat → Nat → Int32)) :=
  (if a1 < 0 then some ((-1000000002), M) else (if a1 ≤ 255 then bd (FX2_append a1 M) (fun (r_3 : Int32) (M_4 : (Nat → Nat → Int32)) => (if r_3 = 0 then some ((-1000000004), M_4) else some ((M_4 1 1), M_4))) else some ((-1000000002), M)))
set_option maxHeartbeats 4000000 in
set_option maxRecDepth 100000 in
theorem tX7_feed (l : Launch) (dC : Nat → ClassId) (dI : Nat → Nat → Nat) (kI : ClassId) (ad : Nat → Nat) (a1 : Int32) (M : (Nat → Nat → Int32))  {r0 : Int32} {M0 : (Nat → Nat → Int32)} (h : FX7_feed a1 M = some (r0, M0)) : Met l yX7_feed (wsA yX7_feed cX7_feed 2 (some .int)) ({ frames := 2, cells := 0, slots := 0, locals := 43 } : Room) (va_Pc [.ref (ad (0)), .int (a1)] (gI (x_Wd dC dI kI ad) (x_Kn dC dI kI ad) M)) (va_Qi (fun (r : Int32) (u : (Nat → Nat → Int32)) => r = r0 ∧ u = M0) (gI (x_Wd dC dI kI ad) (x_Kn dC dI kI ad)) (x_A ad)) 0 0 (x_A ad) := by
  refine Met.ofW (cc := cX7_feed) (maxL := 2) (ret := (some .int)) (by decide) rfl ?_
  intro p e s m args below meth c s₁ B hml hv
  obtain ⟨rfl, hP, hKn⟩ := hv
  have hx := B.exec
  have hb := B.bytes
  have hr := B.returns
  have hts := atoms_spec (ws := wsA yX7_feed cX7_feed 2 (some .int)) B.pre
  have hg : ∀ w ∈ lw_good, w.before _ s = true := fun w h => hts w (List.mem_cons_of_mem _ h)
  have hown : s.vm.findClass RX7 = some m.cls := findClass_of_methodNamed B.named
  have hlocks := B.notSynchronized
  have hS : va_S (x_A ad) s.heap s.heap [] := va_S.rf
  have hFx : gFix p c cX7_feed 2 s m _ RX7 := ⟨hx, hb, hml, hown, hg⟩
  have hP : va_P (dC, dI) vwCl (x_w kI ad M) s.heap := hP
  have hl := lv_entry ([.ref (ad (0)), .int (a1)]) (n := 2) (Nat.le_of_ble_eq_true rfl)
  rw [lg_entry_eq]
  generalize (lg_sl ([.ref (ad (0)), .int (a1)]) ++ List.replicate (2 - (lg_sl ([.ref (ad (0)), .int (a1)])).length) Slot.unset).toArray = ls at hl ⊢
  have hl : lv_has ls 2 [(0, .ref (ad (0))), (1, .int (a1))] := hl
  unfold FX7_feed at h
  refine lv_iload_n hx hb dX7_feed_0 rfl (lv_at hl 1 rfl) ?_
  refine lv_if_lt (tgt := 11) hx hb dX7_feed_1 (by decide) (fun c_1 => ?_) (fun c_1 => ?_)
  · have h := ife_t c_1 h
    refine lv_ldc hx hb hown (hg _ kc_X7_83) dX7_feed_11 ?_
    exact W.iret (v := (-1000000002)) hx hb hr (fun t ht hW => ⟨⟨(-1000000002), M, rfl, Prod.mk.inj (Option.some.inj h), by rw [ht]; exact hP, x_KnW hKn t hW⟩, hS.F ht⟩) hS.2.2 dX7_feed_13
  · have h := ife_f c_1 h
    refine lv_iload_n hx hb dX7_feed_4 rfl (lv_at hl 1 rfl) ?_
    refine lv_sipush (v := 255) hx hb dX7_feed_5 (by decide) ?_
    refine lv_icmp_le (tgt := 14) hx hb dX7_feed_8 (by decide) (fun c_2 => ?_) (fun c_2 => ?_)
    · have h := ife_t c_2 h
      refine lv_aload_n hx hb dX7_feed_14 rfl (lv_at hl 0 rfl) ?_
      refine va_get (D := (dC, dI)) (ci := 7) (v := .ref (ad (1))) (C := RX7) (T := TX7) (N := 14) hx hb hg inX7 hown hKn.1 hP (0) (x_at7 (c := 0) (by decide)) rfl 0 (Nat.le_of_ble_eq_true rfl) (hg _ lkF_X7_10) (fun _ h9 => h9) rfl dX7_feed_15 ?_
      refine lv_iload_n hx hb dX7_feed_18 rfl (lv_at hl 1 rfl) ?_
      obtain ⟨r_3, M_4, e19, h⟩ := bd_use h
      refine gc_i (va_runVN (As := [.int (a1)]) (rest := []) hFx (tX2_append l dC dI kI ad a1 M  e19) ⟨(gc_N hFx hKn.2.2 ck_yX2_append nkM_X7_84 ⟨Nat.le_of_ble_eq_true rfl, Nat.le_of_ble_eq_true rfl⟩ rfl rfl), hg _ vi_yX2_append, hg _ vs_yX2_append⟩ (gp_V x_KnB (x_KnW hKn) hP (x_rc2 (c := 1) (by decide) hKn hP)) rfl rfl hl.1 rfl (lv_room (Nat.le_of_ble_eq_true rfl)) dX7_feed_19 ⟨Nat.zero_le _, Nat.zero_le _⟩) hS (fun H locs hP hS => ?_)
      have hP : va_P (dC, dI) vwCl (x_w kI ad M_4) H := hP
      refine lv_if_eq (tgt := 35) hx hb dX7_feed_22 (by decide) (fun c_5 => ?_) (fun c_5 => ?_)
      · have h := ife_t c_5 h
        refine lv_ldc hx hb hown (hg _ kc_X7_91) dX7_feed_35 ?_
        exact W.iret (v := (-1000000004)) hx hb hr (fun t ht hW => ⟨⟨(-1000000004), M_4, rfl, Prod.mk.inj (Option.some.inj h), by rw [ht]; exact hP, x_KnW hKn t hW⟩, hS.F ht⟩) hS.2.2 dX7_feed_37
      · have h := ife_f c_5 h
        refine lv_aload_n hx hb dX7_feed_25 rfl (lv_at hl 0 rfl) ?_
        refine va_get (D := (dC, dI)) (ci := 7) (v := .ref (ad (1))) (C := RX7) (T := TX7) (N := 14) hx hb hg inX7 hown hKn.1 hP (0) (x_at7 (c := 0) (by decide)) rfl 0 (Nat.le_of_ble_eq_true rfl) (hg _ lkF_X7_10) (fun _ h9 => h9) rfl dX7_feed_26 ?_
        refine va_getN (D := (dC, dI)) (ci := 2) (v := .int ((M_4 1 1))) (C := RX2) (T := TX2) (N := 7) hx hb hg inX2 hown hKn.1 hP (1) (x_at2 (c := 1) (by decide)) rfl 1 (Nat.le_of_ble_eq_true rfl) (nest_use hKn.2.2 nkF_X7_88) (fun _ h9 => h9) rfl dX7_feed_29 ?_
        refine lv_goto (tgt := 37) hx hb dX7_feed_32 (by decide) ?_
        exact W.iret (v := (M_4 1 1)) hx hb hr (fun t ht hW => ⟨⟨(M_4 1 1), M_4, rfl, Prod.mk.inj (Option.some.inj h), by rw [ht]; exact hP, x_KnW hKn t hW⟩, hS.F ht⟩) hS.2.2 dX7_feed_37
    · have h := ife_f c_2 h
      refine lv_ldc hx hb hown (hg _ kc_X7_83) dX7_feed_11 ?_
      exact W.iret (v := (-1000000002)) hx hb hr (fun t ht hW => ⟨⟨(-1000000002), M, rfl, Prod.mk.inj (Option.some.inj h), by rw [ht]; exact hP, x_KnW hKn t hW⟩, hS.F ht⟩) hS.2.2 dX7_feed_13
noncomputable def FX7_findOneNight_L3 (c1 : Nat) (c2 : Nat) (b3 : Int32) (b4 : Int32) (b5 : Int32) (K : (Nat → Nat → Int32) → Option (Int32 × (Nat → Nat → Int32))) (k : Nat) (v6_2 : Int32) (M_3 : (Nat → Nat → Int32)) : Option (Int32 × (Nat → Nat → Int32)) := match k with
  | 0 => none
  | k + 1 => (if (1 <<< ((M_3 3 2) &&& 31)) ≤ v6_2 then K M_3 else bo (FX7_mayBe v6_2 M_3) (fun (r_5 : Int32) => jn (fun (M_6 : (Nat → Nat → Int32)) => FX7_findOneNight_L3 c1 c2 b3 b4 b5 K k (v6_2 + 1) M_6) (fun J90 => (if r_5 = 0 then J90 M_3 else bo (FX3_copyFrom c2 c1 M_3) (fun (M_8 : (Nat → Nat → Int32)) => bo (FX3_spendNight c2 3 v6_2 M_8) (fun (M_9 : (Nat → Nat → Int32)) => bo (FX3_isConvinced c2 3 b3 b4 M_9) (fun (r_10 : Int32) => (if r_10 = 0 then J90 M_9 else jn (fun (s_12 : Int32) => jn (fun (s_13 : Int32) => bo (FX5_become s_12 s_13 v6_2 M_9) (fun (M_14 : (Nat → Nat → Int32)) => some (1, M_14))) (fun J83 => (if b5 = (-1) then J83 v6_2 else J83 b5))) (fun J70 => (if b5 = (-1) then J70 1 else J70 2))))))))))
noncomputable def FX7_findOneNight (c1 : Nat) (c2 : Nat) (a3 : Int32) (a4 : Int32) (a5 : Int32) (M : (Nat → Nat → Int32)) : Option (Int32 × (Nat → Nat → Int32)) :=
  FX7_findOneNight_L3 c1 c2 a3 a4 a5 (fun (M_1 : (Nat → Nat → Int32)) => some (0, M_1)) fuelN 0 M
set_option maxHeartbeats 4000000 in
set_option maxRecDepth 100000 in
theorem tX7_findOneNight (l : Launch) (dC : Nat → ClassId) (dI : Nat → Nat → Nat) (kI : ClassId) (ad : Nat → Nat) (c1 : Nat) (c2 : Nat) (a3 : Int32) (a4 : Int32) (a5 : Int32) (M : (Nat → Nat → Int32)) (h1 : x_is3 c1) (h2 : x_is3 c2) {r0 : Int32} {M0 : (Nat → Nat → Int32)} (h : FX7_findOneNight c1 c2 a3 a4 a5 M = some (r0, M0)) : Met l yX7_findOneNight (wsA yX7_findOneNight cX7_findOneNight 7 (some .boolean)) ({ frames := 3, cells := 0, slots := 0, locals := 72 } : Room) (va_Pc [.ref (ad (0)), .ref (ad (c1)), .ref (ad (c2)), .int (a3), .int (a4), .int (a5)] (gI (x_Wd dC dI kI ad) (x_Kn dC dI kI ad) M)) (va_Qi (fun (r : Int32) (u : (Nat → Nat → Int32)) => r = r0 ∧ u = M0) (gI (x_Wd dC dI kI ad) (x_Kn dC dI kI ad)) (x_A ad)) 0 0 (x_A ad) := by
  refine Met.ofW (cc := cX7_findOneNight) (maxL := 7) (ret := (some .boolean)) (by decide) rfl ?_
  intro p e s m args below meth c s₁ B hml hv
  obtain ⟨rfl, hP, hKn⟩ := hv
  have hx := B.exec
  have hb := B.bytes
  have hr := B.returns
  have hts := atoms_spec (ws := wsA yX7_findOneNight cX7_findOneNight 7 (some .boolean)) B.pre
  have hg : ∀ w ∈ lw_good, w.before _ s = true := fun w h => hts w (List.mem_cons_of_mem _ h)
  have hown : s.vm.findClass RX7 = some m.cls := findClass_of_methodNamed B.named
  have hlocks := B.notSynchronized
  have hS : va_S (x_A ad) s.heap s.heap [] := va_S.rf
  have hFx : gFix p c cX7_findOneNight 7 s m _ RX7 := ⟨hx, hb, hml, hown, hg⟩
  have hP : va_P (dC, dI) vwCl (x_w kI ad M) s.heap := hP
  have hl := lv_entry ([.ref (ad (0)), .ref (ad (c1)), .ref (ad (c2)), .int (a3), .int (a4), .int (a5)]) (n := 7) (Nat.le_of_ble_eq_true rfl)
  rw [lg_entry_eq]
  generalize (lg_sl ([.ref (ad (0)), .ref (ad (c1)), .ref (ad (c2)), .int (a3), .int (a4), .int (a5)]) ++ List.replicate (7 - (lg_sl ([.ref (ad (0)), .ref (ad (c1)), .ref (ad (c2)), .int (a3), .int (a4), .int (a5)])).length) Slot.unset).toArray = ls at hl ⊢
  have hl : lv_has ls 7 [(0, .ref (ad (0))), (1, .ref (ad (c1))), (2, .ref (ad (c2))), (3, .int (a3)), (4, .int (a4)), (5, .int (a5))] := hl
  unfold FX7_findOneNight at h
  refine lv_iconst (v := 0) hx hb dX7_findOneNight_0 (by decide) ?_
  refine lv_istore (lv' := [(6, .int (0)), (0, .ref (ad (0))), (1, .ref (ad (c1))), (2, .ref (ad (c2))), (3, .int (a3)), (4, .int (a4)), (5, .int (a5))]) hx hb dX7_findOneNight_1 hl (Nat.le_of_ble_eq_true rfl) rfl (fun ls hl => ?_)
  obtain ⟨K3, eK3, h⟩ := exK (Lp := fun K => FX7_findOneNight_L3 c1 c2 a3 a4 a5 K fuelN 0 M) h
  have hK3 : ∀ (M_1 : (Nat → Nat → Int32)) (H : Heap) (locs : List Loc) (ls : Array Slot), va_P (dC, dI) vwCl (x_w kI ad M_1) H → va_S (x_A ad) s.heap H locs → lv_has ls 7 [] → K3 M_1 = some (r0, M0) → W p l e (headSpec (wsA yX7_findOneNight cX7_findOneNight 7 (some .boolean)) ({ frames := 3, cells := 0, slots := 0, locals := 72 } : Room)).room s m (([.ref (ad (0)), .ref (ad (c1)), .ref (ad (c2)), .int (a3), .int (a4), .int (a5)] : List Value).toArray) below meth c H locs 0 0 (MQ below (va_Qi (fun (r : Int32) (u : (Nat → Nat → Int32)) => r = r0 ∧ u = M0) (gI (x_Wd dC dI kI ad) (x_Kn dC dI kI ad)) (x_A ad)) (([.ref (ad (0)), .ref (ad (c1)), .ref (ad (c2)), .int (a3), .int (a4), .int (a5)] : List Value).toArray) s 0 0 (x_A ad)) (F0 m 96 ls []) := by
    intro M_1 H locs ls hP hS hl h
    have h := useK1 eK3 h
    refine lv_iconst (v := 0) hx hb dX7_findOneNight_96 (by decide) ?_
    exact W.zret (v := 0) hx hb hr rfl (fun t ht hW => ⟨⟨0, M_1, rfl, Prod.mk.inj (Option.some.inj h), by rw [ht]; exact hP, x_KnW hKn t hW⟩, hS.F ht⟩) hS.2.2 dX7_findOneNight_97
  have hL3 : ∀ (k : Nat) (v6_2 : Int32) (M_3 : (Nat → Nat → Int32)) (H : Heap) (locs : List Loc) (ls : Array Slot), va_P (dC, dI) vwCl (x_w kI ad M_3) H → va_S (x_A ad) s.heap H locs → lv_has ls 7 [(0, .ref (ad (0))), (1, .ref (ad (c1))), (2, .ref (ad (c2))), (3, .int (a3)), (4, .int (a4)), (5, .int (a5)), (6, .int (v6_2))] → FX7_findOneNight_L3 c1 c2 a3 a4 a5 K3 k v6_2 M_3 = some (r0, M0) → W p l e (headSpec (wsA yX7_findOneNight cX7_findOneNight 7 (some .boolean)) ({ frames := 3, cells := 0, slots := 0, locals := 72 } : Room)).room s m (([.ref (ad (0)), .ref (ad (c1)), .ref (ad (c2)), .int (a3), .int (a4), .int (a5)] : List Value).toArray) below meth c H locs 0 0 (MQ below (va_Qi (fun (r : Int32) (u : (Nat → Nat → Int32)) => r = r0 ∧ u = M0) (gI (x_Wd dC dI kI ad) (x_Kn dC dI kI ad)) (x_A ad)) (([.ref (ad (0)), .ref (ad (c1)), .ref (ad (c2)), .int (a3), .int (a4), .int (a5)] : List Value).toArray) s 0 0 (x_A ad)) (F0 m 3 ls []) := by
    intro k
    induction k with
    | zero => intro v6_2 M_3 H locs ls hP hS hl h; cases h
    | succ k ih3 =>
      intro v6_2 M_3 H locs ls hP hS hl h
      unfold FX7_findOneNight_L3 at h
      refine lv_iload hx hb dX7_findOneNight_3 (lv_at hl 6 rfl) ?_
      refine lv_iconst (v := 1) hx hb dX7_findOneNight_5 (by decide) ?_
      refine lv_aload_n hx hb dX7_findOneNight_6 rfl (lv_at hl 0 rfl) ?_
      refine va_get (D := (dC, dI)) (ci := 7) (v := .ref (ad (3))) (C := RX7) (T := TX7) (N := 14) hx hb hg inX7 hown hKn.1 hP (0) (x_at7 (c := 0) (by decide)) rfl 1 (Nat.le_of_ble_eq_true rfl) (hg _ lkF_X7_19) (fun _ h9 => h9) rfl dX7_findOneNight_7 ?_
      refine va_getN (D := (dC, dI)) (ci := 1) (v := .int ((M_3 3 2))) (C := RX1) (T := TX1) (N := 10) hx hb hg inX1 hown hKn.1 hP (3) (x_at1 (c := 3) (by decide)) rfl 2 (Nat.le_of_ble_eq_true rfl) (nest_use hKn.2.2 nkF_X7_107) (fun _ h9 => h9) rfl dX7_findOneNight_10 ?_
      refine lv_ishl hx hb dX7_findOneNight_13 ?_
      refine lv_icmp_ge (tgt := 96) hx hb dX7_findOneNight_14 (by decide) (fun c_4 => ?_) (fun c_4 => ?_)
      · have h := ife_t c_4 h
        exact hK3 M_3 _ _ _ hP hS (lv_sub hl [] rfl) h
      · have h := ife_f c_4 h
        refine lv_aload_n hx hb dX7_findOneNight_17 rfl (lv_at hl 0 rfl) ?_
        refine lv_iload hx hb dX7_findOneNight_18 (lv_at hl 6 rfl) ?_
        obtain ⟨r_5, e20, h⟩ := bo_use h
        refine gc_i (va_runV (As := [.int (v6_2)]) (rest := []) hFx (tX7_mayBe l dC dI kI ad v6_2 M_3  e20) ⟨(gc_B hFx ck_yX7_mayBe lkM_X7_178 ⟨Nat.le_of_ble_eq_true rfl, Nat.le_of_ble_eq_true rfl⟩ rfl rfl), hg _ vi_yX7_mayBe, hg _ vs_yX7_mayBe⟩ (gp_V x_KnB (x_KnW hKn) hP (x_rc7 (c := 0) (by decide) hKn hP)) rfl rfl hl.1 rfl (lv_room (Nat.le_of_ble_eq_true rfl)) dX7_findOneNight_20 ⟨Nat.zero_le _, Nat.zero_le _⟩) hS (fun H locs hP hS => ?_)
        have hP : va_P (dC, dI) vwCl (x_w kI ad M_3) H := hP
        obtain ⟨J90, eJ90, h⟩ := jn_use h
        have hJ90 : ∀ (M_6 : (Nat → Nat → Int32)) (H : Heap) (locs : List Loc) (ls : Array Slot), va_P (dC, dI) vwCl (x_w kI ad M_6) H → va_S (x_A ad) s.heap H locs → lv_has ls 7 [(0, .ref (ad (0))), (1, .ref (ad (c1))), (2, .ref (ad (c2))), (3, .int (a3)), (4, .int (a4)), (5, .int (a5)), (6, .int (v6_2))] → J90 M_6 = some (r0, M0) → W p l e (headSpec (wsA yX7_findOneNight cX7_findOneNight 7 (some .boolean)) ({ frames := 3, cells := 0, slots := 0, locals := 72 } : Room)).room s m (([.ref (ad (0)), .ref (ad (c1)), .ref (ad (c2)), .int (a3), .int (a4), .int (a5)] : List Value).toArray) below meth c H locs 0 0 (MQ below (va_Qi (fun (r : Int32) (u : (Nat → Nat → Int32)) => r = r0 ∧ u = M0) (gI (x_Wd dC dI kI ad) (x_Kn dC dI kI ad)) (x_A ad)) (([.ref (ad (0)), .ref (ad (c1)), .ref (ad (c2)), .int (a3), .int (a4), .int (a5)] : List Value).toArray) s 0 0 (x_A ad)) (F0 m 90 ls []) := by
          intro M_6 H locs ls hP hS hl h
          have h := useK1 eJ90 h
          refine lv_iinc (v := (v6_2 + 1)) (lv' := [(6, .int ((v6_2 + 1))), (0, .ref (ad (0))), (1, .ref (ad (c1))), (2, .ref (ad (c2))), (3, .int (a3)), (4, .int (a4)), (5, .int (a5))]) hx hb dX7_findOneNight_90 hl (k := 6) rfl rfl (Nat.le_of_ble_eq_true rfl) rfl (fun ls hl => ?_)
          refine lv_goto (tgt := 3) hx hb dX7_findOneNight_93 (by decide) ?_
          exact ih3 (v6_2 + 1) M_6 _ _ _ hP hS (lv_sub hl [1, 2, 3, 4, 5, 6, 0] rfl) h
        refine lv_if_eq (tgt := 90) hx hb dX7_findOneNight_23 (by decide) (fun c_7 => ?_) (fun c_7 => ?_)
        · have h := ife_t c_7 h
          exact hJ90 M_3 _ _ _ hP hS (lv_sub hl [0, 1, 2, 3, 4, 5, 6] rfl) h
        · have h := ife_f c_7 h
          refine lv_aload_n hx hb dX7_findOneNight_26 rfl (lv_at hl 2 rfl) ?_
          refine lv_aload_n hx hb dX7_findOneNight_27 rfl (lv_at hl 1 rfl) ?_
          obtain ⟨M_8, e28, h⟩ := bo_use h
          refine gc_v (va_runVN (As := [.ref (ad (c1))]) (rest := []) hFx (tX3_copyFrom l dC dI kI ad c2 c1 M_3 h2 h1 e28) ⟨(gc_N hFx hKn.2.2 ck_yX3_copyFrom nkM_X7_210 ⟨Nat.le_of_ble_eq_true rfl, Nat.le_of_ble_eq_true rfl⟩ rfl rfl), hg _ vi_yX3_copyFrom, hg _ vs_yX3_copyFrom⟩ (gp_V x_KnB (x_KnW hKn) hP (x_rc3 (c := c2) h2 hKn hP)) rfl rfl hl.1 rfl (lv_room (Nat.le_of_ble_eq_true rfl)) dX7_findOneNight_28 ⟨Nat.zero_le _, Nat.zero_le _⟩) hS (fun H locs hP hS => ?_)
          have hP : va_P (dC, dI) vwCl (x_w kI ad M_8) H := hP
          refine lv_aload_n hx hb dX7_findOneNight_31 rfl (lv_at hl 2 rfl) ?_
          refine lv_aload_n hx hb dX7_findOneNight_32 rfl (lv_at hl 0 rfl) ?_
          refine va_get (D := (dC, dI)) (ci := 7) (v := .ref (ad (3))) (C := RX7) (T := TX7) (N := 14) hx hb hg inX7 hown hKn.1 hP (0) (x_at7 (c := 0) (by decide)) rfl 1 (Nat.le_of_ble_eq_true rfl) (hg _ lkF_X7_19) (fun _ h9 => h9) rfl dX7_findOneNight_33 ?_
          refine lv_iload hx hb dX7_findOneNight_36 (lv_at hl 6 rfl) ?_
          obtain ⟨M_9, e38, h⟩ := bo_use h
          refine gc_v (va_runVN (As := [.ref (ad (3)), .int (v6_2)]) (rest := []) hFx (tX3_spendNight l dC dI kI ad c2 3 v6_2 M_8 h2 (by decide) e38) ⟨(gc_N hFx hKn.2.2 ck_yX3_spendNight nkM_X7_187 ⟨Nat.le_of_ble_eq_true rfl, Nat.le_of_ble_eq_true rfl⟩ rfl rfl), hg _ vi_yX3_spendNight, hg _ vs_yX3_spendNight⟩ (gp_V x_KnB (x_KnW hKn) hP (x_rc3 (c := c2) h2 hKn hP)) rfl rfl hl.1 rfl (lv_room (Nat.le_of_ble_eq_true rfl)) dX7_findOneNight_38 ⟨Nat.zero_le _, Nat.zero_le _⟩) hS (fun H locs hP hS => ?_)
          have hP : va_P (dC, dI) vwCl (x_w kI ad M_9) H := hP
          refine lv_aload_n hx hb dX7_findOneNight_41 rfl (lv_at hl 2 rfl) ?_
          refine lv_aload_n hx hb dX7_findOneNight_42 rfl (lv_at hl 0 rfl) ?_
          refine va_get (D := (dC, dI)) (ci := 7) (v := .ref (ad (3))) (C := RX7) (T := TX7) (N := 14) hx hb hg inX7 hown hKn.1 hP (0) (x_at7 (c := 0) (by decide)) rfl 1 (Nat.le_of_ble_eq_true rfl) (hg _ lkF_X7_19) (fun _ h9 => h9) rfl dX7_findOneNight_43 ?_
          refine lv_iload_n hx hb dX7_findOneNight_46 rfl (lv_at hl 3 rfl) ?_
          refine lv_iload hx hb dX7_findOneNight_47 (lv_at hl 4 rfl) ?_
          obtain ⟨r_10, e49, h⟩ := bo_use h
          refine gc_i (va_runVN (As := [.ref (ad (3)), .int (a3), .int (a4)]) (rest := []) hFx (tX3_isConvinced l dC dI kI ad c2 3 a3 a4 M_9 h2 (by decide) e49) ⟨(gc_N hFx hKn.2.2 ck_yX3_isConvinced nkM_X7_280 ⟨Nat.le_of_ble_eq_true rfl, Nat.le_of_ble_eq_true rfl⟩ rfl rfl), hg _ vi_yX3_isConvinced, hg _ vs_yX3_isConvinced⟩ (gp_V x_KnB (x_KnW hKn) hP (x_rc3 (c := c2) h2 hKn hP)) rfl rfl hl.1 rfl (lv_room (Nat.le_of_ble_eq_true rfl)) dX7_findOneNight_49 ⟨Nat.zero_le _, Nat.zero_le _⟩) hS (fun H locs hP hS => ?_)
          have hP : va_P (dC, dI) vwCl (x_w kI ad M_9) H := hP
          refine lv_if_eq (tgt := 90) hx hb dX7_findOneNight_52 (by decide) (fun c_11 => ?_) (fun c_11 => ?_)
          · have h := ife_t c_11 h
            exact hJ90 M_9 _ _ _ hP hS (lv_sub hl [0, 1, 2, 3, 4, 5, 6] rfl) h
          · have h := ife_f c_11 h
            refine lv_aload_n hx hb dX7_findOneNight_55 rfl (lv_at hl 0 rfl) ?_
            refine va_get (D := (dC, dI)) (ci := 7) (v := .ref (ad (26))) (C := RX7) (T := TX7) (N := 14) hx hb hg inX7 hown hKn.1 hP (0) (x_at7 (c := 0) (by decide)) rfl 6 (Nat.le_of_ble_eq_true rfl) (hg _ lkF_X7_42) (fun _ h9 => h9) rfl dX7_findOneNight_56 ?_
            refine lv_iload hx hb dX7_findOneNight_59 (lv_at hl 5 rfl) ?_
            refine lv_iconst (v := -1) hx hb dX7_findOneNight_61 (by decide) ?_
            obtain ⟨J70, eJ70, h⟩ := jn_use h
            have hJ70 : ∀ (s_12 : Int32) (H : Heap) (locs : List Loc) (ls : Array Slot), va_P (dC, dI) vwCl (x_w kI ad M_9) H → va_S (x_A ad) s.heap H locs → lv_has ls 7 [(5, .int (a5)), (6, .int (v6_2))] → J70 s_12 = some (r0, M0) → W p l e (headSpec (wsA yX7_findOneNight cX7_findOneNight 7 (some .boolean)) ({ frames := 3, cells := 0, slots := 0, locals := 72 } : Room)).room s m (([.ref (ad (0)), .ref (ad (c1)), .ref (ad (c2)), .int (a3), .int (a4), .int (a5)] : List Value).toArray) below meth c H locs 0 0 (MQ below (va_Qi (fun (r : Int32) (u : (Nat → Nat → Int32)) => r = r0 ∧ u = M0) (gI (x_Wd dC dI kI ad) (x_Kn dC dI kI ad)) (x_A ad)) (([.ref (ad (0)), .ref (ad (c1)), .ref (ad (c2)), .int (a3), .int (a4), .int (a5)] : List Value).toArray) s 0 0 (x_A ad)) (F0 m 70 ls [.int (s_12), .ref (ad (26))]) := by
              intro s_12 H locs ls hP hS hl h
              have h := useK1 eJ70 h
              refine lv_iload hx hb dX7_findOneNight_70 (lv_at hl 0 rfl) ?_
              refine lv_iconst (v := -1) hx hb dX7_findOneNight_72 (by decide) ?_
              obtain ⟨J83, eJ83, h⟩ := jn_use h
              have hJ83 : ∀ (s_13 : Int32) (H : Heap) (locs : List Loc) (ls : Array Slot), va_P (dC, dI) vwCl (x_w kI ad M_9) H → va_S (x_A ad) s.heap H locs → lv_has ls 7 [(6, .int (v6_2))] → J83 s_13 = some (r0, M0) → W p l e (headSpec (wsA yX7_findOneNight cX7_findOneNight 7 (some .boolean)) ({ frames := 3, cells := 0, slots := 0, locals := 72 } : Room)).room s m (([.ref (ad (0)), .ref (ad (c1)), .ref (ad (c2)), .int (a3), .int (a4), .int (a5)] : List Value).toArray) below meth c H locs 0 0 (MQ below (va_Qi (fun (r : Int32) (u : (Nat → Nat → Int32)) => r = r0 ∧ u = M0) (gI (x_Wd dC dI kI ad) (x_Kn dC dI kI ad)) (x_A ad)) (([.ref (ad (0)), .ref (ad (c1)), .ref (ad (c2)), .int (a3), .int (a4), .int (a5)] : List Value).toArray) s 0 0 (x_A ad)) (F0 m 83 ls [.int (s_13), .int (s_12), .ref (ad (26))]) := by
                intro s_13 H locs ls hP hS hl h
                have h := useK1 eJ83 h
                refine lv_iload hx hb dX7_findOneNight_83 (lv_at hl 0 rfl) ?_
                obtain ⟨M_14, e85, h⟩ := bo_use h
                refine gc_v (va_runVN (As := [.int (s_12), .int (s_13), .int (v6_2)]) (rest := []) hFx (tX5_become l dC dI kI ad s_12 s_13 v6_2 M_9  e85) ⟨(gc_N hFx hKn.2.2 ck_yX5_become nkM_X7_284 ⟨Nat.le_of_ble_eq_true rfl, Nat.le_of_ble_eq_true rfl⟩ rfl rfl), hg _ vi_yX5_become, hg _ vs_yX5_become⟩ (gp_V x_KnB (x_KnW hKn) hP (x_rc5 (c := 26) (by decide) hKn hP)) rfl rfl hl.1 rfl (lv_room (Nat.le_of_ble_eq_true rfl)) dX7_findOneNight_85 ⟨Nat.zero_le _, Nat.zero_le _⟩) hS (fun H locs hP hS => ?_)
                have hP : va_P (dC, dI) vwCl (x_w kI ad M_14) H := hP
                refine lv_iconst (v := 1) hx hb dX7_findOneNight_88 (by decide) ?_
                exact W.zret (v := 1) hx hb hr rfl (fun t ht hW => ⟨⟨1, M_14, rfl, Prod.mk.inj (Option.some.inj h), by rw [ht]; exact hP, x_KnW hKn t hW⟩, hS.F ht⟩) hS.2.2 dX7_findOneNight_89
              refine lv_icmp_ne (tgt := 81) hx hb dX7_findOneNight_73 (by decide) (fun c_15 => ?_) (fun c_15 => ?_)
              · have h := ife_f c_15 h
                refine lv_iload hx hb dX7_findOneNight_81 (lv_at hl 0 rfl) ?_
                exact hJ83 a5 _ _ _ hP hS (lv_sub hl [1] rfl) h
              · have h := ife_t c_15 h
                refine lv_iload hx hb dX7_findOneNight_76 (lv_at hl 1 rfl) ?_
                refine lv_goto (tgt := 83) hx hb dX7_findOneNight_78 (by decide) ?_
                exact hJ83 v6_2 _ _ _ hP hS (lv_sub hl [1] rfl) h
            refine lv_icmp_ne (tgt := 69) hx hb dX7_findOneNight_62 (by decide) (fun c_16 => ?_) (fun c_16 => ?_)
            · have h := ife_f c_16 h
              refine lv_iconst (v := 2) hx hb dX7_findOneNight_69 (by decide) ?_
              exact hJ70 2 _ _ _ hP hS (lv_sub hl [5, 6] rfl) h
            · have h := ife_t c_16 h
              refine lv_iconst (v := 1) hx hb dX7_findOneNight_65 (by decide) ?_
              refine lv_goto (tgt := 70) hx hb dX7_findOneNight_66 (by decide) ?_
              exact hJ70 1 _ _ _ hP hS (lv_sub hl [5, 6] rfl) h
  exact hL3 fuelN 0 M _ _ _ hP hS (lv_sub hl [1, 2, 3, 4, 5, 6, 0] rfl) h
noncomputable def FX7_findTwoNights_L2 (b1 : Int32) (b2 : Int32) (K : (Nat → Nat → Int32) → Option (Int32 × (Nat → Nat → Int32))) (k : Nat) (v3_2 : Int32) (M_3 : (Nat → Nat → Int32)) : Option (Int32 × (Nat → Nat → Int32)) := match k with
  | 0 => none
  | k + 1 => (if (1 <<< ((M_3 3 2) &&& 31)) ≤ v3_2 then K M_3 else bo (FX7_mayBe v3_2 M_3) (fun (r_5 : Int32) => jn (fun (M_6 : (Nat → Nat → Int32)) => FX7_findTwoNights_L2 b1 b2 K k (v3_2 + 1) M_6) (fun J66 => (if r_5 = 0 then J66 M_3 else bo (FX3_copyFrom 20 17 M_3) (fun (M_8 : (Nat → Nat → Int32)) => bo (FX3_spendNight 20 3 v3_2 M_8) (fun (M_9 : (Nat → Nat → Int32)) => bd (FX7_findOneNight 20 23 b1 b2 v3_2 M_9) (fun (r_10 : Int32) (M_11 : (Nat → Nat → Int32)) => (if r_10 = 0 then J66 M_11 else some (1, M_11)))))))))
noncomputable def FX7_findTwoNights (a1 : Int32) (a2 : Int32) (M : (Nat → Nat → Int32)) : Option (Int32 × (Nat → Nat → Int32)) :=
  FX7_findTwoNights_L2 a1 a2 (fun (M_1 : (Nat → Nat → Int32)) => some (0, M_1)) fuelN 0 M
set_option maxHeartbeats 4000000 in
set_option maxRecDepth 100000 in
theorem tX7_findTwoNights (l : Launch) (dC : Nat → ClassId) (dI : Nat → Nat → Nat) (kI : ClassId) (ad : Nat → Nat) (a1 : Int32) (a2 : Int32) (M : (Nat → Nat → Int32))  {r0 : Int32} {M0 : (Nat → Nat → Int32)} (h : FX7_findTwoNights a1 a2 M = some (r0, M0)) : Met l yX7_findTwoNights (wsA yX7_findTwoNights cX7_findTwoNights 4 (some .boolean)) ({ frames := 4, cells := 0, slots := 0, locals := 98 } : Room) (va_Pc [.ref (ad (0)), .int (a1), .int (a2)] (gI (x_Wd dC dI kI ad) (x_Kn dC dI kI ad) M)) (va_Qi (fun (r : Int32) (u : (Nat → Nat → Int32)) => r = r0 ∧ u = M0) (gI (x_Wd dC dI kI ad) (x_Kn dC dI kI ad)) (x_A ad)) 0 0 (x_A ad) := by
  refine Met.ofW (cc := cX7_findTwoNights) (maxL := 4) (ret := (some .boolean)) (by decide) rfl ?_
  intro p e s m args below meth c s₁ B hml hv
  obtain ⟨rfl, hP, hKn⟩ := hv
  have hx := B.exec
  have hb := B.bytes
  have hr := B.returns
  have hts := atoms_spec (ws := wsA yX7_findTwoNights cX7_findTwoNights 4 (some .boolean)) B.pre
  have hg : ∀ w ∈ lw_good, w.before _ s = true := fun w h => hts w (List.mem_cons_of_mem _ h)
  have hown : s.vm.findClass RX7 = some m.cls := findClass_of_methodNamed B.named
  have hlocks := B.notSynchronized
  have hS : va_S (x_A ad) s.heap s.heap [] := va_S.rf
  have hFx : gFix p c cX7_findTwoNights 4 s m _ RX7 := ⟨hx, hb, hml, hown, hg⟩
  have hP : va_P (dC, dI) vwCl (x_w kI ad M) s.heap := hP
  have hl := lv_entry ([.ref (ad (0)), .int (a1), .int (a2)]) (n := 4) (Nat.le_of_ble_eq_true rfl)
  rw [lg_entry_eq]
  generalize (lg_sl ([.ref (ad (0)), .int (a1), .int (a2)]) ++ List.replicate (4 - (lg_sl ([.ref (ad (0)), .int (a1), .int (a2)])).length) Slot.unset).toArray = ls at hl ⊢
  have hl : lv_has ls 4 [(0, .ref (ad (0))), (1, .int (a1)), (2, .int (a2))] := hl
  unfold FX7_findTwoNights at h
  refine lv_iconst (v := 0) hx hb dX7_findTwoNights_0 (by decide) ?_
  refine lv_istore_n (lv' := [(3, .int (0)), (0, .ref (ad (0))), (1, .int (a1)), (2, .int (a2))]) hx hb dX7_findTwoNights_1 rfl hl (Nat.le_of_ble_eq_true rfl) rfl (fun ls hl => ?_)
  obtain ⟨K2, eK2, h⟩ := exK (Lp := fun K => FX7_findTwoNights_L2 a1 a2 K fuelN 0 M) h
  have hK2 : ∀ (M_1 : (Nat → Nat → Int32)) (H : Heap) (locs : List Loc) (ls : Array Slot), va_P (dC, dI) vwCl (x_w kI ad M_1) H → va_S (x_A ad) s.heap H locs → lv_has ls 4 [] → K2 M_1 = some (r0, M0) → W p l e (headSpec (wsA yX7_findTwoNights cX7_findTwoNights 4 (some .boolean)) ({ frames := 4, cells := 0, slots := 0, locals := 98 } : Room)).room s m (([.ref (ad (0)), .int (a1), .int (a2)] : List Value).toArray) below meth c H locs 0 0 (MQ below (va_Qi (fun (r : Int32) (u : (Nat → Nat → Int32)) => r = r0 ∧ u = M0) (gI (x_Wd dC dI kI ad) (x_Kn dC dI kI ad)) (x_A ad)) (([.ref (ad (0)), .int (a1), .int (a2)] : List Value).toArray) s 0 0 (x_A ad)) (F0 m 72 ls []) := by
    intro M_1 H locs ls hP hS hl h
    have h := useK1 eK2 h
    refine lv_iconst (v := 0) hx hb dX7_findTwoNights_72 (by decide) ?_
    exact W.zret (v := 0) hx hb hr rfl (fun t ht hW => ⟨⟨0, M_1, rfl, Prod.mk.inj (Option.some.inj h), by rw [ht]; exact hP, x_KnW hKn t hW⟩, hS.F ht⟩) hS.2.2 dX7_findTwoNights_73
  have hL2 : ∀ (k : Nat) (v3_2 : Int32) (M_3 : (Nat → Nat → Int32)) (H : Heap) (locs : List Loc) (ls : Array Slot), va_P (dC, dI) vwCl (x_w kI ad M_3) H → va_S (x_A ad) s.heap H locs → lv_has ls 4 [(0, .ref (ad (0))), (1, .int (a1)), (2, .int (a2)), (3, .int (v3_2))] → FX7_findTwoNights_L2 a1 a2 K2 k v3_2 M_3 = some (r0, M0) → W p l e (headSpec (wsA yX7_findTwoNights cX7_findTwoNights 4 (some .boolean)) ({ frames := 4, cells := 0, slots := 0, locals := 98 } : Room)).room s m (([.ref (ad (0)), .int (a1), .int (a2)] : List Value).toArray) below meth c H locs 0 0 (MQ below (va_Qi (fun (r : Int32) (u : (Nat → Nat → Int32)) => r = r0 ∧ u = M0) (gI (x_Wd dC dI kI ad) (x_Kn dC dI kI ad)) (x_A ad)) (([.ref (ad (0)), .int (a1), .int (a2)] : List Value).toArray) s 0 0 (x_A ad)) (F0 m 2 ls []) := by
    intro k
    induction k with
    | zero => intro v3_2 M_3 H locs ls hP hS hl h; cases h
    | succ k ih2 =>
      intro v3_2 M_3 H locs ls hP hS hl h
      unfold FX7_findTwoNights_L2 at h
      refine lv_iload_n hx hb dX7_findTwoNights_2 rfl (lv_at hl 3 rfl) ?_
      refine lv_iconst (v := 1) hx hb dX7_findTwoNights_3 (by decide) ?_
      refine lv_aload_n hx hb dX7_findTwoNights_4 rfl (lv_at hl 0 rfl) ?_
      refine va_get (D := (dC, dI)) (ci := 7) (v := .ref (ad (3))) (C := RX7) (T := TX7) (N := 14) hx hb hg inX7 hown hKn.1 hP (0) (x_at7 (c := 0) (by decide)) rfl 1 (Nat.le_of_ble_eq_true rfl) (hg _ lkF_X7_19) (fun _ h9 => h9) rfl dX7_findTwoNights_5 ?_
      refine va_getN (D := (dC, dI)) (ci := 1) (v := .int ((M_3 3 2))) (C := RX1) (T := TX1) (N := 10) hx hb hg inX1 hown hKn.1 hP (3) (x_at1 (c := 3) (by decide)) rfl 2 (Nat.le_of_ble_eq_true rfl) (nest_use hKn.2.2 nkF_X7_107) (fun _ h9 => h9) rfl dX7_findTwoNights_8 ?_
      refine lv_ishl hx hb dX7_findTwoNights_11 ?_
      refine lv_icmp_ge (tgt := 72) hx hb dX7_findTwoNights_12 (by decide) (fun c_4 => ?_) (fun c_4 => ?_)
      · have h := ife_t c_4 h
        exact hK2 M_3 _ _ _ hP hS (lv_sub hl [] rfl) h
      · have h := ife_f c_4 h
        refine lv_aload_n hx hb dX7_findTwoNights_15 rfl (lv_at hl 0 rfl) ?_
        refine lv_iload_n hx hb dX7_findTwoNights_16 rfl (lv_at hl 3 rfl) ?_
        obtain ⟨r_5, e17, h⟩ := bo_use h
        refine gc_i (va_runV (As := [.int (v3_2)]) (rest := []) hFx (tX7_mayBe l dC dI kI ad v3_2 M_3  e17) ⟨(gc_B hFx ck_yX7_mayBe lkM_X7_178 ⟨Nat.le_of_ble_eq_true rfl, Nat.le_of_ble_eq_true rfl⟩ rfl rfl), hg _ vi_yX7_mayBe, hg _ vs_yX7_mayBe⟩ (gp_V x_KnB (x_KnW hKn) hP (x_rc7 (c := 0) (by decide) hKn hP)) rfl rfl hl.1 rfl (lv_room (Nat.le_of_ble_eq_true rfl)) dX7_findTwoNights_17 ⟨Nat.zero_le _, Nat.zero_le _⟩) hS (fun H locs hP hS => ?_)
        have hP : va_P (dC, dI) vwCl (x_w kI ad M_3) H := hP
        obtain ⟨J66, eJ66, h⟩ := jn_use h
        have hJ66 : ∀ (M_6 : (Nat → Nat → Int32)) (H : Heap) (locs : List Loc) (ls : Array Slot), va_P (dC, dI) vwCl (x_w kI ad M_6) H → va_S (x_A ad) s.heap H locs → lv_has ls 4 [(0, .ref (ad (0))), (1, .int (a1)), (2, .int (a2)), (3, .int (v3_2))] → J66 M_6 = some (r0, M0) → W p l e (headSpec (wsA yX7_findTwoNights cX7_findTwoNights 4 (some .boolean)) ({ frames := 4, cells := 0, slots := 0, locals := 98 } : Room)).room s m (([.ref (ad (0)), .int (a1), .int (a2)] : List Value).toArray) below meth c H locs 0 0 (MQ below (va_Qi (fun (r : Int32) (u : (Nat → Nat → Int32)) => r = r0 ∧ u = M0) (gI (x_Wd dC dI kI ad) (x_Kn dC dI kI ad)) (x_A ad)) (([.ref (ad (0)), .int (a1), .int (a2)] : List Value).toArray) s 0 0 (x_A ad)) (F0 m 66 ls []) := by
          intro M_6 H locs ls hP hS hl h
          have h := useK1 eJ66 h
          refine lv_iinc (v := (v3_2 + 1)) (lv' := [(3, .int ((v3_2 + 1))), (0, .ref (ad (0))), (1, .int (a1)), (2, .int (a2))]) hx hb dX7_findTwoNights_66 hl (k := 3) rfl rfl (Nat.le_of_ble_eq_true rfl) rfl (fun ls hl => ?_)
          refine lv_goto (tgt := 2) hx hb dX7_findTwoNights_69 (by decide) ?_
          exact ih2 (v3_2 + 1) M_6 _ _ _ hP hS (lv_sub hl [1, 2, 3, 0] rfl) h
        refine lv_if_eq (tgt := 66) hx hb dX7_findTwoNights_20 (by decide) (fun c_7 => ?_) (fun c_7 => ?_)
        · have h := ife_t c_7 h
          exact hJ66 M_3 _ _ _ hP hS (lv_sub hl [0, 1, 2, 3] rfl) h
        · have h := ife_f c_7 h
          refine lv_aload_n hx hb dX7_findTwoNights_23 rfl (lv_at hl 0 rfl) ?_
          refine va_get (D := (dC, dI)) (ci := 7) (v := .ref (ad (20))) (C := RX7) (T := TX7) (N := 14) hx hb hg inX7 hown hKn.1 hP (0) (x_at7 (c := 0) (by decide)) rfl 4 (Nat.le_of_ble_eq_true rfl) (hg _ lkF_X7_33) (fun _ h9 => h9) rfl dX7_findTwoNights_24 ?_
          refine lv_aload_n hx hb dX7_findTwoNights_27 rfl (lv_at hl 0 rfl) ?_
          refine va_get (D := (dC, dI)) (ci := 7) (v := .ref (ad (17))) (C := RX7) (T := TX7) (N := 14) hx hb hg inX7 hown hKn.1 hP (0) (x_at7 (c := 0) (by decide)) rfl 3 (Nat.le_of_ble_eq_true rfl) (hg _ lkF_X7_29) (fun _ h9 => h9) rfl dX7_findTwoNights_28 ?_
          obtain ⟨M_8, e31, h⟩ := bo_use h
          refine gc_v (va_runVN (As := [.ref (ad (17))]) (rest := []) hFx (tX3_copyFrom l dC dI kI ad 20 17 M_3 (by decide) (by decide) e31) ⟨(gc_N hFx hKn.2.2 ck_yX3_copyFrom nkM_X7_210 ⟨Nat.le_of_ble_eq_true rfl, Nat.le_of_ble_eq_true rfl⟩ rfl rfl), hg _ vi_yX3_copyFrom, hg _ vs_yX3_copyFrom⟩ (gp_V x_KnB (x_KnW hKn) hP (x_rc3 (c := 20) (by decide) hKn hP)) rfl rfl hl.1 rfl (lv_room (Nat.le_of_ble_eq_true rfl)) dX7_findTwoNights_31 ⟨Nat.zero_le _, Nat.zero_le _⟩) hS (fun H locs hP hS => ?_)
          have hP : va_P (dC, dI) vwCl (x_w kI ad M_8) H := hP
          refine lv_aload_n hx hb dX7_findTwoNights_34 rfl (lv_at hl 0 rfl) ?_
          refine va_get (D := (dC, dI)) (ci := 7) (v := .ref (ad (20))) (C := RX7) (T := TX7) (N := 14) hx hb hg inX7 hown hKn.1 hP (0) (x_at7 (c := 0) (by decide)) rfl 4 (Nat.le_of_ble_eq_true rfl) (hg _ lkF_X7_33) (fun _ h9 => h9) rfl dX7_findTwoNights_35 ?_
          refine lv_aload_n hx hb dX7_findTwoNights_38 rfl (lv_at hl 0 rfl) ?_
          refine va_get (D := (dC, dI)) (ci := 7) (v := .ref (ad (3))) (C := RX7) (T := TX7) (N := 14) hx hb hg inX7 hown hKn.1 hP (0) (x_at7 (c := 0) (by decide)) rfl 1 (Nat.le_of_ble_eq_true rfl) (hg _ lkF_X7_19) (fun _ h9 => h9) rfl dX7_findTwoNights_39 ?_
          refine lv_iload_n hx hb dX7_findTwoNights_42 rfl (lv_at hl 3 rfl) ?_
          obtain ⟨M_9, e43, h⟩ := bo_use h
          refine gc_v (va_runVN (As := [.ref (ad (3)), .int (v3_2)]) (rest := []) hFx (tX3_spendNight l dC dI kI ad 20 3 v3_2 M_8 (by decide) (by decide) e43) ⟨(gc_N hFx hKn.2.2 ck_yX3_spendNight nkM_X7_187 ⟨Nat.le_of_ble_eq_true rfl, Nat.le_of_ble_eq_true rfl⟩ rfl rfl), hg _ vi_yX3_spendNight, hg _ vs_yX3_spendNight⟩ (gp_V x_KnB (x_KnW hKn) hP (x_rc3 (c := 20) (by decide) hKn hP)) rfl rfl hl.1 rfl (lv_room (Nat.le_of_ble_eq_true rfl)) dX7_findTwoNights_43 ⟨Nat.zero_le _, Nat.zero_le _⟩) hS (fun H locs hP hS => ?_)
          have hP : va_P (dC, dI) vwCl (x_w kI ad M_9) H := hP
          refine lv_aload_n hx hb dX7_findTwoNights_46 rfl (lv_at hl 0 rfl) ?_
          refine lv_aload_n hx hb dX7_findTwoNights_47 rfl (lv_at hl 0 rfl) ?_
          refine va_get (D := (dC, dI)) (ci := 7) (v := .ref (ad (20))) (C := RX7) (T := TX7) (N := 14) hx hb hg inX7 hown hKn.1 hP (0) (x_at7 (c := 0) (by decide)) rfl 4 (Nat.le_of_ble_eq_true rfl) (hg _ lkF_X7_33) (fun _ h9 => h9) rfl dX7_findTwoNights_48 ?_
          refine lv_aload_n hx hb dX7_findTwoNights_51 rfl (lv_at hl 0 rfl) ?_
          refine va_get (D := (dC, dI)) (ci := 7) (v := .ref (ad (23))) (C := RX7) (T := TX7) (N := 14) hx hb hg inX7 hown hKn.1 hP (0) (x_at7 (c := 0) (by decide)) rfl 5 (Nat.le_of_ble_eq_true rfl) (hg _ lkF_X7_36) (fun _ h9 => h9) rfl dX7_findTwoNights_52 ?_
          refine lv_iload_n hx hb dX7_findTwoNights_55 rfl (lv_at hl 1 rfl) ?_
          refine lv_iload_n hx hb dX7_findTwoNights_56 rfl (lv_at hl 2 rfl) ?_
          refine lv_iload_n hx hb dX7_findTwoNights_57 rfl (lv_at hl 3 rfl) ?_
          obtain ⟨r_10, M_11, e58, h⟩ := bd_use h
          refine gc_i (va_runV (As := [.ref (ad (20)), .ref (ad (23)), .int (a1), .int (a2), .int (v3_2)]) (rest := []) hFx (tX7_findOneNight l dC dI kI ad 20 23 a1 a2 v3_2 M_9 (by decide) (by decide) e58) ⟨(gc_B hFx ck_yX7_findOneNight lkM_X7_288 ⟨Nat.le_of_ble_eq_true rfl, Nat.le_of_ble_eq_true rfl⟩ rfl rfl), hg _ vi_yX7_findOneNight, hg _ vs_yX7_findOneNight⟩ (gp_V x_KnB (x_KnW hKn) hP (x_rc7 (c := 0) (by decide) hKn hP)) rfl rfl hl.1 rfl (lv_room (Nat.le_of_ble_eq_true rfl)) dX7_findTwoNights_58 ⟨Nat.zero_le _, Nat.zero_le _⟩) hS (fun H locs hP hS => ?_)
          have hP : va_P (dC, dI) vwCl (x_w kI ad M_11) H := hP
          refine lv_if_eq (tgt := 66) hx hb dX7_findTwoNights_61 (by decide) (fun c_12 => ?_) (fun c_12 => ?_)
          · have h := ife_t c_12 h
            exact hJ66 M_11 _ _ _ hP hS (lv_sub hl [0, 1, 2, 3] rfl) h
          · have h := ife_f c_12 h
            refine lv_iconst (v := 1) hx hb dX7_findTwoNights_64 (by decide) ?_
            exact W.zret (v := 1) hx hb hr rfl (fun t ht hW => ⟨⟨1, M_11, rfl, Prod.mk.inj (Option.some.inj h), by rw [ht]; exact hP, x_KnW hKn t hW⟩, hS.F ht⟩) hS.2.2 dX7_findTwoNights_65
  exact hL2 fuelN 0 M _ _ _ hP hS (lv_sub hl [1, 2, 3, 0] rfl) h
noncomputable def FX7_findSoonest (a1 : Int32) (a2 : Int32) (M : (Nat → Nat → Int32)) : Option (Int32 × (Nat → Nat → Int32)) :=
  bo (FX3_isConvinced 17 3 a1 a2 M) (fun (r_1 : Int32) => (if r_1 = 0 then bd (FX7_findOneNight 17 20 a1 a2 (-1) M) (fun (r_3 : Int32) (M_4 : (Nat → Nat → Int32)) => (if r_3 = 0 then bd (FX7_findTwoNights a1 a2 M_4) (fun (r_6 : Int32) (M_7 : (Nat → Nat → Int32)) => (if r_6 = 0 then some (0, M_7) else some (1, M_7))) else some (1, M_4))) else bo (FX5_become 0 (-1) (-1) M) (fun (M_9 : (Nat → Nat → Int32)) => some (1, M_9))))
set_option maxHeartbeats 4000000 in
set_option maxRecDepth 100000 in
theorem tX7_findSoonest (l : Launch) (dC : Nat → ClassId) (dI : Nat → Nat → Nat) (kI : ClassId) (ad : Nat → Nat) (a1 : Int32) (a2 : Int32) (M : (Nat → Nat → Int32))  {r0 : Int32} {M0 : (Nat → Nat → Int32)} (h : FX7_findSoonest a1 a2 M = some (r0, M0)) : Met l yX7_findSoonest (wsA yX7_findSoonest cX7_findSoonest 3 (some .boolean)) ({ frames := 5, cells := 0, slots := 0, locals := 121 } : Room) (va_Pc [.ref (ad (0)), .int (a1), .int (a2)] (gI (x_Wd dC dI kI ad) (x_Kn dC dI kI ad) M)) (va_Qi (fun (r : Int32) (u : (Nat → Nat → Int32)) => r = r0 ∧ u = M0) (gI (x_Wd dC dI kI ad) (x_Kn dC dI kI ad)) (x_A ad)) 0 0 (x_A ad) := by
  refine Met.ofW (cc := cX7_findSoonest) (maxL := 3) (ret := (some .boolean)) (by decide) rfl ?_
  intro p e s m args below meth c s₁ B hml hv
  obtain ⟨rfl, hP, hKn⟩ := hv
  have hx := B.exec
  have hb := B.bytes
  have hr := B.returns
  have hts := atoms_spec (ws := wsA yX7_findSoonest cX7_findSoonest 3 (some .boolean)) B.pre
  have hg : ∀ w ∈ lw_good, w.before _ s = true := fun w h => hts w (List.mem_cons_of_mem _ h)
  have hown : s.vm.findClass RX7 = some m.cls := findClass_of_methodNamed B.named
  have hlocks := B.notSynchronized
  have hS : va_S (x_A ad) s.heap s.heap [] := va_S.rf
  have hFx : gFix p c cX7_findSoonest 3 s m _ RX7 := ⟨hx, hb, hml, hown, hg⟩
  have hP : va_P (dC, dI) vwCl (x_w kI ad M) s.heap := hP
  have hl := lv_entry ([.ref (ad (0)), .int (a1), .int (a2)]) (n := 3) (Nat.le_of_ble_eq_true rfl)
  rw [lg_entry_eq]
  generalize (lg_sl ([.ref (ad (0)), .int (a1), .int (a2)]) ++ List.replicate (3 - (lg_sl ([.ref (ad (0)), .int (a1), .int (a2)])).length) Slot.unset).toArray = ls at hl ⊢
  have hl : lv_has ls 3 [(0, .ref (ad (0))), (1, .int (a1)), (2, .int (a2))] := hl
  unfold FX7_findSoonest at h
  refine lv_aload_n hx hb dX7_findSoonest_0 rfl (lv_at hl 0 rfl) ?_
  refine va_get (D := (dC, dI)) (ci := 7) (v := .ref (ad (17))) (C := RX7) (T := TX7) (N := 14) hx hb hg inX7 hown hKn.1 hP (0) (x_at7 (c := 0) (by decide)) rfl 3 (Nat.le_of_ble_eq_true rfl) (hg _ lkF_X7_29) (fun _ h9 => h9) rfl dX7_findSoonest_1 ?_
  refine lv_aload_n hx hb dX7_findSoonest_4 rfl (lv_at hl 0 rfl) ?_
  refine va_get (D := (dC, dI)) (ci := 7) (v := .ref (ad (3))) (C := RX7) (T := TX7) (N := 14) hx hb hg inX7 hown hKn.1 hP (0) (x_at7 (c := 0) (by decide)) rfl 1 (Nat.le_of_ble_eq_true rfl) (hg _ lkF_X7_19) (fun _ h9 => h9) rfl dX7_findSoonest_5 ?_
  refine lv_iload_n hx hb dX7_findSoonest_8 rfl (lv_at hl 1 rfl) ?_
  refine lv_iload_n hx hb dX7_findSoonest_9 rfl (lv_at hl 2 rfl) ?_
  obtain ⟨r_1, e10, h⟩ := bo_use h
  refine gc_i (va_runVN (As := [.ref (ad (3)), .int (a1), .int (a2)]) (rest := []) hFx (tX3_isConvinced l dC dI kI ad 17 3 a1 a2 M (by decide) (by decide) e10) ⟨(gc_N hFx hKn.2.2 ck_yX3_isConvinced nkM_X7_280 ⟨Nat.le_of_ble_eq_true rfl, Nat.le_of_ble_eq_true rfl⟩ rfl rfl), hg _ vi_yX3_isConvinced, hg _ vs_yX3_isConvinced⟩ (gp_V x_KnB (x_KnW hKn) hP (x_rc3 (c := 17) (by decide) hKn hP)) rfl rfl hl.1 rfl (lv_room (Nat.le_of_ble_eq_true rfl)) dX7_findSoonest_10 ⟨Nat.zero_le _, Nat.zero_le _⟩) hS (fun H locs hP hS => ?_)
  have hP : va_P (dC, dI) vwCl (x_w kI ad M) H := hP
  refine lv_if_eq (tgt := 28) hx hb dX7_findSoonest_13 (by decide) (fun c_2 => ?_) (fun c_2 => ?_)
  · have h := ife_t c_2 h
    refine lv_aload_n hx hb dX7_findSoonest_28 rfl (lv_at hl 0 rfl) ?_
    refine lv_aload_n hx hb dX7_findSoonest_29 rfl (lv_at hl 0 rfl) ?_
    refine va_get (D := (dC, dI)) (ci := 7) (v := .ref (ad (17))) (C := RX7) (T := TX7) (N := 14) hx hb hg inX7 hown hKn.1 hP (0) (x_at7 (c := 0) (by decide)) rfl 3 (Nat.le_of_ble_eq_true rfl) (hg _ lkF_X7_29) (fun _ h9 => h9) rfl dX7_findSoonest_30 ?_
    refine lv_aload_n hx hb dX7_findSoonest_33 rfl (lv_at hl 0 rfl) ?_
    refine va_get (D := (dC, dI)) (ci := 7) (v := .ref (ad (20))) (C := RX7) (T := TX7) (N := 14) hx hb hg inX7 hown hKn.1 hP (0) (x_at7 (c := 0) (by decide)) rfl 4 (Nat.le_of_ble_eq_true rfl) (hg _ lkF_X7_33) (fun _ h9 => h9) rfl dX7_findSoonest_34 ?_
    refine lv_iload_n hx hb dX7_findSoonest_37 rfl (lv_at hl 1 rfl) ?_
    refine lv_iload_n hx hb dX7_findSoonest_38 rfl (lv_at hl 2 rfl) ?_
    refine lv_iconst (v := -1) hx hb dX7_findSoonest_39 (by decide) ?_
    obtain ⟨r_3, M_4, e40, h⟩ := bd_use h
    refine gc_i (va_runV (As := [.ref (ad (17)), .ref (ad (20)), .int (a1), .int (a2), .int ((-1))]) (rest := []) hFx (tX7_findOneNight l dC dI kI ad 17 20 a1 a2 (-1) M (by decide) (by decide) e40) ⟨(gc_B hFx ck_yX7_findOneNight lkM_X7_288 ⟨Nat.le_of_ble_eq_true rfl, Nat.le_of_ble_eq_true rfl⟩ rfl rfl), hg _ vi_yX7_findOneNight, hg _ vs_yX7_findOneNight⟩ (gp_V x_KnB (x_KnW hKn) hP (x_rc7 (c := 0) (by decide) hKn hP)) rfl rfl hl.1 rfl (lv_room (Nat.le_of_ble_eq_true rfl)) dX7_findSoonest_40 ⟨Nat.zero_le _, Nat.zero_le _⟩) hS (fun H locs hP hS => ?_)
    have hP : va_P (dC, dI) vwCl (x_w kI ad M_4) H := hP
    refine lv_if_ne (tgt := 55) hx hb dX7_findSoonest_43 (by decide) (fun c_5 => ?_) (fun c_5 => ?_)
    · have h := ife_f c_5 h
      refine lv_iconst (v := 1) hx hb dX7_findSoonest_55 (by decide) ?_
      refine lv_goto (tgt := 60) hx hb dX7_findSoonest_56 (by decide) ?_
      exact W.zret (v := 1) hx hb hr rfl (fun t ht hW => ⟨⟨1, M_4, rfl, Prod.mk.inj (Option.some.inj h), by rw [ht]; exact hP, x_KnW hKn t hW⟩, hS.F ht⟩) hS.2.2 dX7_findSoonest_60
    · have h := ife_t c_5 h
      refine lv_aload_n hx hb dX7_findSoonest_46 rfl (lv_at hl 0 rfl) ?_
      refine lv_iload_n hx hb dX7_findSoonest_47 rfl (lv_at hl 1 rfl) ?_
      refine lv_iload_n hx hb dX7_findSoonest_48 rfl (lv_at hl 2 rfl) ?_
      obtain ⟨r_6, M_7, e49, h⟩ := bd_use h
      refine gc_i (va_runV (As := [.int (a1), .int (a2)]) (rest := []) hFx (tX7_findTwoNights l dC dI kI ad a1 a2 M_4  e49) ⟨(gc_B hFx ck_yX7_findTwoNights lkM_X7_292 ⟨Nat.le_of_ble_eq_true rfl, Nat.le_of_ble_eq_true rfl⟩ rfl rfl), hg _ vi_yX7_findTwoNights, hg _ vs_yX7_findTwoNights⟩ (gp_V x_KnB (x_KnW hKn) hP (x_rc7 (c := 0) (by decide) hKn hP)) rfl rfl hl.1 rfl (lv_room (Nat.le_of_ble_eq_true rfl)) dX7_findSoonest_49 ⟨Nat.zero_le _, Nat.zero_le _⟩) hS (fun H locs hP hS => ?_)
      have hP : va_P (dC, dI) vwCl (x_w kI ad M_7) H := hP
      refine lv_if_eq (tgt := 59) hx hb dX7_findSoonest_52 (by decide) (fun c_8 => ?_) (fun c_8 => ?_)
      · have h := ife_t c_8 h
        refine lv_iconst (v := 0) hx hb dX7_findSoonest_59 (by decide) ?_
        exact W.zret (v := 0) hx hb hr rfl (fun t ht hW => ⟨⟨0, M_7, rfl, Prod.mk.inj (Option.some.inj h), by rw [ht]; exact hP, x_KnW hKn t hW⟩, hS.F ht⟩) hS.2.2 dX7_findSoonest_60
      · have h := ife_f c_8 h
        refine lv_iconst (v := 1) hx hb dX7_findSoonest_55 (by decide) ?_
        refine lv_goto (tgt := 60) hx hb dX7_findSoonest_56 (by decide) ?_
        exact W.zret (v := 1) hx hb hr rfl (fun t ht hW => ⟨⟨1, M_7, rfl, Prod.mk.inj (Option.some.inj h), by rw [ht]; exact hP, x_KnW hKn t hW⟩, hS.F ht⟩) hS.2.2 dX7_findSoonest_60
  · have h := ife_f c_2 h
    refine lv_aload_n hx hb dX7_findSoonest_16 rfl (lv_at hl 0 rfl) ?_
    refine va_get (D := (dC, dI)) (ci := 7) (v := .ref (ad (26))) (C := RX7) (T := TX7) (N := 14) hx hb hg inX7 hown hKn.1 hP (0) (x_at7 (c := 0) (by decide)) rfl 6 (Nat.le_of_ble_eq_true rfl) (hg _ lkF_X7_42) (fun _ h9 => h9) rfl dX7_findSoonest_17 ?_
    refine lv_iconst (v := 0) hx hb dX7_findSoonest_20 (by decide) ?_
    refine lv_iconst (v := -1) hx hb dX7_findSoonest_21 (by decide) ?_
    refine lv_iconst (v := -1) hx hb dX7_findSoonest_22 (by decide) ?_
    obtain ⟨M_9, e23, h⟩ := bo_use h
    refine gc_v (va_runVN (As := [.int (0), .int ((-1)), .int ((-1))]) (rest := []) hFx (tX5_become l dC dI kI ad 0 (-1) (-1) M  e23) ⟨(gc_N hFx hKn.2.2 ck_yX5_become nkM_X7_284 ⟨Nat.le_of_ble_eq_true rfl, Nat.le_of_ble_eq_true rfl⟩ rfl rfl), hg _ vi_yX5_become, hg _ vs_yX5_become⟩ (gp_V x_KnB (x_KnW hKn) hP (x_rc5 (c := 26) (by decide) hKn hP)) rfl rfl hl.1 rfl (lv_room (Nat.le_of_ble_eq_true rfl)) dX7_findSoonest_23 ⟨Nat.zero_le _, Nat.zero_le _⟩) hS (fun H locs hP hS => ?_)
    have hP : va_P (dC, dI) vwCl (x_w kI ad M_9) H := hP
    refine lv_iconst (v := 1) hx hb dX7_findSoonest_26 (by decide) ?_
    exact W.zret (v := 1) hx hb hr rfl (fun t ht hW => ⟨⟨1, M_9, rfl, Prod.mk.inj (Option.some.inj h), by rw [ht]; exact hP, x_KnW hKn t hW⟩, hS.F ht⟩) hS.2.2 dX7_findSoonest_27
noncomputable def FX7_goBack (a1 : Int32) (M : (Nat → Nat → Int32)) : Option (Int32 × (Nat → Nat → Int32)) :=
  (if a1 < 0 then some ((-1000000001), M) else (if a1 < 2 then bo (FX7_has (M 0 10) a1) (fun (r_3 : Int32) => (if r_3 = 0 then some ((-1000000003), M) else bo (FX6_fetch 30 a1 17 M) (fun (M_5 : (Nat → Nat → Int32)) => bo (FX7_at 32 a1 M_5) (fun (r_6 : Int32) => bo (FX4_clear  (upd2 M_5 0 11 r_6)) (fun (M_7 : (Nat → Nat → Int32)) => some (1, M_7)))))) else some ((-1000000001), M)))
set_option maxHeartbeats 4000000 in
set_option maxRecDepth 100000 in
theorem tX7_goBack (l : Launch) (dC : Nat → ClassId) (dI : Nat → Nat → Nat) (kI : ClassId) (ad : Nat → Nat) (a1 : Int32) (M : (Nat → Nat → Int32))  {r0 : Int32} {M0 : (Nat → Nat → Int32)} (h : FX7_goBack a1 M = some (r0, M0)) : Met l yX7_goBack (wsA yX7_goBack cX7_goBack 2 (some .int)) ({ frames := 2, cells := 0, slots := 0, locals := 46 } : Room) (va_Pc [.ref (ad (0)), .int (a1)] (gI (x_Wd dC dI kI ad) (x_Kn dC dI kI ad) M)) (va_Qi (fun (r : Int32) (u : (Nat → Nat → Int32)) => r = r0 ∧ u = M0) (gI (x_Wd dC dI kI ad) (x_Kn dC dI kI ad)) (x_A ad)) 0 0 (x_A ad) := by
  refine Met.ofW (cc := cX7_goBack) (maxL := 2) (ret := (some .int)) (by decide) rfl ?_
  intro p e s m args below meth c s₁ B hml hv
  obtain ⟨rfl, hP, hKn⟩ := hv
  have hx := B.exec
  have hb := B.bytes
  have hr := B.returns
  have hts := atoms_spec (ws := wsA yX7_goBack cX7_goBack 2 (some .int)) B.pre
  have hg : ∀ w ∈ lw_good, w.before _ s = true := fun w h => hts w (List.mem_cons_of_mem _ h)
  have hown : s.vm.findClass RX7 = some m.cls := findClass_of_methodNamed B.named
  have hlocks := B.notSynchronized
  have hS : va_S (x_A ad) s.heap s.heap [] := va_S.rf
  have hFx : gFix p c cX7_goBack 2 s m _ RX7 := ⟨hx, hb, hml, hown, hg⟩
  have hP : va_P (dC, dI) vwCl (x_w kI ad M) s.heap := hP
  have hl := lv_entry ([.ref (ad (0)), .int (a1)]) (n := 2) (Nat.le_of_ble_eq_true rfl)
  rw [lg_entry_eq]
  generalize (lg_sl ([.ref (ad (0)), .int (a1)]) ++ List.replicate (2 - (lg_sl ([.ref (ad (0)), .int (a1)])).length) Slot.unset).toArray = ls at hl ⊢
  have hl : lv_has ls 2 [(0, .ref (ad (0))), (1, .int (a1))] := hl
  unfold FX7_goBack at h
  refine lv_iload_n hx hb dX7_goBack_0 rfl (lv_at hl 1 rfl) ?_
  refine lv_if_lt (tgt := 9) hx hb dX7_goBack_1 (by decide) (fun c_1 => ?_) (fun c_1 => ?_)
  · have h := ife_t c_1 h
    refine lv_ldc hx hb hown (hg _ kc_X7_149) dX7_goBack_9 ?_
    exact W.iret (v := (-1000000001)) hx hb hr (fun t ht hW => ⟨⟨(-1000000001), M, rfl, Prod.mk.inj (Option.some.inj h), by rw [ht]; exact hP, x_KnW hKn t hW⟩, hS.F ht⟩) hS.2.2 dX7_goBack_11
  · have h := ife_f c_1 h
    refine lv_iload_n hx hb dX7_goBack_4 rfl (lv_at hl 1 rfl) ?_
    refine lv_iconst (v := 2) hx hb dX7_goBack_5 (by decide) ?_
    refine lv_icmp_lt (tgt := 12) hx hb dX7_goBack_6 (by decide) (fun c_2 => ?_) (fun c_2 => ?_)
    · have h := ife_t c_2 h
      refine lv_aload_n hx hb dX7_goBack_12 rfl (lv_at hl 0 rfl) ?_
      refine va_get (D := (dC, dI)) (ci := 7) (v := .int ((M 0 10))) (C := RX7) (T := TX7) (N := 14) hx hb hg inX7 hown hKn.1 hP (0) (x_at7 (c := 0) (by decide)) rfl 10 (Nat.le_of_ble_eq_true rfl) (hg _ lkF_X7_66) (fun _ h9 => h9) rfl dX7_goBack_13 ?_
      refine lv_iload_n hx hb dX7_goBack_16 rfl (lv_at hl 1 rfl) ?_
      obtain ⟨r_3, e17, h⟩ := bo_use h
      refine gc_i (va_runS (As := [.int ((M 0 10)), .int (a1)]) (rest := []) hFx (tX7_has l dC dI kI ad (M 0 10) a1 M  e17) ⟨(gc_B hFx ck_yX7_has lkM_X7_168 ⟨Nat.le_of_ble_eq_true rfl, Nat.le_of_ble_eq_true rfl⟩ rfl rfl), hg _ st_yX7_has⟩ (gp_S x_KnB (x_KnW hKn) hP) rfl rfl hl.1 rfl (lv_room (Nat.le_of_ble_eq_true rfl)) dX7_goBack_17 ⟨Nat.zero_le _, Nat.zero_le _⟩) hS (fun H locs hP hS => ?_)
      have hP : va_P (dC, dI) vwCl (x_w kI ad M) H := hP
      refine lv_if_ne (tgt := 26) hx hb dX7_goBack_20 (by decide) (fun c_4 => ?_) (fun c_4 => ?_)
      · have h := ife_f c_4 h
        refine lv_aload_n hx hb dX7_goBack_26 rfl (lv_at hl 0 rfl) ?_
        refine va_get (D := (dC, dI)) (ci := 7) (v := .ref (ad (30))) (C := RX7) (T := TX7) (N := 14) hx hb hg inX7 hown hKn.1 hP (0) (x_at7 (c := 0) (by decide)) rfl 8 (Nat.le_of_ble_eq_true rfl) (hg _ lkF_X7_58) (fun _ h9 => h9) rfl dX7_goBack_27 ?_
        refine lv_iload_n hx hb dX7_goBack_30 rfl (lv_at hl 1 rfl) ?_
        refine lv_aload_n hx hb dX7_goBack_31 rfl (lv_at hl 0 rfl) ?_
        refine va_get (D := (dC, dI)) (ci := 7) (v := .ref (ad (17))) (C := RX7) (T := TX7) (N := 14) hx hb hg inX7 hown hKn.1 hP (0) (x_at7 (c := 0) (by decide)) rfl 3 (Nat.le_of_ble_eq_true rfl) (hg _ lkF_X7_29) (fun _ h9 => h9) rfl dX7_goBack_32 ?_
        obtain ⟨M_5, e35, h⟩ := bo_use h
        refine gc_v (va_runVN (As := [.int (a1), .ref (ad (17))]) (rest := []) hFx (tX6_fetch l dC dI kI ad 30 a1 17 M (by decide) (by decide) e35) ⟨(gc_N hFx hKn.2.2 ck_yX6_fetch nkM_X7_265 ⟨Nat.le_of_ble_eq_true rfl, Nat.le_of_ble_eq_true rfl⟩ rfl rfl), hg _ vi_yX6_fetch, hg _ vs_yX6_fetch⟩ (gp_V x_KnB (x_KnW hKn) hP (x_rc6 (c := 30) (by decide) hKn hP)) rfl rfl hl.1 rfl (lv_room (Nat.le_of_ble_eq_true rfl)) dX7_goBack_35 ⟨Nat.zero_le _, Nat.zero_le _⟩) hS (fun H locs hP hS => ?_)
        have hP : va_P (dC, dI) vwCl (x_w kI ad M_5) H := hP
        refine lv_aload_n hx hb dX7_goBack_38 rfl (lv_at hl 0 rfl) ?_
        refine lv_aload_n hx hb dX7_goBack_39 rfl (lv_at hl 0 rfl) ?_
        refine va_get (D := (dC, dI)) (ci := 7) (v := .ref (ad (32))) (C := RX7) (T := TX7) (N := 14) hx hb hg inX7 hown hKn.1 hP (0) (x_at7 (c := 0) (by decide)) rfl 9 (Nat.le_of_ble_eq_true rfl) (hg _ lkF_X7_62) (fun _ h9 => h9) rfl dX7_goBack_40 ?_
        refine lv_iload_n hx hb dX7_goBack_43 rfl (lv_at hl 1 rfl) ?_
        obtain ⟨r_6, e44, h⟩ := bo_use h
        refine gc_i (va_runS (As := [.ref (ad (32)), .int (a1)]) (rest := [.ref (ad (0))]) hFx (tX7_at l dC dI kI ad 32 a1 M_5 (by decide) e44) ⟨(gc_B hFx ck_yX7_at lkM_X7_145 ⟨Nat.le_of_ble_eq_true rfl, Nat.le_of_ble_eq_true rfl⟩ rfl rfl), hg _ st_yX7_at⟩ (gp_S x_KnB (x_KnW hKn) hP) rfl rfl hl.1 rfl (lv_room (Nat.le_of_ble_eq_true rfl)) dX7_goBack_44 ⟨Nat.zero_le _, Nat.zero_le _⟩) hS (fun H locs hP hS => ?_)
        have hP : va_P (dC, dI) vwCl (x_w kI ad M_5) H := hP
        refine va_put (D := (dC, dI)) (ci := 7) (v := .int (r_6)) (ty := .int) (C := RX7) (T := TX7) (N := 14) hx hb hg inX7 tyX7 tyX7_ok nmX7 hown hKn.1 hP (x_D hKn.2.1) hS (0) (x_at7 (c := 0) (by decide)) rfl 11 (Nat.le_of_ble_eq_true rfl) (hg _ lkF_X7_70) (fun _ h9 => h9) rfl (by decide +kernel) rfl rfl (Nat.le_of_ble_eq_true rfl) dX7_goBack_47 (fun H locs hP _ hS => ?_)
        have hP : va_P (dC, dI) vwCl (x_w kI ad (upd2 M_5 0 11 r_6)) H := vp_eq (x_put7_11 (by decide) _) hP
        refine lv_aload_n hx hb dX7_goBack_50 rfl (lv_at hl 0 rfl) ?_
        refine va_get (D := (dC, dI)) (ci := 7) (v := .ref (ad (27))) (C := RX7) (T := TX7) (N := 14) hx hb hg inX7 hown hKn.1 hP (0) (x_at7 (c := 0) (by decide)) rfl 7 (Nat.le_of_ble_eq_true rfl) (hg _ lkF_X7_49) (fun _ h9 => h9) rfl dX7_goBack_51 ?_
        obtain ⟨M_7, e54, h⟩ := bo_use h
        refine gc_v (va_runVN (As := []) (rest := []) hFx (tX4_clear l dC dI kI ad  (upd2 M_5 0 11 r_6)  e54) ⟨(gc_N hFx hKn.2.2 ck_yX4_clear nkM_X7_103 ⟨Nat.le_of_ble_eq_true rfl, Nat.le_of_ble_eq_true rfl⟩ rfl rfl), hg _ vi_yX4_clear, hg _ vs_yX4_clear⟩ (gp_V x_KnB (x_KnW hKn) hP (x_rc4 (c := 27) (by decide) hKn hP)) rfl rfl hl.1 rfl (lv_room (Nat.le_of_ble_eq_true rfl)) dX7_goBack_54 ⟨Nat.zero_le _, Nat.zero_le _⟩) hS (fun H locs hP hS => ?_)
        have hP : va_P (dC, dI) vwCl (x_w kI ad M_7) H := hP
        refine lv_iconst (v := 1) hx hb dX7_goBack_57 (by decide) ?_
        exact W.iret (v := 1) hx hb hr (fun t ht hW => ⟨⟨1, M_7, rfl, Prod.mk.inj (Option.some.inj h), by rw [ht]; exact hP, x_KnW hKn t hW⟩, hS.F ht⟩) hS.2.2 dX7_goBack_58
      · have h := ife_t c_4 h
        refine lv_ldc hx hb hown (hg _ kc_X7_181) dX7_goBack_23 ?_
        exact W.iret (v := (-1000000003)) hx hb hr (fun t ht hW => ⟨⟨(-1000000003), M, rfl, Prod.mk.inj (Option.some.inj h), by rw [ht]; exact hP, x_KnW hKn t hW⟩, hS.F ht⟩) hS.2.2 dX7_goBack_25
    · have h := ife_f c_2 h
      refine lv_ldc hx hb hown (hg _ kc_X7_149) dX7_goBack_9 ?_
      exact W.iret (v := (-1000000001)) hx hb hr (fun t ht hW => ⟨⟨(-1000000001), M, rfl, Prod.mk.inj (Option.some.inj h), by rw [ht]; exact hP, x_KnW hKn t hW⟩, hS.F ht⟩) hS.2.2 dX7_goBack_11
noncomputable def FX7_holds_L30 (b1 : Int32) (b2 : Int32) (K : Int64 → Option Int32) (k : Nat) (v3_6 : Int64) (v5_7 : Int32) : Option Int32 := match k with
  | 0 => none
  | k + 1 => (if b1 ≤ v5_7 then K v3_6 else FX7_holds_L30 b1 b2 K k ((v3_6 * (((100 - b2)).toInt64)) / 100) (v5_7 + 1))
noncomputable def FX7_holds (a1 : Int32) (a2 : Int32) : Option Int32 :=
  (if a1 < 0 then some (-1000000002) else (if 60 < a1 then some (-1000000002) else (if a2 < 0 then some (-1000000002) else (if a2 ≤ 100 then FX7_holds_L30 a1 a2 (fun (k3_5 : Int64) => some (Int64.toInt32 k3_5)) fuelN 1000000000 0 else some (-1000000002)))))
set_option maxHeartbeats 4000000 in
set_option maxRecDepth 100000 in
theorem tX7_holds (l : Launch) (dC : Nat → ClassId) (dI : Nat → Nat → Nat) (kI : ClassId) (ad : Nat → Nat) (a1 : Int32) (a2 : Int32) (M : (Nat → Nat → Int32))  {r0 : Int32} (h : FX7_holds a1 a2 = some r0) : Met l yX7_holds (wsA yX7_holds cX7_holds 6 (some .int)) ({ frames := 0, cells := 0, slots := 0, locals := 0 } : Room) (va_Pc [.ref (ad (0)), .int (a1), .int (a2)] (gI (x_Wd dC dI kI ad) (x_Kn dC dI kI ad) M)) (va_Qi (fun (r : Int32) (u : (Nat → Nat → Int32)) => r = r0 ∧ u = M) (gI (x_Wd dC dI kI ad) (x_Kn dC dI kI ad)) (x_A ad)) 0 0 (x_A ad) := by
  refine Met.ofW (cc := cX7_holds) (maxL := 6) (ret := (some .int)) (by decide) rfl ?_
  intro p e s m args below meth c s₁ B hml hv
  obtain ⟨rfl, hP, hKn⟩ := hv
  have hx := B.exec
  have hb := B.bytes
  have hr := B.returns
  have hts := atoms_spec (ws := wsA yX7_holds cX7_holds 6 (some .int)) B.pre
  have hg : ∀ w ∈ lw_good, w.before _ s = true := fun w h => hts w (List.mem_cons_of_mem _ h)
  have hown : s.vm.findClass RX7 = some m.cls := findClass_of_methodNamed B.named
  have hlocks := B.notSynchronized
  have hS : va_S (x_A ad) s.heap s.heap [] := va_S.rf
  have hFx : gFix p c cX7_holds 6 s m _ RX7 := ⟨hx, hb, hml, hown, hg⟩
  have hP : va_P (dC, dI) vwCl (x_w kI ad M) s.heap := hP
  have hl := lv_entry ([.ref (ad (0)), .int (a1), .int (a2)]) (n := 6) (Nat.le_of_ble_eq_true rfl)
  rw [lg_entry_eq]
  generalize (lg_sl ([.ref (ad (0)), .int (a1), .int (a2)]) ++ List.replicate (6 - (lg_sl ([.ref (ad (0)), .int (a1), .int (a2)])).length) Slot.unset).toArray = ls at hl ⊢
  have hl : lv_has ls 6 [(0, .ref (ad (0))), (1, .int (a1)), (2, .int (a2))] := hl
  unfold FX7_holds at h
  refine lv_iload_n hx hb dX7_holds_0 rfl (lv_at hl 1 rfl) ?_
  refine lv_if_lt (tgt := 20) hx hb dX7_holds_1 (by decide) (fun c_1 => ?_) (fun c_1 => ?_)
  · have h := ife_t c_1 h
    refine lv_ldc hx hb hown (hg _ kc_X7_83) dX7_holds_20 ?_
    exact W.iret (v := (-1000000002)) hx hb hr (fun t ht hW => ⟨⟨(-1000000002), M, rfl, ⟨Option.some.inj h, rfl⟩, by rw [ht]; exact hP, x_KnW hKn t hW⟩, hS.F ht⟩) hS.2.2 dX7_holds_22
  · have h := ife_f c_1 h
    refine lv_iload_n hx hb dX7_holds_4 rfl (lv_at hl 1 rfl) ?_
    refine lv_bipush (v := 60) hx hb dX7_holds_5 (by decide) ?_
    refine lv_icmp_gt (tgt := 20) hx hb dX7_holds_7 (by decide) (fun c_2 => ?_) (fun c_2 => ?_)
    · have h := ife_t c_2 h
      refine lv_ldc hx hb hown (hg _ kc_X7_83) dX7_holds_20 ?_
      exact W.iret (v := (-1000000002)) hx hb hr (fun t ht hW => ⟨⟨(-1000000002), M, rfl, ⟨Option.some.inj h, rfl⟩, by rw [ht]; exact hP, x_KnW hKn t hW⟩, hS.F ht⟩) hS.2.2 dX7_holds_22
    · have h := ife_f c_2 h
      refine lv_iload_n hx hb dX7_holds_10 rfl (lv_at hl 2 rfl) ?_
      refine lv_if_lt (tgt := 20) hx hb dX7_holds_11 (by decide) (fun c_3 => ?_) (fun c_3 => ?_)
      · have h := ife_t c_3 h
        refine lv_ldc hx hb hown (hg _ kc_X7_83) dX7_holds_20 ?_
        exact W.iret (v := (-1000000002)) hx hb hr (fun t ht hW => ⟨⟨(-1000000002), M, rfl, ⟨Option.some.inj h, rfl⟩, by rw [ht]; exact hP, x_KnW hKn t hW⟩, hS.F ht⟩) hS.2.2 dX7_holds_22
      · have h := ife_f c_3 h
        refine lv_iload_n hx hb dX7_holds_14 rfl (lv_at hl 2 rfl) ?_
        refine lv_bipush (v := 100) hx hb dX7_holds_15 (by decide) ?_
        refine lv_icmp_le (tgt := 23) hx hb dX7_holds_17 (by decide) (fun c_4 => ?_) (fun c_4 => ?_)
        · have h := ife_t c_4 h
          refine lv_ldc2 hx hb hown (hg _ kc_X7_242) dX7_holds_23 ?_
          refine lv_lstore_n (lv' := [(3, .long (1000000000)), (0, .ref (ad (0))), (1, .int (a1)), (2, .int (a2))]) hx hb dX7_holds_26 rfl hl (Nat.le_of_ble_eq_true rfl) rfl (fun ls hl => ?_)
          refine lv_iconst (v := 0) hx hb dX7_holds_27 (by decide) ?_
          refine lv_istore (lv' := [(5, .int (0)), (3, .long (1000000000)), (0, .ref (ad (0))), (1, .int (a1)), (2, .int (a2))]) hx hb dX7_holds_28 hl (Nat.le_of_ble_eq_true rfl) rfl (fun ls hl => ?_)
          obtain ⟨K30, eK30, h⟩ := exK (Lp := fun K => FX7_holds_L30 a1 a2 K fuelN 1000000000 0) h
          have hK30 : ∀ (k3_5 : Int64) (H : Heap) (locs : List Loc) (ls : Array Slot), va_P (dC, dI) vwCl (x_w kI ad M) H → va_S (x_A ad) s.heap H locs → lv_has ls 6 [(3, .long (k3_5))] → K30 k3_5 = some r0 → W p l e (headSpec (wsA yX7_holds cX7_holds 6 (some .int)) ({ frames := 0, cells := 0, slots := 0, locals := 0 } : Room)).room s m (([.ref (ad (0)), .int (a1), .int (a2)] : List Value).toArray) below meth c H locs 0 0 (MQ below (va_Qi (fun (r : Int32) (u : (Nat → Nat → Int32)) => r = r0 ∧ u = M) (gI (x_Wd dC dI kI ad) (x_Kn dC dI kI ad)) (x_A ad)) (([.ref (ad (0)), .int (a1), .int (a2)] : List Value).toArray) s 0 0 (x_A ad)) (F0 m 54 ls []) := by
            intro k3_5 H locs ls hP hS hl h
            have h := useK1 eK30 h
            refine lv_lload_n hx hb dX7_holds_54 rfl (lv_at hl 0 rfl) ?_
            refine lv_l2i (v := (Int64.toInt32 k3_5)) hx hb dX7_holds_55 rfl ?_
            exact W.iret (v := (Int64.toInt32 k3_5)) hx hb hr (fun t ht hW => ⟨⟨(Int64.toInt32 k3_5), M, rfl, ⟨Option.some.inj h, rfl⟩, by rw [ht]; exact hP, x_KnW hKn t hW⟩, hS.F ht⟩) hS.2.2 dX7_holds_56
          have hL30 : ∀ (k : Nat) (v3_6 : Int64) (v5_7 : Int32) (H : Heap) (locs : List Loc) (ls : Array Slot), va_P (dC, dI) vwCl (x_w kI ad M) H → va_S (x_A ad) s.heap H locs → lv_has ls 6 [(1, .int (a1)), (2, .int (a2)), (3, .long (v3_6)), (5, .int (v5_7))] → FX7_holds_L30 a1 a2 K30 k v3_6 v5_7 = some r0 → W p l e (headSpec (wsA yX7_holds cX7_holds 6 (some .int)) ({ frames := 0, cells := 0, slots := 0, locals := 0 } : Room)).room s m (([.ref (ad (0)), .int (a1), .int (a2)] : List Value).toArray) below meth c H locs 0 0 (MQ below (va_Qi (fun (r : Int32) (u : (Nat → Nat → Int32)) => r = r0 ∧ u = M) (gI (x_Wd dC dI kI ad) (x_Kn dC dI kI ad)) (x_A ad)) (([.ref (ad (0)), .int (a1), .int (a2)] : List Value).toArray) s 0 0 (x_A ad)) (F0 m 30 ls []) := by
            intro k
            induction k with
            | zero => intro v3_6 v5_7 H locs ls hP hS hl h; cases h
            | succ k ih30 =>
              intro v3_6 v5_7 H locs ls hP hS hl h
              unfold FX7_holds_L30 at h
              refine lv_iload hx hb dX7_holds_30 (lv_at hl 3 rfl) ?_
              refine lv_iload_n hx hb dX7_holds_32 rfl (lv_at hl 0 rfl) ?_
              refine lv_icmp_ge (tgt := 54) hx hb dX7_holds_33 (by decide) (fun c_8 => ?_) (fun c_8 => ?_)
              · have h := ife_t c_8 h
                exact hK30 v3_6 _ _ _ hP hS (lv_sub hl [2] rfl) h
              · have h := ife_f c_8 h
                refine lv_lload_n hx hb dX7_holds_36 rfl (lv_at hl 2 rfl) ?_
                refine lv_bipush (v := 100) hx hb dX7_holds_37 (by decide) ?_
                refine lv_iload_n hx hb dX7_holds_39 rfl (lv_at hl 1 rfl) ?_
                refine lv_isub hx hb dX7_holds_40 ?_
                refine lv_i2l (v := (((100 - a2)).toInt64)) hx hb dX7_holds_41 rfl ?_
                refine lv_lmul hx hb dX7_holds_42 ?_
                refine lv_ldc2 hx hb hown (hg _ kc_X7_244) dX7_holds_43 ?_
                refine lv_ldiv hx hb dX7_holds_46 (by decide) ?_
                refine lv_lstore_n (lv' := [(3, .long (((v3_6 * (((100 - a2)).toInt64)) / 100))), (1, .int (a1)), (2, .int (a2)), (5, .int (v5_7))]) hx hb dX7_holds_47 rfl hl (Nat.le_of_ble_eq_true rfl) rfl (fun ls hl => ?_)
                refine lv_iinc (v := (v5_7 + 1)) (lv' := [(5, .int ((v5_7 + 1))), (3, .long (((v3_6 * (((100 - a2)).toInt64)) / 100))), (1, .int (a1)), (2, .int (a2))]) hx hb dX7_holds_48 hl (k := 3) rfl rfl (Nat.le_of_ble_eq_true rfl) rfl (fun ls hl => ?_)
                refine lv_goto (tgt := 30) hx hb dX7_holds_51 (by decide) ?_
                exact ih30 ((v3_6 * (((100 - a2)).toInt64)) / 100) (v5_7 + 1) _ _ _ hP hS (lv_sub hl [2, 3, 1, 0] rfl) h
          exact hL30 fuelN 1000000000 0 _ _ _ hP hS (lv_sub hl [3, 4, 1, 0] rfl) h
        · have h := ife_f c_4 h
          refine lv_ldc hx hb hown (hg _ kc_X7_83) dX7_holds_20 ?_
          exact W.iret (v := (-1000000002)) hx hb hr (fun t ht hW => ⟨⟨(-1000000002), M, rfl, ⟨Option.some.inj h, rfl⟩, by rw [ht]; exact hP, x_KnW hKn t hW⟩, hS.F ht⟩) hS.2.2 dX7_holds_22
noncomputable def FX7_judge  (M : (Nat → Nat → Int32)) : Option Int32 :=
  bo (FX0_firstOtherwise 36 17 M) (fun (r_1 : Int32) => some r_1)
set_option maxHeartbeats 4000000 in
set_option maxRecDepth 100000 in
theorem tX7_judge (l : Launch) (dC : Nat → ClassId) (dI : Nat → Nat → Nat) (kI : ClassId) (ad : Nat → Nat)  (M : (Nat → Nat → Int32))  {r0 : Int32} (h : FX7_judge  M = some r0) : Met l yX7_judge (wsA yX7_judge cX7_judge 1 (some .int)) ({ frames := 2, cells := 0, slots := 0, locals := 43 } : Room) (va_Pc [.ref (ad (0))] (gI (x_Wd dC dI kI ad) (x_Kn dC dI kI ad) M)) (va_Qi (fun (r : Int32) (u : (Nat → Nat → Int32)) => r = r0 ∧ u = M) (gI (x_Wd dC dI kI ad) (x_Kn dC dI kI ad)) (x_A ad)) 0 0 (x_A ad) := by
  refine Met.ofW (cc := cX7_judge) (maxL := 1) (ret := (some .int)) (by decide) rfl ?_
  intro p e s m args below meth c s₁ B hml hv
  obtain ⟨rfl, hP, hKn⟩ := hv
  have hx := B.exec
  have hb := B.bytes
  have hr := B.returns
  have hts := atoms_spec (ws := wsA yX7_judge cX7_judge 1 (some .int)) B.pre
  have hg : ∀ w ∈ lw_good, w.before _ s = true := fun w h => hts w (List.mem_cons_of_mem _ h)
  have hown : s.vm.findClass RX7 = some m.cls := findClass_of_methodNamed B.named
  have hlocks := B.notSynchronized
  have hS : va_S (x_A ad) s.heap s.heap [] := va_S.rf
  have hFx : gFix p c cX7_judge 1 s m _ RX7 := ⟨hx, hb, hml, hown, hg⟩
  have hP : va_P (dC, dI) vwCl (x_w kI ad M) s.heap := hP
  have hl := lv_entry ([.ref (ad (0))]) (n := 1) (Nat.le_of_ble_eq_true rfl)
  rw [lg_entry_eq]
  generalize (lg_sl ([.ref (ad (0))]) ++ List.replicate (1 - (lg_sl ([.ref (ad (0))])).length) Slot.unset).toArray = ls at hl ⊢
  have hl : lv_has ls 1 [(0, .ref (ad (0)))] := hl
  unfold FX7_judge at h
  refine lv_aload_n hx hb dX7_judge_0 rfl (lv_at hl 0 rfl) ?_
  refine va_get (D := (dC, dI)) (ci := 7) (v := .ref (ad (36))) (C := RX7) (T := TX7) (N := 14) hx hb hg inX7 hown hKn.1 hP (0) (x_at7 (c := 0) (by decide)) rfl 13 (Nat.le_of_ble_eq_true rfl) (hg _ lkF_X7_80) (fun _ h9 => h9) rfl dX7_judge_1 ?_
  refine lv_aload_n hx hb dX7_judge_4 rfl (lv_at hl 0 rfl) ?_
  refine va_get (D := (dC, dI)) (ci := 7) (v := .ref (ad (17))) (C := RX7) (T := TX7) (N := 14) hx hb hg inX7 hown hKn.1 hP (0) (x_at7 (c := 0) (by decide)) rfl 3 (Nat.le_of_ble_eq_true rfl) (hg _ lkF_X7_29) (fun _ h9 => h9) rfl dX7_judge_5 ?_
  obtain ⟨r_1, e8, h⟩ := bo_use h
  refine gc_i (va_runVN (As := [.ref (ad (17))]) (rest := []) hFx (tX0_firstOtherwise l dC dI kI ad 36 17 M (by decide) (by decide) e8) ⟨(gc_N hFx hKn.2.2 ck_yX0_firstOtherwise nkM_X7_257 ⟨Nat.le_of_ble_eq_true rfl, Nat.le_of_ble_eq_true rfl⟩ rfl rfl), hg _ vi_yX0_firstOtherwise, hg _ vs_yX0_firstOtherwise⟩ (gp_V x_KnB (x_KnW hKn) hP (x_rc0 (c := 36) (by decide) hKn hP)) rfl rfl hl.1 rfl (lv_room (Nat.le_of_ble_eq_true rfl)) dX7_judge_8 ⟨Nat.zero_le _, Nat.zero_le _⟩) hS (fun H locs hP hS => ?_)
  have hP : va_P (dC, dI) vwCl (x_w kI ad M) H := hP
  exact W.iret (v := r_1) hx hb hr (fun t ht hW => ⟨⟨r_1, M, rfl, ⟨Option.some.inj h, rfl⟩, by rw [ht]; exact hP, x_KnW hKn t hW⟩, hS.F ht⟩) hS.2.2 dX7_judge_11
noncomputable def FX7_keep (a1 : Int32) (M : (Nat → Nat → Int32)) : Option (Int32 × (Nat → Nat → Int32)) :=
  (if a1 < 0 then some ((-1000000001), M) else (if a1 < 2 then bo (FX6_store 30 a1 17 M) (fun (M_3 : (Nat → Nat → Int32)) => bo (FX7_put 32 a1 (M_3 0 11) M_3) (fun (M_4 : (Nat → Nat → Int32)) => bo (FX4_clear  (upd2 M_4 0 10 ((M_4 0 10) ||| (1 <<< (a1 &&& 31))))) (fun (M_5 : (Nat → Nat → Int32)) => some (1, M_5)))) else some ((-1000000001), M)))
set_option maxHeartbeats 4000000 in
set_option maxRecDepth 100000 in
theorem tX7_keep (l : Launch) (dC : Nat → ClassId) (dI : Nat → Nat → Nat) (kI : ClassId) (ad : Nat → Nat) (a1 : Int32) (M : (Nat → Nat → Int32))  {r0 : Int32} {M0 : (Nat → Nat → Int32)} (h : FX7_keep a1 M = some (r0, M0)) : Met l yX7_keep (wsA yX7_keep cX7_keep 2 (some .int)) ({ frames := 2, cells := 0, slots := 0, locals := 46 } : Room) (va_Pc [.ref (ad (0)), .int (a1)] (gI (x_Wd dC dI kI ad) (x_Kn dC dI kI ad) M)) (va_Qi (fun (r : Int32) (u : (Nat → Nat → Int32)) => r = r0 ∧ u = M0) (gI (x_Wd dC dI kI ad) (x_Kn dC dI kI ad)) (x_A ad)) 0 0 (x_A ad) := by
  refine Met.ofW (cc := cX7_keep) (maxL := 2) (ret := (some .int)) (by decide) rfl ?_
  intro p e s m args below meth c s₁ B hml hv
  obtain ⟨rfl, hP, hKn⟩ := hv
  have hx := B.exec
  have hb := B.bytes
  have hr := B.returns
  have hts := atoms_spec (ws := wsA yX7_keep cX7_keep 2 (some .int)) B.pre
  have hg : ∀ w ∈ lw_good, w.before _ s = true := fun w h => hts w (List.mem_cons_of_mem _ h)
  have hown : s.vm.findClass RX7 = some m.cls := findClass_of_methodNamed B.named
  have hlocks := B.notSynchronized
  have hS : va_S (x_A ad) s.heap s.heap [] := va_S.rf
  have hFx : gFix p c cX7_keep 2 s m _ RX7 := ⟨hx, hb, hml, hown, hg⟩
  have hP : va_P (dC, dI) vwCl (x_w kI ad M) s.heap := hP
  have hl := lv_entry ([.ref (ad (0)), .int (a1)]) (n := 2) (Nat.le_of_ble_eq_true rfl)
  rw [lg_entry_eq]
  generalize (lg_sl ([.ref (ad (0)), .int (a1)]) ++ List.replicate (2 - (lg_sl ([.ref (ad (0)), .int (a1)])).length) Slot.unset).toArray = ls at hl ⊢
  have hl : lv_has ls 2 [(0, .ref (ad (0))), (1, .int (a1))] := hl
  unfold FX7_keep at h
  refine lv_iload_n hx hb dX7_keep_0 rfl (lv_at hl 1 rfl) ?_
  refine lv_if_lt (tgt := 9) hx hb dX7_keep_1 (by decide) (fun c_1 => ?_) (fun c_1 => ?_)
  · have h := ife_t c_1 h
    refine lv_ldc hx hb hown (hg _ kc_X7_149) dX7_keep_9 ?_
    exact W.iret (v := (-1000000001)) hx hb hr (fun t ht hW => ⟨⟨(-1000000001), M, rfl, Prod.mk.inj (Option.some.inj h), by rw [ht]; exact hP, x_KnW hKn t hW⟩, hS.F ht⟩) hS.2.2 dX7_keep_11
  · have h := ife_f c_1 h
    refine lv_iload_n hx hb dX7_keep_4 rfl (lv_at hl 1 rfl) ?_
    refine lv_iconst (v := 2) hx hb dX7_keep_5 (by decide) ?_
    refine lv_icmp_lt (tgt := 12) hx hb dX7_keep_6 (by decide) (fun c_2 => ?_) (fun c_2 => ?_)
    · have h := ife_t c_2 h
      refine lv_aload_n hx hb dX7_keep_12 rfl (lv_at hl 0 rfl) ?_
      refine va_get (D := (dC, dI)) (ci := 7) (v := .ref (ad (30))) (C := RX7) (T := TX7) (N := 14) hx hb hg inX7 hown hKn.1 hP (0) (x_at7 (c := 0) (by decide)) rfl 8 (Nat.le_of_ble_eq_true rfl) (hg _ lkF_X7_58) (fun _ h9 => h9) rfl dX7_keep_13 ?_
      refine lv_iload_n hx hb dX7_keep_16 rfl (lv_at hl 1 rfl) ?_
      refine lv_aload_n hx hb dX7_keep_17 rfl (lv_at hl 0 rfl) ?_
      refine va_get (D := (dC, dI)) (ci := 7) (v := .ref (ad (17))) (C := RX7) (T := TX7) (N := 14) hx hb hg inX7 hown hKn.1 hP (0) (x_at7 (c := 0) (by decide)) rfl 3 (Nat.le_of_ble_eq_true rfl) (hg _ lkF_X7_29) (fun _ h9 => h9) rfl dX7_keep_18 ?_
      obtain ⟨M_3, e21, h⟩ := bo_use h
      refine gc_v (va_runVN (As := [.int (a1), .ref (ad (17))]) (rest := []) hFx (tX6_store l dC dI kI ad 30 a1 17 M (by decide) (by decide) e21) ⟨(gc_N hFx hKn.2.2 ck_yX6_store nkM_X7_261 ⟨Nat.le_of_ble_eq_true rfl, Nat.le_of_ble_eq_true rfl⟩ rfl rfl), hg _ vi_yX6_store, hg _ vs_yX6_store⟩ (gp_V x_KnB (x_KnW hKn) hP (x_rc6 (c := 30) (by decide) hKn hP)) rfl rfl hl.1 rfl (lv_room (Nat.le_of_ble_eq_true rfl)) dX7_keep_21 ⟨Nat.zero_le _, Nat.zero_le _⟩) hS (fun H locs hP hS => ?_)
      have hP : va_P (dC, dI) vwCl (x_w kI ad M_3) H := hP
      refine lv_aload_n hx hb dX7_keep_24 rfl (lv_at hl 0 rfl) ?_
      refine va_get (D := (dC, dI)) (ci := 7) (v := .ref (ad (32))) (C := RX7) (T := TX7) (N := 14) hx hb hg inX7 hown hKn.1 hP (0) (x_at7 (c := 0) (by decide)) rfl 9 (Nat.le_of_ble_eq_true rfl) (hg _ lkF_X7_62) (fun _ h9 => h9) rfl dX7_keep_25 ?_
      refine lv_iload_n hx hb dX7_keep_28 rfl (lv_at hl 1 rfl) ?_
      refine lv_aload_n hx hb dX7_keep_29 rfl (lv_at hl 0 rfl) ?_
      refine va_get (D := (dC, dI)) (ci := 7) (v := .int ((M_3 0 11))) (C := RX7) (T := TX7) (N := 14) hx hb hg inX7 hown hKn.1 hP (0) (x_at7 (c := 0) (by decide)) rfl 11 (Nat.le_of_ble_eq_true rfl) (hg _ lkF_X7_70) (fun _ h9 => h9) rfl dX7_keep_30 ?_
      obtain ⟨M_4, e33, h⟩ := bo_use h
      refine gc_v (va_runS (As := [.ref (ad (32)), .int (a1), .int ((M_3 0 11))]) (rest := []) hFx (tX7_put l dC dI kI ad 32 a1 (M_3 0 11) M_3 (by decide) e33) ⟨(gc_B hFx ck_yX7_put lkM_X7_198 ⟨Nat.le_of_ble_eq_true rfl, Nat.le_of_ble_eq_true rfl⟩ rfl rfl), hg _ st_yX7_put⟩ (gp_S x_KnB (x_KnW hKn) hP) rfl rfl hl.1 rfl (lv_room (Nat.le_of_ble_eq_true rfl)) dX7_keep_33 ⟨Nat.zero_le _, Nat.zero_le _⟩) hS (fun H locs hP hS => ?_)
      have hP : va_P (dC, dI) vwCl (x_w kI ad M_4) H := hP
      refine lv_aload_n hx hb dX7_keep_36 rfl (lv_at hl 0 rfl) ?_
      refine lv_dup hx hb dX7_keep_37 rfl ?_
      refine va_get (D := (dC, dI)) (ci := 7) (v := .int ((M_4 0 10))) (C := RX7) (T := TX7) (N := 14) hx hb hg inX7 hown hKn.1 hP (0) (x_at7 (c := 0) (by decide)) rfl 10 (Nat.le_of_ble_eq_true rfl) (hg _ lkF_X7_66) (fun _ h9 => h9) rfl dX7_keep_38 ?_
      refine lv_iconst (v := 1) hx hb dX7_keep_41 (by decide) ?_
      refine lv_iload_n hx hb dX7_keep_42 rfl (lv_at hl 1 rfl) ?_
      refine lv_ishl hx hb dX7_keep_43 ?_
      refine lv_ior hx hb dX7_keep_44 ?_
      refine va_put (D := (dC, dI)) (ci := 7) (v := .int (((M_4 0 10) ||| (1 <<< (a1 &&& 31))))) (ty := .int) (C := RX7) (T := TX7) (N := 14) hx hb hg inX7 tyX7 tyX7_ok nmX7 hown hKn.1 hP (x_D hKn.2.1) hS (0) (x_at7 (c := 0) (by decide)) rfl 10 (Nat.le_of_ble_eq_true rfl) (hg _ lkF_X7_66) (fun _ h9 => h9) rfl (by decide +kernel) rfl rfl (Nat.le_of_ble_eq_true rfl) dX7_keep_45 (fun H locs hP _ hS => ?_)
      have hP : va_P (dC, dI) vwCl (x_w kI ad (upd2 M_4 0 10 ((M_4 0 10) ||| (1 <<< (a1 &&& 31))))) H := vp_eq (x_put7_10 (by decide) _) hP
      refine lv_aload_n hx hb dX7_keep_48 rfl (lv_at hl 0 rfl) ?_
      refine va_get (D := (dC, dI)) (ci := 7) (v := .ref (ad (27))) (C := RX7) (T := TX7) (N := 14) hx hb hg inX7 hown hKn.1 hP (0) (x_at7 (c := 0) (by decide)) rfl 7 (Nat.le_of_ble_eq_true rfl) (hg _ lkF_X7_49) (fun _ h9 => h9) rfl dX7_keep_49 ?_
      obtain ⟨M_5, e52, h⟩ := bo_use h
      refine gc_v (va_runVN (As := []) (rest := []) hFx (tX4_clear l dC dI kI ad  (upd2 M_4 0 10 ((M_4 0 10) ||| (1 <<< (a1 &&& 31))))  e52) ⟨(gc_N hFx hKn.2.2 ck_yX4_clear nkM_X7_103 ⟨Nat.le_of_ble_eq_true rfl, Nat.le_of_ble_eq_true rfl⟩ rfl rfl), hg _ vi_yX4_clear, hg _ vs_yX4_clear⟩ (gp_V x_KnB (x_KnW hKn) hP (x_rc4 (c := 27) (by decide) hKn hP)) rfl rfl hl.1 rfl (lv_room (Nat.le_of_ble_eq_true rfl)) dX7_keep_52 ⟨Nat.zero_le _, Nat.zero_le _⟩) hS (fun H locs hP hS => ?_)
      have hP : va_P (dC, dI) vwCl (x_w kI ad M_5) H := hP
      refine lv_iconst (v := 1) hx hb dX7_keep_55 (by decide) ?_
      exact W.iret (v := 1) hx hb hr (fun t ht hW => ⟨⟨1, M_5, rfl, Prod.mk.inj (Option.some.inj h), by rw [ht]; exact hP, x_KnW hKn t hW⟩, hS.F ht⟩) hS.2.2 dX7_keep_56
    · have h := ife_f c_2 h
      refine lv_ldc hx hb hown (hg _ kc_X7_149) dX7_keep_9 ?_
      exact W.iret (v := (-1000000001)) hx hb hr (fun t ht hW => ⟨⟨(-1000000001), M, rfl, Prod.mk.inj (Option.some.inj h), by rw [ht]; exact hP, x_KnW hKn t hW⟩, hS.F ht⟩) hS.2.2 dX7_keep_11
noncomputable def FX7_least_L34 (b1 : Int32) (b2 : Int32) (K : Int32 → Int32 → (Nat → Nat → Int32) → Option (Int32 × (Nat → Nat → Int32))) (k : Nat) (v3_9 : Int32) (v4_10 : Int32) (v5_11 : Int32) (M_12 : (Nat → Nat → Int32)) : Option (Int32 × (Nat → Nat → Int32)) := match k with
  | 0 => none
  | k + 1 => (if (1 <<< ((M_12 3 2) &&& 31)) ≤ v5_11 then K v3_9 v4_10 M_12 else bo (FX1_costOf 3 (v5_11 &&& ((M_12 17 2) ^^^ (-1))) M_12) (fun (r_14 : Int32) => jn (fun (s_15 : Int32) => jn (fun (j3_16 : Int32) (j4_17 : Int32) (M_18 : (Nat → Nat → Int32)) => FX7_least_L34 b1 b2 K k j3_16 j4_17 (v5_11 + 1) M_18) (fun J138 => (if s_15 = 0 then J138 v3_9 v4_10 M_12 else bo (FX1_fits 3 v5_11 M_12) (fun (r_20 : Int32) => (if r_20 = 0 then J138 v3_9 v4_10 M_12 else bd (FX7_convincesOf v5_11 b1 M_12) (fun (r_22 : Int32) (M_23 : (Nat → Nat → Int32)) => (if r_22 = 0 then J138 v3_9 v4_10 M_23 else J138 r_14 (v5_11 &&& ((M_12 17 2) ^^^ (-1))) M_23))))))) (fun J102 => jn (J102 1) (fun J97 => (if v3_9 = (-1) then J97 else (if r_14 < v3_9 then J97 else jn (J102 0) (fun J101 => (if r_14 = v3_9 then (if v4_10 ≤ (v5_11 &&& ((M_12 17 2) ^^^ (-1))) then J101 else J97) else J101))))))))
noncomputable def FX7_least (a1 : Int32) (a2 : Int32) (M : (Nat → Nat → Int32)) : Option (Int32 × (Nat → Nat → Int32)) :=
  bo (FX1_hasOpinion 3 a1 M) (fun (r_1 : Int32) => (if r_1 = 0 then some ((-1000000001), M) else (if a2 < 0 then some ((-1000000002), M) else (if a2 ≤ 1 then FX7_least_L34 a1 a2 (fun (k3_5 : Int32) (k4_6 : Int32) (M_7 : (Nat → Nat → Int32)) => (if a2 = 0 then some (k3_5, M_7) else some (k4_6, M_7))) fuelN (-1) (-1) 0 M else some ((-1000000002), M)))))
set_option maxHeartbeats 4000000 in
set_option maxRecDepth 100000 in
theorem tX7_least (l : Launch) (dC : Nat → ClassId) (dI : Nat → Nat → Nat) (kI : ClassId) (ad : Nat → Nat) (a1 : Int32) (a2 : Int32) (M : (Nat → Nat → Int32))  {r0 : Int32} {M0 : (Nat → Nat → Int32)} (h : FX7_least a1 a2 M = some (r0, M0)) : Met l yX7_least (wsA yX7_least cX7_least 9 (some .int)) ({ frames := 4, cells := 0, slots := 0, locals := 94 } : Room) (va_Pc [.ref (ad (0)), .int (a1), .int (a2)] (gI (x_Wd dC dI kI ad) (x_Kn dC dI kI ad) M)) (va_Qi (fun (r : Int32) (u : (Nat → Nat → Int32)) => r = r0 ∧ u = M0) (gI (x_Wd dC dI kI ad) (x_Kn dC dI kI ad)) (x_A ad)) 0 0 (x_A ad) := by
  refine Met.ofW (cc := cX7_least) (maxL := 9) (ret := (some .int)) (by decide) rfl ?_
  intro p e s m args below meth c s₁ B hml hv
  obtain ⟨rfl, hP, hKn⟩ := hv
  have hx := B.exec
  have hb := B.bytes
  have hr := B.returns
  have hts := atoms_spec (ws := wsA yX7_least cX7_least 9 (some .int)) B.pre
  have hg : ∀ w ∈ lw_good, w.before _ s = true := fun w h => hts w (List.mem_cons_of_mem _ h)
  have hown : s.vm.findClass RX7 = some m.cls := findClass_of_methodNamed B.named
  have hlocks := B.notSynchronized
  have hS : va_S (x_A ad) s.heap s.heap [] := va_S.rf
  have hFx : gFix p c cX7_least 9 s m _ RX7 := ⟨hx, hb, hml, hown, hg⟩
  have hP : va_P (dC, dI) vwCl (x_w kI ad M) s.heap := hP
  have hl := lv_entry ([.ref (ad (0)), .int (a1), .int (a2)]) (n := 9) (Nat.le_of_ble_eq_true rfl)
  rw [lg_entry_eq]
  generalize (lg_sl ([.ref (ad (0)), .int (a1), .int (a2)]) ++ List.replicate (9 - (lg_sl ([.ref (ad (0)), .int (a1), .int (a2)])).length) Slot.unset).toArray = ls at hl ⊢
  have hl : lv_has ls 9 [(0, .ref (ad (0))), (1, .int (a1)), (2, .int (a2))] := hl
  unfold FX7_least at h
  refine lv_aload_n hx hb dX7_least_0 rfl (lv_at hl 0 rfl) ?_
  refine va_get (D := (dC, dI)) (ci := 7) (v := .ref (ad (3))) (C := RX7) (T := TX7) (N := 14) hx hb hg inX7 hown hKn.1 hP (0) (x_at7 (c := 0) (by decide)) rfl 1 (Nat.le_of_ble_eq_true rfl) (hg _ lkF_X7_19) (fun _ h9 => h9) rfl dX7_least_1 ?_
  refine lv_iload_n hx hb dX7_least_4 rfl (lv_at hl 1 rfl) ?_
  obtain ⟨r_1, e5, h⟩ := bo_use h
  refine gc_i (va_runVN (As := [.int (a1)]) (rest := []) hFx (tX1_hasOpinion l dC dI kI ad 3 a1 M (by decide) e5) ⟨(gc_N hFx hKn.2.2 ck_yX1_hasOpinion nkM_X7_139 ⟨Nat.le_of_ble_eq_true rfl, Nat.le_of_ble_eq_true rfl⟩ rfl rfl), hg _ vi_yX1_hasOpinion, hg _ vs_yX1_hasOpinion⟩ (gp_V x_KnB (x_KnW hKn) hP (x_rc1 (c := 3) (by decide) hKn hP)) rfl rfl hl.1 rfl (lv_room (Nat.le_of_ble_eq_true rfl)) dX7_least_5 ⟨Nat.zero_le _, Nat.zero_le _⟩) hS (fun H locs hP hS => ?_)
  have hP : va_P (dC, dI) vwCl (x_w kI ad M) H := hP
  refine lv_if_ne (tgt := 14) hx hb dX7_least_8 (by decide) (fun c_2 => ?_) (fun c_2 => ?_)
  · have h := ife_f c_2 h
    refine lv_iload_n hx hb dX7_least_14 rfl (lv_at hl 2 rfl) ?_
    refine lv_if_lt (tgt := 23) hx hb dX7_least_15 (by decide) (fun c_3 => ?_) (fun c_3 => ?_)
    · have h := ife_t c_3 h
      refine lv_ldc hx hb hown (hg _ kc_X7_83) dX7_least_23 ?_
      exact W.iret (v := (-1000000002)) hx hb hr (fun t ht hW => ⟨⟨(-1000000002), M, rfl, Prod.mk.inj (Option.some.inj h), by rw [ht]; exact hP, x_KnW hKn t hW⟩, hS.F ht⟩) hS.2.2 dX7_least_25
    · have h := ife_f c_3 h
      refine lv_iload_n hx hb dX7_least_18 rfl (lv_at hl 2 rfl) ?_
      refine lv_iconst (v := 1) hx hb dX7_least_19 (by decide) ?_
      refine lv_icmp_le (tgt := 26) hx hb dX7_least_20 (by decide) (fun c_4 => ?_) (fun c_4 => ?_)
      · have h := ife_t c_4 h
        refine lv_iconst (v := -1) hx hb dX7_least_26 (by decide) ?_
        refine lv_istore_n (lv' := [(3, .int ((-1))), (0, .ref (ad (0))), (1, .int (a1)), (2, .int (a2))]) hx hb dX7_least_27 rfl hl (Nat.le_of_ble_eq_true rfl) rfl (fun ls hl => ?_)
        refine lv_iconst (v := -1) hx hb dX7_least_28 (by decide) ?_
        refine lv_istore (lv' := [(4, .int ((-1))), (3, .int ((-1))), (0, .ref (ad (0))), (1, .int (a1)), (2, .int (a2))]) hx hb dX7_least_29 hl (Nat.le_of_ble_eq_true rfl) rfl (fun ls hl => ?_)
        refine lv_iconst (v := 0) hx hb dX7_least_31 (by decide) ?_
        refine lv_istore (lv' := [(5, .int (0)), (4, .int ((-1))), (3, .int ((-1))), (0, .ref (ad (0))), (1, .int (a1)), (2, .int (a2))]) hx hb dX7_least_32 hl (Nat.le_of_ble_eq_true rfl) rfl (fun ls hl => ?_)
        obtain ⟨K34, eK34, h⟩ := exK (Lp := fun K => FX7_least_L34 a1 a2 K fuelN (-1) (-1) 0 M) h
        have hK34 : ∀ (k3_5 : Int32) (k4_6 : Int32) (M_7 : (Nat → Nat → Int32)) (H : Heap) (locs : List Loc) (ls : Array Slot), va_P (dC, dI) vwCl (x_w kI ad M_7) H → va_S (x_A ad) s.heap H locs → lv_has ls 9 [(2, .int (a2)), (3, .int (k3_5)), (4, .int (k4_6))] → K34 k3_5 k4_6 M_7 = some (r0, M0) → W p l e (headSpec (wsA yX7_least cX7_least 9 (some .int)) ({ frames := 4, cells := 0, slots := 0, locals := 94 } : Room)).room s m (([.ref (ad (0)), .int (a1), .int (a2)] : List Value).toArray) below meth c H locs 0 0 (MQ below (va_Qi (fun (r : Int32) (u : (Nat → Nat → Int32)) => r = r0 ∧ u = M0) (gI (x_Wd dC dI kI ad) (x_Kn dC dI kI ad)) (x_A ad)) (([.ref (ad (0)), .int (a1), .int (a2)] : List Value).toArray) s 0 0 (x_A ad)) (F0 m 144 ls []) := by
          intro k3_5 k4_6 M_7 H locs ls hP hS hl h
          have h := useK3 eK34 h
          refine lv_iload_n hx hb dX7_least_144 rfl (lv_at hl 0 rfl) ?_
          refine lv_if_ne (tgt := 152) hx hb dX7_least_145 (by decide) (fun c_8 => ?_) (fun c_8 => ?_)
          · have h := ife_f c_8 h
            refine lv_iload hx hb dX7_least_152 (lv_at hl 2 rfl) ?_
            exact W.iret (v := k4_6) hx hb hr (fun t ht hW => ⟨⟨k4_6, M_7, rfl, Prod.mk.inj (Option.some.inj h), by rw [ht]; exact hP, x_KnW hKn t hW⟩, hS.F ht⟩) hS.2.2 dX7_least_154
          · have h := ife_t c_8 h
            refine lv_iload_n hx hb dX7_least_148 rfl (lv_at hl 1 rfl) ?_
            refine lv_goto (tgt := 154) hx hb dX7_least_149 (by decide) ?_
            exact W.iret (v := k3_5) hx hb hr (fun t ht hW => ⟨⟨k3_5, M_7, rfl, Prod.mk.inj (Option.some.inj h), by rw [ht]; exact hP, x_KnW hKn t hW⟩, hS.F ht⟩) hS.2.2 dX7_least_154
        have hL34 : ∀ (k : Nat) (v3_9 : Int32) (v4_10 : Int32) (v5_11 : Int32) (M_12 : (Nat → Nat → Int32)) (H : Heap) (locs : List Loc) (ls : Array Slot), va_P (dC, dI) vwCl (x_w kI ad M_12) H → va_S (x_A ad) s.heap H locs → lv_has ls 9 [(0, .ref (ad (0))), (1, .int (a1)), (2, .int (a2)), (3, .int (v3_9)), (4, .int (v4_10)), (5, .int (v5_11))] → FX7_least_L34 a1 a2 K34 k v3_9 v4_10 v5_11 M_12 = some (r0, M0) → W p l e (headSpec (wsA yX7_least cX7_least 9 (some .int)) ({ frames := 4, cells := 0, slots := 0, locals := 94 } : Room)).room s m (([.ref (ad (0)), .int (a1), .int (a2)] : List Value).toArray) below meth c H locs 0 0 (MQ below (va_Qi (fun (r : Int32) (u : (Nat → Nat → Int32)) => r = r0 ∧ u = M0) (gI (x_Wd dC dI kI ad) (x_Kn dC dI kI ad)) (x_A ad)) (([.ref (ad (0)), .int (a1), .int (a2)] : List Value).toArray) s 0 0 (x_A ad)) (F0 m 34 ls []) := by
          intro k
          induction k with
          | zero => intro v3_9 v4_10 v5_11 M_12 H locs ls hP hS hl h; cases h
          | succ k ih34 =>
            intro v3_9 v4_10 v5_11 M_12 H locs ls hP hS hl h
            unfold FX7_least_L34 at h
            refine lv_iload hx hb dX7_least_34 (lv_at hl 5 rfl) ?_
            refine lv_iconst (v := 1) hx hb dX7_least_36 (by decide) ?_
            refine lv_aload_n hx hb dX7_least_37 rfl (lv_at hl 0 rfl) ?_
            refine va_get (D := (dC, dI)) (ci := 7) (v := .ref (ad (3))) (C := RX7) (T := TX7) (N := 14) hx hb hg inX7 hown hKn.1 hP (0) (x_at7 (c := 0) (by decide)) rfl 1 (Nat.le_of_ble_eq_true rfl) (hg _ lkF_X7_19) (fun _ h9 => h9) rfl dX7_least_38 ?_
            refine va_getN (D := (dC, dI)) (ci := 1) (v := .int ((M_12 3 2))) (C := RX1) (T := TX1) (N := 10) hx hb hg inX1 hown hKn.1 hP (3) (x_at1 (c := 3) (by decide)) rfl 2 (Nat.le_of_ble_eq_true rfl) (nest_use hKn.2.2 nkF_X7_107) (fun _ h9 => h9) rfl dX7_least_41 ?_
            refine lv_ishl hx hb dX7_least_44 ?_
            refine lv_icmp_ge (tgt := 144) hx hb dX7_least_45 (by decide) (fun c_13 => ?_) (fun c_13 => ?_)
            · have h := ife_t c_13 h
              exact hK34 v3_9 v4_10 M_12 _ _ _ hP hS (lv_sub hl [2, 3, 4] rfl) h
            · have h := ife_f c_13 h
              refine lv_iload hx hb dX7_least_48 (lv_at hl 5 rfl) ?_
              refine lv_aload_n hx hb dX7_least_50 rfl (lv_at hl 0 rfl) ?_
              refine va_get (D := (dC, dI)) (ci := 7) (v := .ref (ad (17))) (C := RX7) (T := TX7) (N := 14) hx hb hg inX7 hown hKn.1 hP (0) (x_at7 (c := 0) (by decide)) rfl 3 (Nat.le_of_ble_eq_true rfl) (hg _ lkF_X7_29) (fun _ h9 => h9) rfl dX7_least_51 ?_
              refine va_getN (D := (dC, dI)) (ci := 3) (v := .int ((M_12 17 2))) (C := RX3) (T := TX3) (N := 6) hx hb hg inX3 hown hKn.1 hP (17) (x_at3 (c := 17) (by decide)) rfl 2 (Nat.le_of_ble_eq_true rfl) (nest_use hKn.2.2 nkF_X7_131) (fun _ h9 => h9) rfl dX7_least_54 ?_
              refine lv_iconst (v := -1) hx hb dX7_least_57 (by decide) ?_
              refine lv_ixor hx hb dX7_least_58 ?_
              refine lv_iand hx hb dX7_least_59 ?_
              refine lv_istore (lv' := [(6, .int ((v5_11 &&& ((M_12 17 2) ^^^ (-1))))), (0, .ref (ad (0))), (1, .int (a1)), (2, .int (a2)), (3, .int (v3_9)), (4, .int (v4_10)), (5, .int (v5_11))]) hx hb dX7_least_60 hl (Nat.le_of_ble_eq_true rfl) rfl (fun ls hl => ?_)
              refine lv_aload_n hx hb dX7_least_62 rfl (lv_at hl 1 rfl) ?_
              refine va_get (D := (dC, dI)) (ci := 7) (v := .ref (ad (3))) (C := RX7) (T := TX7) (N := 14) hx hb hg inX7 hown hKn.1 hP (0) (x_at7 (c := 0) (by decide)) rfl 1 (Nat.le_of_ble_eq_true rfl) (hg _ lkF_X7_19) (fun _ h9 => h9) rfl dX7_least_63 ?_
              refine lv_iload hx hb dX7_least_66 (lv_at hl 0 rfl) ?_
              obtain ⟨r_14, e68, h⟩ := bo_use h
              refine gc_i (va_runVN (As := [.int ((v5_11 &&& ((M_12 17 2) ^^^ (-1))))]) (rest := []) hFx (tX1_costOf l dC dI kI ad 3 (v5_11 &&& ((M_12 17 2) ^^^ (-1))) M_12 (by decide) e68) ⟨(gc_N hFx hKn.2.2 ck_yX1_costOf nkM_X7_229 ⟨Nat.le_of_ble_eq_true rfl, Nat.le_of_ble_eq_true rfl⟩ rfl rfl), hg _ vi_yX1_costOf, hg _ vs_yX1_costOf⟩ (gp_V x_KnB (x_KnW hKn) hP (x_rc1 (c := 3) (by decide) hKn hP)) rfl rfl hl.1 rfl (lv_room (Nat.le_of_ble_eq_true rfl)) dX7_least_68 ⟨Nat.zero_le _, Nat.zero_le _⟩) hS (fun H locs hP hS => ?_)
              have hP : va_P (dC, dI) vwCl (x_w kI ad M_12) H := hP
              refine lv_istore (lv' := [(7, .int (r_14)), (6, .int ((v5_11 &&& ((M_12 17 2) ^^^ (-1))))), (0, .ref (ad (0))), (1, .int (a1)), (2, .int (a2)), (3, .int (v3_9)), (4, .int (v4_10)), (5, .int (v5_11))]) hx hb dX7_least_71 hl (Nat.le_of_ble_eq_true rfl) rfl (fun ls hl => ?_)
              refine lv_iload_n hx hb dX7_least_73 rfl (lv_at hl 5 rfl) ?_
              refine lv_iconst (v := -1) hx hb dX7_least_74 (by decide) ?_
              obtain ⟨J102, eJ102, h⟩ := jn_use h
              have hJ102 : ∀ (s_15 : Int32) (H : Heap) (locs : List Loc) (ls : Array Slot), va_P (dC, dI) vwCl (x_w kI ad M_12) H → va_S (x_A ad) s.heap H locs → lv_has ls 9 [(7, .int (r_14)), (6, .int ((v5_11 &&& ((M_12 17 2) ^^^ (-1))))), (0, .ref (ad (0))), (1, .int (a1)), (2, .int (a2)), (3, .int (v3_9)), (4, .int (v4_10)), (5, .int (v5_11))] → J102 s_15 = some (r0, M0) → W p l e (headSpec (wsA yX7_least cX7_least 9 (some .int)) ({ frames := 4, cells := 0, slots := 0, locals := 94 } : Room)).room s m (([.ref (ad (0)), .int (a1), .int (a2)] : List Value).toArray) below meth c H locs 0 0 (MQ below (va_Qi (fun (r : Int32) (u : (Nat → Nat → Int32)) => r = r0 ∧ u = M0) (gI (x_Wd dC dI kI ad) (x_Kn dC dI kI ad)) (x_A ad)) (([.ref (ad (0)), .int (a1), .int (a2)] : List Value).toArray) s 0 0 (x_A ad)) (F0 m 102 ls [.int (s_15)]) := by
                intro s_15 H locs ls hP hS hl h
                have h := useK1 eJ102 h
                refine lv_istore (lv' := [(8, .int (s_15)), (7, .int (r_14)), (6, .int ((v5_11 &&& ((M_12 17 2) ^^^ (-1))))), (0, .ref (ad (0))), (1, .int (a1)), (2, .int (a2)), (3, .int (v3_9)), (4, .int (v4_10)), (5, .int (v5_11))]) hx hb dX7_least_102 hl (Nat.le_of_ble_eq_true rfl) rfl (fun ls hl => ?_)
                refine lv_iload hx hb dX7_least_104 (lv_at hl 0 rfl) ?_
                obtain ⟨J138, eJ138, h⟩ := jn_use h
                have hJ138 : ∀ (j3_16 : Int32) (j4_17 : Int32) (M_18 : (Nat → Nat → Int32)) (H : Heap) (locs : List Loc) (ls : Array Slot), va_P (dC, dI) vwCl (x_w kI ad M_18) H → va_S (x_A ad) s.heap H locs → lv_has ls 9 [(0, .ref (ad (0))), (1, .int (a1)), (2, .int (a2)), (5, .int (v5_11)), (3, .int (j3_16)), (4, .int (j4_17))] → J138 j3_16 j4_17 M_18 = some (r0, M0) → W p l e (headSpec (wsA yX7_least cX7_least 9 (some .int)) ({ frames := 4, cells := 0, slots := 0, locals := 94 } : Room)).room s m (([.ref (ad (0)), .int (a1), .int (a2)] : List Value).toArray) below meth c H locs 0 0 (MQ below (va_Qi (fun (r : Int32) (u : (Nat → Nat → Int32)) => r = r0 ∧ u = M0) (gI (x_Wd dC dI kI ad) (x_Kn dC dI kI ad)) (x_A ad)) (([.ref (ad (0)), .int (a1), .int (a2)] : List Value).toArray) s 0 0 (x_A ad)) (F0 m 138 ls []) := by
                  intro j3_16 j4_17 M_18 H locs ls hP hS hl h
                  have h := useK3 eJ138 h
                  refine lv_iinc (v := (v5_11 + 1)) (lv' := [(5, .int ((v5_11 + 1))), (0, .ref (ad (0))), (1, .int (a1)), (2, .int (a2)), (3, .int (j3_16)), (4, .int (j4_17))]) hx hb dX7_least_138 hl (k := 3) rfl rfl (Nat.le_of_ble_eq_true rfl) rfl (fun ls hl => ?_)
                  refine lv_goto (tgt := 34) hx hb dX7_least_141 (by decide) ?_
                  exact ih34 j3_16 j4_17 (v5_11 + 1) M_18 _ _ _ hP hS (lv_sub hl [1, 2, 3, 4, 5, 0] rfl) h
                refine lv_if_eq (tgt := 138) hx hb dX7_least_106 (by decide) (fun c_19 => ?_) (fun c_19 => ?_)
                · have h := ife_t c_19 h
                  exact hJ138 v3_9 v4_10 M_12 _ _ _ hP hS (lv_sub hl [3, 4, 5, 8, 6, 7] rfl) h
                · have h := ife_f c_19 h
                  refine lv_aload_n hx hb dX7_least_109 rfl (lv_at hl 3 rfl) ?_
                  refine va_get (D := (dC, dI)) (ci := 7) (v := .ref (ad (3))) (C := RX7) (T := TX7) (N := 14) hx hb hg inX7 hown hKn.1 hP (0) (x_at7 (c := 0) (by decide)) rfl 1 (Nat.le_of_ble_eq_true rfl) (hg _ lkF_X7_19) (fun _ h9 => h9) rfl dX7_least_110 ?_
                  refine lv_iload hx hb dX7_least_113 (lv_at hl 8 rfl) ?_
                  obtain ⟨r_20, e115, h⟩ := bo_use h
                  refine gc_i (va_runVN (As := [.int (v5_11)]) (rest := []) hFx (tX1_fits l dC dI kI ad 3 v5_11 M_12 (by decide) e115) ⟨(gc_N hFx hKn.2.2 ck_yX1_fits nkM_X7_232 ⟨Nat.le_of_ble_eq_true rfl, Nat.le_of_ble_eq_true rfl⟩ rfl rfl), hg _ vi_yX1_fits, hg _ vs_yX1_fits⟩ (gp_V x_KnB (x_KnW hKn) hP (x_rc1 (c := 3) (by decide) hKn hP)) rfl rfl hl.1 rfl (lv_room (Nat.le_of_ble_eq_true rfl)) dX7_least_115 ⟨Nat.zero_le _, Nat.zero_le _⟩) hS (fun H locs hP hS => ?_)
                  have hP : va_P (dC, dI) vwCl (x_w kI ad M_12) H := hP
                  refine lv_if_eq (tgt := 138) hx hb dX7_least_118 (by decide) (fun c_21 => ?_) (fun c_21 => ?_)
                  · have h := ife_t c_21 h
                    exact hJ138 v3_9 v4_10 M_12 _ _ _ hP hS (lv_sub hl [3, 4, 5, 8, 6, 7] rfl) h
                  · have h := ife_f c_21 h
                    refine lv_aload_n hx hb dX7_least_121 rfl (lv_at hl 3 rfl) ?_
                    refine lv_iload hx hb dX7_least_122 (lv_at hl 8 rfl) ?_
                    refine lv_iload_n hx hb dX7_least_124 rfl (lv_at hl 4 rfl) ?_
                    obtain ⟨r_22, M_23, e125, h⟩ := bd_use h
                    refine gc_i (va_runV (As := [.int (v5_11), .int (a1)]) (rest := []) hFx (tX7_convincesOf l dC dI kI ad v5_11 a1 M_12  e125) ⟨(gc_B hFx ck_yX7_convincesOf lkM_X7_235 ⟨Nat.le_of_ble_eq_true rfl, Nat.le_of_ble_eq_true rfl⟩ rfl rfl), hg _ vi_yX7_convincesOf, hg _ vs_yX7_convincesOf⟩ (gp_V x_KnB (x_KnW hKn) hP (x_rc7 (c := 0) (by decide) hKn hP)) rfl rfl hl.1 rfl (lv_room (Nat.le_of_ble_eq_true rfl)) dX7_least_125 ⟨Nat.zero_le _, Nat.zero_le _⟩) hS (fun H locs hP hS => ?_)
                    have hP : va_P (dC, dI) vwCl (x_w kI ad M_23) H := hP
                    refine lv_if_eq (tgt := 138) hx hb dX7_least_128 (by decide) (fun c_24 => ?_) (fun c_24 => ?_)
                    · have h := ife_t c_24 h
                      exact hJ138 v3_9 v4_10 M_23 _ _ _ hP hS (lv_sub hl [3, 4, 5, 8, 6, 7] rfl) h
                    · have h := ife_f c_24 h
                      refine lv_iload hx hb dX7_least_131 (lv_at hl 1 rfl) ?_
                      refine lv_istore_n (lv' := [(3, .int (r_14)), (8, .int (s_15)), (7, .int (r_14)), (6, .int ((v5_11 &&& ((M_12 17 2) ^^^ (-1))))), (0, .ref (ad (0))), (1, .int (a1)), (2, .int (a2)), (4, .int (v4_10)), (5, .int (v5_11))]) hx hb dX7_least_133 rfl hl (Nat.le_of_ble_eq_true rfl) rfl (fun ls hl => ?_)
                      refine lv_iload hx hb dX7_least_134 (lv_at hl 3 rfl) ?_
                      refine lv_istore (lv' := [(4, .int ((v5_11 &&& ((M_12 17 2) ^^^ (-1))))), (3, .int (r_14)), (8, .int (s_15)), (7, .int (r_14)), (6, .int ((v5_11 &&& ((M_12 17 2) ^^^ (-1))))), (0, .ref (ad (0))), (1, .int (a1)), (2, .int (a2)), (5, .int (v5_11))]) hx hb dX7_least_136 hl (Nat.le_of_ble_eq_true rfl) rfl (fun ls hl => ?_)
                      exact hJ138 r_14 (v5_11 &&& ((M_12 17 2) ^^^ (-1))) M_23 _ _ _ hP hS (lv_sub hl [5, 6, 7, 8, 1, 0] rfl) h
              obtain ⟨J97, eJ97, h⟩ := jn_use h
              have hJ97 : ∀  (H : Heap) (locs : List Loc) (ls : Array Slot), va_P (dC, dI) vwCl (x_w kI ad M_12) H → va_S (x_A ad) s.heap H locs → lv_has ls 9 [(7, .int (r_14)), (6, .int ((v5_11 &&& ((M_12 17 2) ^^^ (-1))))), (0, .ref (ad (0))), (1, .int (a1)), (2, .int (a2)), (3, .int (v3_9)), (4, .int (v4_10)), (5, .int (v5_11))] → J97  = some (r0, M0) → W p l e (headSpec (wsA yX7_least cX7_least 9 (some .int)) ({ frames := 4, cells := 0, slots := 0, locals := 94 } : Room)).room s m (([.ref (ad (0)), .int (a1), .int (a2)] : List Value).toArray) below meth c H locs 0 0 (MQ below (va_Qi (fun (r : Int32) (u : (Nat → Nat → Int32)) => r = r0 ∧ u = M0) (gI (x_Wd dC dI kI ad) (x_Kn dC dI kI ad)) (x_A ad)) (([.ref (ad (0)), .int (a1), .int (a2)] : List Value).toArray) s 0 0 (x_A ad)) (F0 m 97 ls []) := by
                intro  H locs ls hP hS hl h
                have h := useK0 eJ97 h
                refine lv_iconst (v := 1) hx hb dX7_least_97 (by decide) ?_
                refine lv_goto (tgt := 102) hx hb dX7_least_98 (by decide) ?_
                exact hJ102 1 _ _ _ hP hS (lv_sub hl [0, 1, 2, 3, 4, 5, 6, 7] rfl) h
              refine lv_icmp_eq (tgt := 97) hx hb dX7_least_75 (by decide) (fun c_25 => ?_) (fun c_25 => ?_)
              · have h := ife_t c_25 h
                exact hJ97 _ _ _ hP hS (lv_sub hl [0, 1, 2, 3, 4, 5, 6, 7] rfl) h
              · have h := ife_f c_25 h
                refine lv_iload hx hb dX7_least_78 (lv_at hl 0 rfl) ?_
                refine lv_iload_n hx hb dX7_least_80 rfl (lv_at hl 5 rfl) ?_
                refine lv_icmp_lt (tgt := 97) hx hb dX7_least_81 (by decide) (fun c_26 => ?_) (fun c_26 => ?_)
                · have h := ife_t c_26 h
                  exact hJ97 _ _ _ hP hS (lv_sub hl [0, 1, 2, 3, 4, 5, 6, 7] rfl) h
                · have h := ife_f c_26 h
                  refine lv_iload hx hb dX7_least_84 (lv_at hl 0 rfl) ?_
                  refine lv_iload_n hx hb dX7_least_86 rfl (lv_at hl 5 rfl) ?_
                  obtain ⟨J101, eJ101, h⟩ := jn_use h
                  have hJ101 : ∀  (H : Heap) (locs : List Loc) (ls : Array Slot), va_P (dC, dI) vwCl (x_w kI ad M_12) H → va_S (x_A ad) s.heap H locs → lv_has ls 9 [(7, .int (r_14)), (6, .int ((v5_11 &&& ((M_12 17 2) ^^^ (-1))))), (0, .ref (ad (0))), (1, .int (a1)), (2, .int (a2)), (3, .int (v3_9)), (4, .int (v4_10)), (5, .int (v5_11))] → J101  = some (r0, M0) → W p l e (headSpec (wsA yX7_least cX7_least 9 (some .int)) ({ frames := 4, cells := 0, slots := 0, locals := 94 } : Room)).room s m (([.ref (ad (0)), .int (a1), .int (a2)] : List Value).toArray) below meth c H locs 0 0 (MQ below (va_Qi (fun (r : Int32) (u : (Nat → Nat → Int32)) => r = r0 ∧ u = M0) (gI (x_Wd dC dI kI ad) (x_Kn dC dI kI ad)) (x_A ad)) (([.ref (ad (0)), .int (a1), .int (a2)] : List Value).toArray) s 0 0 (x_A ad)) (F0 m 101 ls []) := by
                    intro  H locs ls hP hS hl h
                    have h := useK0 eJ101 h
                    refine lv_iconst (v := 0) hx hb dX7_least_101 (by decide) ?_
                    exact hJ102 0 _ _ _ hP hS (lv_sub hl [0, 1, 2, 3, 4, 5, 6, 7] rfl) h
                  refine lv_icmp_ne (tgt := 101) hx hb dX7_least_87 (by decide) (fun c_27 => ?_) (fun c_27 => ?_)
                  · have h := ife_f c_27 h
                    exact hJ101 _ _ _ hP hS (lv_sub hl [0, 1, 2, 3, 4, 5, 6, 7] rfl) h
                  · have h := ife_t c_27 h
                    refine lv_iload hx hb dX7_least_90 (lv_at hl 1 rfl) ?_
                    refine lv_iload hx hb dX7_least_92 (lv_at hl 6 rfl) ?_
                    refine lv_icmp_ge (tgt := 101) hx hb dX7_least_94 (by decide) (fun c_28 => ?_) (fun c_28 => ?_)
                    · have h := ife_t c_28 h
                      exact hJ101 _ _ _ hP hS (lv_sub hl [0, 1, 2, 3, 4, 5, 6, 7] rfl) h
                    · have h := ife_f c_28 h
                      exact hJ97 _ _ _ hP hS (lv_sub hl [0, 1, 2, 3, 4, 5, 6, 7] rfl) h
        exact hL34 fuelN (-1) (-1) 0 M _ _ _ hP hS (lv_sub hl [3, 4, 5, 2, 1, 0] rfl) h
      · have h := ife_f c_4 h
        refine lv_ldc hx hb hown (hg _ kc_X7_83) dX7_least_23 ?_
        exact W.iret (v := (-1000000002)) hx hb hr (fun t ht hW => ⟨⟨(-1000000002), M, rfl, Prod.mk.inj (Option.some.inj h), by rw [ht]; exact hP, x_KnW hKn t hW⟩, hS.F ht⟩) hS.2.2 dX7_least_25
  · have h := ife_t c_2 h
    refine lv_ldc hx hb hown (hg _ kc_X7_149) dX7_least_11 ?_
    exact W.iret (v := (-1000000001)) hx hb hr (fun t ht hW => ⟨⟨(-1000000001), M, rfl, Prod.mk.inj (Option.some.inj h), by rw [ht]; exact hP, x_KnW hKn t hW⟩, hS.F ht⟩) hS.2.2 dX7_least_13
noncomputable def FX7_thoughtBehind (c1 : Nat) (a2 : Int32) (M : (Nat → Nat → Int32)) : Option (Int32 × (Nat → Nat → Int32)) :=
  bo (FX3_copyFrom 20 17 M) (fun (M_1 : (Nat → Nat → Int32)) => bo (FX3_spendNight 20 c1 a2 M_1) (fun (M_2 : (Nat → Nat → Int32)) => bo (FX0_firstOtherwise 33 20 M_2) (fun (r_3 : Int32) => (if r_3 = (-1) then some (1, M_2) else some (0, M_2)))))
set_option maxHeartbeats 4000000 in
set_option maxRecDepth 100000 in
theorem tX7_thoughtBehind (l : Launch) (dC : Nat → ClassId) (dI : Nat → Nat → Nat) (kI : ClassId) (ad : Nat → Nat) (c1 : Nat) (a2 : Int32) (M : (Nat → Nat → Int32)) (h1 : x_is1 c1) {r0 : Int32} {M0 : (Nat → Nat → Int32)} (h : FX7_thoughtBehind c1 a2 M = some (r0, M0)) : Met l yX7_thoughtBehind (wsA yX7_thoughtBehind cX7_thoughtBehind 3 (some .boolean)) ({ frames := 3, cells := 0, slots := 0, locals := 72 } : Room) (va_Pc [.ref (ad (0)), .ref (ad (c1)), .int (a2)] (gI (x_Wd dC dI kI ad) (x_Kn dC dI kI ad) M)) (va_Qi (fun (r : Int32) (u : (Nat → Nat → Int32)) => r = r0 ∧ u = M0) (gI (x_Wd dC dI kI ad) (x_Kn dC dI kI ad)) (x_A ad)) 0 0 (x_A ad) := by
  refine Met.ofW (cc := cX7_thoughtBehind) (maxL := 3) (ret := (some .boolean)) (by decide) rfl ?_
  intro p e s m args below meth c s₁ B hml hv
  obtain ⟨rfl, hP, hKn⟩ := hv
  have hx := B.exec
  have hb := B.bytes
  have hr := B.returns
  have hts := atoms_spec (ws := wsA yX7_thoughtBehind cX7_thoughtBehind 3 (some .boolean)) B.pre
  have hg : ∀ w ∈ lw_good, w.before _ s = true := fun w h => hts w (List.mem_cons_of_mem _ h)
  have hown : s.vm.findClass RX7 = some m.cls := findClass_of_methodNamed B.named
  have hlocks := B.notSynchronized
  have hS : va_S (x_A ad) s.heap s.heap [] := va_S.rf
  have hFx : gFix p c cX7_thoughtBehind 3 s m _ RX7 := ⟨hx, hb, hml, hown, hg⟩
  have hP : va_P (dC, dI) vwCl (x_w kI ad M) s.heap := hP
  have hl := lv_entry ([.ref (ad (0)), .ref (ad (c1)), .int (a2)]) (n := 3) (Nat.le_of_ble_eq_true rfl)
  rw [lg_entry_eq]
  generalize (lg_sl ([.ref (ad (0)), .ref (ad (c1)), .int (a2)]) ++ List.replicate (3 - (lg_sl ([.ref (ad (0)), .ref (ad (c1)), .int (a2)])).length) Slot.unset).toArray = ls at hl ⊢
  have hl : lv_has ls 3 [(0, .ref (ad (0))), (1, .ref (ad (c1))), (2, .int (a2))] := hl
  unfold FX7_thoughtBehind at h
  refine lv_aload_n hx hb dX7_thoughtBehind_0 rfl (lv_at hl 0 rfl) ?_
  refine va_get (D := (dC, dI)) (ci := 7) (v := .ref (ad (20))) (C := RX7) (T := TX7) (N := 14) hx hb hg inX7 hown hKn.1 hP (0) (x_at7 (c := 0) (by decide)) rfl 4 (Nat.le_of_ble_eq_true rfl) (hg _ lkF_X7_33) (fun _ h9 => h9) rfl dX7_thoughtBehind_1 ?_
  refine lv_aload_n hx hb dX7_thoughtBehind_4 rfl (lv_at hl 0 rfl) ?_
  refine va_get (D := (dC, dI)) (ci := 7) (v := .ref (ad (17))) (C := RX7) (T := TX7) (N := 14) hx hb hg inX7 hown hKn.1 hP (0) (x_at7 (c := 0) (by decide)) rfl 3 (Nat.le_of_ble_eq_true rfl) (hg _ lkF_X7_29) (fun _ h9 => h9) rfl dX7_thoughtBehind_5 ?_
  obtain ⟨M_1, e8, h⟩ := bo_use h
  refine gc_v (va_runVN (As := [.ref (ad (17))]) (rest := []) hFx (tX3_copyFrom l dC dI kI ad 20 17 M (by decide) (by decide) e8) ⟨(gc_N hFx hKn.2.2 ck_yX3_copyFrom nkM_X7_210 ⟨Nat.le_of_ble_eq_true rfl, Nat.le_of_ble_eq_true rfl⟩ rfl rfl), hg _ vi_yX3_copyFrom, hg _ vs_yX3_copyFrom⟩ (gp_V x_KnB (x_KnW hKn) hP (x_rc3 (c := 20) (by decide) hKn hP)) rfl rfl hl.1 rfl (lv_room (Nat.le_of_ble_eq_true rfl)) dX7_thoughtBehind_8 ⟨Nat.zero_le _, Nat.zero_le _⟩) hS (fun H locs hP hS => ?_)
  have hP : va_P (dC, dI) vwCl (x_w kI ad M_1) H := hP
  refine lv_aload_n hx hb dX7_thoughtBehind_11 rfl (lv_at hl 0 rfl) ?_
  refine va_get (D := (dC, dI)) (ci := 7) (v := .ref (ad (20))) (C := RX7) (T := TX7) (N := 14) hx hb hg inX7 hown hKn.1 hP (0) (x_at7 (c := 0) (by decide)) rfl 4 (Nat.le_of_ble_eq_true rfl) (hg _ lkF_X7_33) (fun _ h9 => h9) rfl dX7_thoughtBehind_12 ?_
  refine lv_aload_n hx hb dX7_thoughtBehind_15 rfl (lv_at hl 1 rfl) ?_
  refine lv_iload_n hx hb dX7_thoughtBehind_16 rfl (lv_at hl 2 rfl) ?_
  obtain ⟨M_2, e17, h⟩ := bo_use h
  refine gc_v (va_runVN (As := [.ref (ad (c1)), .int (a2)]) (rest := []) hFx (tX3_spendNight l dC dI kI ad 20 c1 a2 M_1 (by decide) h1 e17) ⟨(gc_N hFx hKn.2.2 ck_yX3_spendNight nkM_X7_187 ⟨Nat.le_of_ble_eq_true rfl, Nat.le_of_ble_eq_true rfl⟩ rfl rfl), hg _ vi_yX3_spendNight, hg _ vs_yX3_spendNight⟩ (gp_V x_KnB (x_KnW hKn) hP (x_rc3 (c := 20) (by decide) hKn hP)) rfl rfl hl.1 rfl (lv_room (Nat.le_of_ble_eq_true rfl)) dX7_thoughtBehind_17 ⟨Nat.zero_le _, Nat.zero_le _⟩) hS (fun H locs hP hS => ?_)
  have hP : va_P (dC, dI) vwCl (x_w kI ad M_2) H := hP
  refine lv_aload_n hx hb dX7_thoughtBehind_20 rfl (lv_at hl 0 rfl) ?_
  refine va_get (D := (dC, dI)) (ci := 7) (v := .ref (ad (33))) (C := RX7) (T := TX7) (N := 14) hx hb hg inX7 hown hKn.1 hP (0) (x_at7 (c := 0) (by decide)) rfl 12 (Nat.le_of_ble_eq_true rfl) (hg _ lkF_X7_76) (fun _ h9 => h9) rfl dX7_thoughtBehind_21 ?_
  refine lv_aload_n hx hb dX7_thoughtBehind_24 rfl (lv_at hl 0 rfl) ?_
  refine va_get (D := (dC, dI)) (ci := 7) (v := .ref (ad (20))) (C := RX7) (T := TX7) (N := 14) hx hb hg inX7 hown hKn.1 hP (0) (x_at7 (c := 0) (by decide)) rfl 4 (Nat.le_of_ble_eq_true rfl) (hg _ lkF_X7_33) (fun _ h9 => h9) rfl dX7_thoughtBehind_25 ?_
  obtain ⟨r_3, e28, h⟩ := bo_use h
  refine gc_i (va_runVN (As := [.ref (ad (20))]) (rest := []) hFx (tX0_firstOtherwise l dC dI kI ad 33 20 M_2 (by decide) (by decide) e28) ⟨(gc_N hFx hKn.2.2 ck_yX0_firstOtherwise nkM_X7_257 ⟨Nat.le_of_ble_eq_true rfl, Nat.le_of_ble_eq_true rfl⟩ rfl rfl), hg _ vi_yX0_firstOtherwise, hg _ vs_yX0_firstOtherwise⟩ (gp_V x_KnB (x_KnW hKn) hP (x_rc0 (c := 33) (by decide) hKn hP)) rfl rfl hl.1 rfl (lv_room (Nat.le_of_ble_eq_true rfl)) dX7_thoughtBehind_28 ⟨Nat.zero_le _, Nat.zero_le _⟩) hS (fun H locs hP hS => ?_)
  have hP : va_P (dC, dI) vwCl (x_w kI ad M_2) H := hP
  refine lv_iconst (v := -1) hx hb dX7_thoughtBehind_31 (by decide) ?_
  refine lv_icmp_ne (tgt := 39) hx hb dX7_thoughtBehind_32 (by decide) (fun c_4 => ?_) (fun c_4 => ?_)
  · have h := ife_f c_4 h
    refine lv_iconst (v := 0) hx hb dX7_thoughtBehind_39 (by decide) ?_
    exact W.zret (v := 0) hx hb hr rfl (fun t ht hW => ⟨⟨0, M_2, rfl, Prod.mk.inj (Option.some.inj h), by rw [ht]; exact hP, x_KnW hKn t hW⟩, hS.F ht⟩) hS.2.2 dX7_thoughtBehind_40
  · have h := ife_t c_4 h
    refine lv_iconst (v := 1) hx hb dX7_thoughtBehind_35 (by decide) ?_
    refine lv_goto (tgt := 40) hx hb dX7_thoughtBehind_36 (by decide) ?_
    exact W.zret (v := 1) hx hb hr rfl (fun t ht hW => ⟨⟨1, M_2, rfl, Prod.mk.inj (Option.some.inj h), by rw [ht]; exact hP, x_KnW hKn t hW⟩, hS.F ht⟩) hS.2.2 dX7_thoughtBehind_40
noncomputable def FX7_leftOut_L10 (b1 : Int32) (K : Int32 → Int32 → Int32 → (Nat → Nat → Int32) → Option (Int32 × (Nat → Nat → Int32))) (k : Nat) (v2_9 : Int32) (v3_10 : Int32) (v4_11 : Int32) (v5_12 : Int32) (M_13 : (Nat → Nat → Int32)) : Option (Int32 × (Nat → Nat → Int32)) := match k with
  | 0 => none
  | k + 1 => (if (1 <<< ((M_13 3 2) &&& 31)) ≤ v5_12 then K v2_9 v3_10 v4_11 M_13 else bo (FX7_mayBe v5_12 M_13) (fun (r_15 : Int32) => jn (fun (j2_16 : Int32) (j3_17 : Int32) (j4_18 : Int32) (M_19 : (Nat → Nat → Int32)) => FX7_leftOut_L10 b1 K k j2_16 j3_17 j4_18 (v5_12 + 1) M_19) (fun J69 => (if r_15 = 0 then J69 v2_9 v3_10 v4_11 M_13 else bd (FX7_thoughtBehind 3 v5_12 M_13) (fun (r_21 : Int32) (M_22 : (Nat → Nat → Int32)) => (if r_21 = 0 then J69 v2_9 v3_10 v4_11 M_22 else (if v2_9 = b1 then some (v5_12, M_22) else J69 (v2_9 + 1) (v3_10 &&& v5_12) (v4_11 ||| v5_12) M_22)))))))
noncomputable def FX7_leftOut (a1 : Int32) (M : (Nat → Nat → Int32)) : Option (Int32 × (Nat → Nat → Int32)) :=
  FX7_leftOut_L10 a1 (fun (k2_1 : Int32) (k3_2 : Int32) (k4_3 : Int32) (M_4 : (Nat → Nat → Int32)) => (if a1 = (-3) then some (((M_4 17 2) &&& (k4_3 ^^^ (-1))), M_4) else (if a1 = (-2) then (if k2_1 = 0 then some (0, M_4) else some (k3_2, M_4)) else (if a1 = (-1) then some (k2_1, M_4) else some ((-1), M_4))))) fuelN 0 (-1) 0 0 M
set_option maxHeartbeats 4000000 in
set_option maxRecDepth 100000 in
theorem tX7_leftOut (l : Launch) (dC : Nat → ClassId) (dI : Nat → Nat → Nat) (kI : ClassId) (ad : Nat → Nat) (a1 : Int32) (M : (Nat → Nat → Int32))  {r0 : Int32} {M0 : (Nat → Nat → Int32)} (h : FX7_leftOut a1 M = some (r0, M0)) : Met l yX7_leftOut (wsA yX7_leftOut cX7_leftOut 6 (some .int)) ({ frames := 4, cells := 0, slots := 0, locals := 94 } : Room) (va_Pc [.ref (ad (0)), .int (a1)] (gI (x_Wd dC dI kI ad) (x_Kn dC dI kI ad) M)) (va_Qi (fun (r : Int32) (u : (Nat → Nat → Int32)) => r = r0 ∧ u = M0) (gI (x_Wd dC dI kI ad) (x_Kn dC dI kI ad)) (x_A ad)) 0 0 (x_A ad) := by
  refine Met.ofW (cc := cX7_leftOut) (maxL := 6) (ret := (some .int)) (by decide) rfl ?_
  intro p e s m args below meth c s₁ B hml hv
  obtain ⟨rfl, hP, hKn⟩ := hv
  have hx := B.exec
  have hb := B.bytes
  have hr := B.returns
  have hts := atoms_spec (ws := wsA yX7_leftOut cX7_leftOut 6 (some .int)) B.pre
  have hg : ∀ w ∈ lw_good, w.before _ s = true := fun w h => hts w (List.mem_cons_of_mem _ h)
  have hown : s.vm.findClass RX7 = some m.cls := findClass_of_methodNamed B.named
  have hlocks := B.notSynchronized
  have hS : va_S (x_A ad) s.heap s.heap [] := va_S.rf
  have hFx : gFix p c cX7_leftOut 6 s m _ RX7 := ⟨hx, hb, hml, hown, hg⟩
  have hP : va_P (dC, dI) vwCl (x_w kI ad M) s.heap := hP
  have hl := lv_entry ([.ref (ad (0)), .int (a1)]) (n := 6) (Nat.le_of_ble_eq_true rfl)
  rw [lg_entry_eq]
  generalize (lg_sl ([.ref (ad (0)), .int (a1)]) ++ List.replicate (6 - (lg_sl ([.ref (ad (0)), .int (a1)])).length) Slot.unset).toArray = ls at hl ⊢
  have hl : lv_has ls 6 [(0, .ref (ad (0))), (1, .int (a1))] := hl
  unfold FX7_leftOut at h
  refine lv_iconst (v := 0) hx hb dX7_leftOut_0 (by decide) ?_
  refine lv_istore_n (lv' := [(2, .int (0)), (0, .ref (ad (0))), (1, .int (a1))]) hx hb dX7_leftOut_1 rfl hl (Nat.le_of_ble_eq_true rfl) rfl (fun ls hl => ?_)
  refine lv_iconst (v := -1) hx hb dX7_leftOut_2 (by decide) ?_
  refine lv_istore_n (lv' := [(3, .int ((-1))), (2, .int (0)), (0, .ref (ad (0))), (1, .int (a1))]) hx hb dX7_leftOut_3 rfl hl (Nat.le_of_ble_eq_true rfl) rfl (fun ls hl => ?_)
  refine lv_iconst (v := 0) hx hb dX7_leftOut_4 (by decide) ?_
  refine lv_istore (lv' := [(4, .int (0)), (3, .int ((-1))), (2, .int (0)), (0, .ref (ad (0))), (1, .int (a1))]) hx hb dX7_leftOut_5 hl (Nat.le_of_ble_eq_true rfl) rfl (fun ls hl => ?_)
  refine lv_iconst (v := 0) hx hb dX7_leftOut_7 (by decide) ?_
  refine lv_istore (lv' := [(5, .int (0)), (4, .int (0)), (3, .int ((-1))), (2, .int (0)), (0, .ref (ad (0))), (1, .int (a1))]) hx hb dX7_leftOut_8 hl (Nat.le_of_ble_eq_true rfl) rfl (fun ls hl => ?_)
  obtain ⟨K10, eK10, h⟩ := exK (Lp := fun K => FX7_leftOut_L10 a1 K fuelN 0 (-1) 0 0 M) h
  have hK10 : ∀ (k2_1 : Int32) (k3_2 : Int32) (k4_3 : Int32) (M_4 : (Nat → Nat → Int32)) (H : Heap) (locs : List Loc) (ls : Array Slot), va_P (dC, dI) vwCl (x_w kI ad M_4) H → va_S (x_A ad) s.heap H locs → lv_has ls 6 [(0, .ref (ad (0))), (1, .int (a1)), (2, .int (k2_1)), (3, .int (k3_2)), (4, .int (k4_3))] → K10 k2_1 k3_2 k4_3 M_4 = some (r0, M0) → W p l e (headSpec (wsA yX7_leftOut cX7_leftOut 6 (some .int)) ({ frames := 4, cells := 0, slots := 0, locals := 94 } : Room)).room s m (([.ref (ad (0)), .int (a1)] : List Value).toArray) below meth c H locs 0 0 (MQ below (va_Qi (fun (r : Int32) (u : (Nat → Nat → Int32)) => r = r0 ∧ u = M0) (gI (x_Wd dC dI kI ad) (x_Kn dC dI kI ad)) (x_A ad)) (([.ref (ad (0)), .int (a1)] : List Value).toArray) s 0 0 (x_A ad)) (F0 m 75 ls []) := by
    intro k2_1 k3_2 k4_3 M_4 H locs ls hP hS hl h
    have h := useK4 eK10 h
    refine lv_iload_n hx hb dX7_leftOut_75 rfl (lv_at hl 1 rfl) ?_
    by_cases c_5 : a1 = (-3)
    · have h := ife_t c_5 h
      refine lv_tableIn (off := 40) (tgt := 116) hx hb dX7_leftOut_76 (by rw [c_5]; decide) (by rw [c_5]; decide) (by rw [c_5]; rfl) (by decide) ?_
      refine lv_aload_n hx hb dX7_leftOut_116 rfl (lv_at hl 0 rfl) ?_
      refine va_get (D := (dC, dI)) (ci := 7) (v := .ref (ad (17))) (C := RX7) (T := TX7) (N := 14) hx hb hg inX7 hown hKn.1 hP (0) (x_at7 (c := 0) (by decide)) rfl 3 (Nat.le_of_ble_eq_true rfl) (hg _ lkF_X7_29) (fun _ h9 => h9) rfl dX7_leftOut_117 ?_
      refine va_getN (D := (dC, dI)) (ci := 3) (v := .int ((M_4 17 2))) (C := RX3) (T := TX3) (N := 6) hx hb hg inX3 hown hKn.1 hP (17) (x_at3 (c := 17) (by decide)) rfl 2 (Nat.le_of_ble_eq_true rfl) (nest_use hKn.2.2 nkF_X7_131) (fun _ h9 => h9) rfl dX7_leftOut_120 ?_
      refine lv_iload hx hb dX7_leftOut_123 (lv_at hl 4 rfl) ?_
      refine lv_iconst (v := -1) hx hb dX7_leftOut_125 (by decide) ?_
      refine lv_ixor hx hb dX7_leftOut_126 ?_
      refine lv_iand hx hb dX7_leftOut_127 ?_
      exact W.iret (v := ((M_4 17 2) &&& (k4_3 ^^^ (-1)))) hx hb hr (fun t ht hW => ⟨⟨((M_4 17 2) &&& (k4_3 ^^^ (-1))), M_4, rfl, Prod.mk.inj (Option.some.inj h), by rw [ht]; exact hP, x_KnW hKn t hW⟩, hS.F ht⟩) hS.2.2 dX7_leftOut_128
    have h := ife_f c_5 h
    by_cases c_6 : a1 = (-2)
    · have h := ife_t c_6 h
      refine lv_tableIn (off := 30) (tgt := 106) hx hb dX7_leftOut_76 (by rw [c_6]; decide) (by rw [c_6]; decide) (by rw [c_6]; rfl) (by decide) ?_
      refine lv_iload_n hx hb dX7_leftOut_106 rfl (lv_at hl 2 rfl) ?_
      refine lv_if_ne (tgt := 114) hx hb dX7_leftOut_107 (by decide) (fun c_7 => ?_) (fun c_7 => ?_)
      · have h := ife_f c_7 h
        refine lv_iload_n hx hb dX7_leftOut_114 rfl (lv_at hl 3 rfl) ?_
        exact W.iret (v := k3_2) hx hb hr (fun t ht hW => ⟨⟨k3_2, M_4, rfl, Prod.mk.inj (Option.some.inj h), by rw [ht]; exact hP, x_KnW hKn t hW⟩, hS.F ht⟩) hS.2.2 dX7_leftOut_115
      · have h := ife_t c_7 h
        refine lv_iconst (v := 0) hx hb dX7_leftOut_110 (by decide) ?_
        refine lv_goto (tgt := 115) hx hb dX7_leftOut_111 (by decide) ?_
        exact W.iret (v := 0) hx hb hr (fun t ht hW => ⟨⟨0, M_4, rfl, Prod.mk.inj (Option.some.inj h), by rw [ht]; exact hP, x_KnW hKn t hW⟩, hS.F ht⟩) hS.2.2 dX7_leftOut_115
    have h := ife_f c_6 h
    by_cases c_8 : a1 = (-1)
    · have h := ife_t c_8 h
      refine lv_tableIn (off := 28) (tgt := 104) hx hb dX7_leftOut_76 (by rw [c_8]; decide) (by rw [c_8]; decide) (by rw [c_8]; rfl) (by decide) ?_
      refine lv_iload_n hx hb dX7_leftOut_104 rfl (lv_at hl 2 rfl) ?_
      exact W.iret (v := k2_1) hx hb hr (fun t ht hW => ⟨⟨k2_1, M_4, rfl, Prod.mk.inj (Option.some.inj h), by rw [ht]; exact hP, x_KnW hKn t hW⟩, hS.F ht⟩) hS.2.2 dX7_leftOut_105
    have h := ife_f c_8 h
    have n0_c_5 := lv_neT (a := -3) c_5 (by decide)
    have n1_c_6 := lv_neT (a := -2) c_6 (by decide)
    have n2_c_8 := lv_neT (a := -1) c_8 (by decide)
    refine lv_tableOut (tgt := 129) hx hb dX7_leftOut_76 (by omega) (by decide) ?_
    refine lv_iconst (v := -1) hx hb dX7_leftOut_129 (by decide) ?_
    exact W.iret (v := (-1)) hx hb hr (fun t ht hW => ⟨⟨(-1), M_4, rfl, Prod.mk.inj (Option.some.inj h), by rw [ht]; exact hP, x_KnW hKn t hW⟩, hS.F ht⟩) hS.2.2 dX7_leftOut_130
  have hL10 : ∀ (k : Nat) (v2_9 : Int32) (v3_10 : Int32) (v4_11 : Int32) (v5_12 : Int32) (M_13 : (Nat → Nat → Int32)) (H : Heap) (locs : List Loc) (ls : Array Slot), va_P (dC, dI) vwCl (x_w kI ad M_13) H → va_S (x_A ad) s.heap H locs → lv_has ls 6 [(0, .ref (ad (0))), (1, .int (a1)), (2, .int (v2_9)), (3, .int (v3_10)), (4, .int (v4_11)), (5, .int (v5_12))] → FX7_leftOut_L10 a1 K10 k v2_9 v3_10 v4_11 v5_12 M_13 = some (r0, M0) → W p l e (headSpec (wsA yX7_leftOut cX7_leftOut 6 (some .int)) ({ frames := 4, cells := 0, slots := 0, locals := 94 } : Room)).room s m (([.ref (ad (0)), .int (a1)] : List Value).toArray) below meth c H locs 0 0 (MQ below (va_Qi (fun (r : Int32) (u : (Nat → Nat → Int32)) => r = r0 ∧ u = M0) (gI (x_Wd dC dI kI ad) (x_Kn dC dI kI ad)) (x_A ad)) (([.ref (ad (0)), .int (a1)] : List Value).toArray) s 0 0 (x_A ad)) (F0 m 10 ls []) := by
    intro k
    induction k with
    | zero => intro v2_9 v3_10 v4_11 v5_12 M_13 H locs ls hP hS hl h; cases h
    | succ k ih10 =>
      intro v2_9 v3_10 v4_11 v5_12 M_13 H locs ls hP hS hl h
      unfold FX7_leftOut_L10 at h
      refine lv_iload hx hb dX7_leftOut_10 (lv_at hl 5 rfl) ?_
      refine lv_iconst (v := 1) hx hb dX7_leftOut_12 (by decide) ?_
      refine lv_aload_n hx hb dX7_leftOut_13 rfl (lv_at hl 0 rfl) ?_
      refine va_get (D := (dC, dI)) (ci := 7) (v := .ref (ad (3))) (C := RX7) (T := TX7) (N := 14) hx hb hg inX7 hown hKn.1 hP (0) (x_at7 (c := 0) (by decide)) rfl 1 (Nat.le_of_ble_eq_true rfl) (hg _ lkF_X7_19) (fun _ h9 => h9) rfl dX7_leftOut_14 ?_
      refine va_getN (D := (dC, dI)) (ci := 1) (v := .int ((M_13 3 2))) (C := RX1) (T := TX1) (N := 10) hx hb hg inX1 hown hKn.1 hP (3) (x_at1 (c := 3) (by decide)) rfl 2 (Nat.le_of_ble_eq_true rfl) (nest_use hKn.2.2 nkF_X7_107) (fun _ h9 => h9) rfl dX7_leftOut_17 ?_
      refine lv_ishl hx hb dX7_leftOut_20 ?_
      refine lv_icmp_ge (tgt := 75) hx hb dX7_leftOut_21 (by decide) (fun c_14 => ?_) (fun c_14 => ?_)
      · have h := ife_t c_14 h
        exact hK10 v2_9 v3_10 v4_11 M_13 _ _ _ hP hS (lv_sub hl [0, 1, 2, 3, 4] rfl) h
      · have h := ife_f c_14 h
        refine lv_aload_n hx hb dX7_leftOut_24 rfl (lv_at hl 0 rfl) ?_
        refine lv_iload hx hb dX7_leftOut_25 (lv_at hl 5 rfl) ?_
        obtain ⟨r_15, e27, h⟩ := bo_use h
        refine gc_i (va_runV (As := [.int (v5_12)]) (rest := []) hFx (tX7_mayBe l dC dI kI ad v5_12 M_13  e27) ⟨(gc_B hFx ck_yX7_mayBe lkM_X7_178 ⟨Nat.le_of_ble_eq_true rfl, Nat.le_of_ble_eq_true rfl⟩ rfl rfl), hg _ vi_yX7_mayBe, hg _ vs_yX7_mayBe⟩ (gp_V x_KnB (x_KnW hKn) hP (x_rc7 (c := 0) (by decide) hKn hP)) rfl rfl hl.1 rfl (lv_room (Nat.le_of_ble_eq_true rfl)) dX7_leftOut_27 ⟨Nat.zero_le _, Nat.zero_le _⟩) hS (fun H locs hP hS => ?_)
        have hP : va_P (dC, dI) vwCl (x_w kI ad M_13) H := hP
        obtain ⟨J69, eJ69, h⟩ := jn_use h
        have hJ69 : ∀ (j2_16 : Int32) (j3_17 : Int32) (j4_18 : Int32) (M_19 : (Nat → Nat → Int32)) (H : Heap) (locs : List Loc) (ls : Array Slot), va_P (dC, dI) vwCl (x_w kI ad M_19) H → va_S (x_A ad) s.heap H locs → lv_has ls 6 [(0, .ref (ad (0))), (1, .int (a1)), (5, .int (v5_12)), (2, .int (j2_16)), (3, .int (j3_17)), (4, .int (j4_18))] → J69 j2_16 j3_17 j4_18 M_19 = some (r0, M0) → W p l e (headSpec (wsA yX7_leftOut cX7_leftOut 6 (some .int)) ({ frames := 4, cells := 0, slots := 0, locals := 94 } : Room)).room s m (([.ref (ad (0)), .int (a1)] : List Value).toArray) below meth c H locs 0 0 (MQ below (va_Qi (fun (r : Int32) (u : (Nat → Nat → Int32)) => r = r0 ∧ u = M0) (gI (x_Wd dC dI kI ad) (x_Kn dC dI kI ad)) (x_A ad)) (([.ref (ad (0)), .int (a1)] : List Value).toArray) s 0 0 (x_A ad)) (F0 m 69 ls []) := by
          intro j2_16 j3_17 j4_18 M_19 H locs ls hP hS hl h
          have h := useK4 eJ69 h
          refine lv_iinc (v := (v5_12 + 1)) (lv' := [(5, .int ((v5_12 + 1))), (0, .ref (ad (0))), (1, .int (a1)), (2, .int (j2_16)), (3, .int (j3_17)), (4, .int (j4_18))]) hx hb dX7_leftOut_69 hl (k := 2) rfl rfl (Nat.le_of_ble_eq_true rfl) rfl (fun ls hl => ?_)
          refine lv_goto (tgt := 10) hx hb dX7_leftOut_72 (by decide) ?_
          exact ih10 j2_16 j3_17 j4_18 (v5_12 + 1) M_19 _ _ _ hP hS (lv_sub hl [1, 2, 3, 4, 5, 0] rfl) h
        refine lv_if_eq (tgt := 69) hx hb dX7_leftOut_30 (by decide) (fun c_20 => ?_) (fun c_20 => ?_)
        · have h := ife_t c_20 h
          exact hJ69 v2_9 v3_10 v4_11 M_13 _ _ _ hP hS (lv_sub hl [0, 1, 5, 2, 3, 4] rfl) h
        · have h := ife_f c_20 h
          refine lv_aload_n hx hb dX7_leftOut_33 rfl (lv_at hl 0 rfl) ?_
          refine lv_aload_n hx hb dX7_leftOut_34 rfl (lv_at hl 0 rfl) ?_
          refine va_get (D := (dC, dI)) (ci := 7) (v := .ref (ad (3))) (C := RX7) (T := TX7) (N := 14) hx hb hg inX7 hown hKn.1 hP (0) (x_at7 (c := 0) (by decide)) rfl 1 (Nat.le_of_ble_eq_true rfl) (hg _ lkF_X7_19) (fun _ h9 => h9) rfl dX7_leftOut_35 ?_
          refine lv_iload hx hb dX7_leftOut_38 (lv_at hl 5 rfl) ?_
          obtain ⟨r_21, M_22, e40, h⟩ := bd_use h
          refine gc_i (va_runV (As := [.ref (ad (3)), .int (v5_12)]) (rest := []) hFx (tX7_thoughtBehind l dC dI kI ad 3 v5_12 M_13 (by decide) e40) ⟨(gc_B hFx ck_yX7_thoughtBehind lkM_X7_253 ⟨Nat.le_of_ble_eq_true rfl, Nat.le_of_ble_eq_true rfl⟩ rfl rfl), hg _ vi_yX7_thoughtBehind, hg _ vs_yX7_thoughtBehind⟩ (gp_V x_KnB (x_KnW hKn) hP (x_rc7 (c := 0) (by decide) hKn hP)) rfl rfl hl.1 rfl (lv_room (Nat.le_of_ble_eq_true rfl)) dX7_leftOut_40 ⟨Nat.zero_le _, Nat.zero_le _⟩) hS (fun H locs hP hS => ?_)
          have hP : va_P (dC, dI) vwCl (x_w kI ad M_22) H := hP
          refine lv_if_eq (tgt := 69) hx hb dX7_leftOut_43 (by decide) (fun c_23 => ?_) (fun c_23 => ?_)
          · have h := ife_t c_23 h
            exact hJ69 v2_9 v3_10 v4_11 M_22 _ _ _ hP hS (lv_sub hl [0, 1, 5, 2, 3, 4] rfl) h
          · have h := ife_f c_23 h
            refine lv_iload_n hx hb dX7_leftOut_46 rfl (lv_at hl 2 rfl) ?_
            refine lv_iload_n hx hb dX7_leftOut_47 rfl (lv_at hl 1 rfl) ?_
            refine lv_icmp_ne (tgt := 54) hx hb dX7_leftOut_48 (by decide) (fun c_24 => ?_) (fun c_24 => ?_)
            · have h := ife_f c_24 h
              refine lv_iinc (v := (v2_9 + 1)) (lv' := [(2, .int ((v2_9 + 1))), (0, .ref (ad (0))), (1, .int (a1)), (3, .int (v3_10)), (4, .int (v4_11)), (5, .int (v5_12))]) hx hb dX7_leftOut_54 hl (k := 2) rfl rfl (Nat.le_of_ble_eq_true rfl) rfl (fun ls hl => ?_)
              refine lv_iload_n hx hb dX7_leftOut_57 rfl (lv_at hl 3 rfl) ?_
              refine lv_iload hx hb dX7_leftOut_58 (lv_at hl 5 rfl) ?_
              refine lv_iand hx hb dX7_leftOut_60 ?_
              refine lv_istore_n (lv' := [(3, .int ((v3_10 &&& v5_12))), (2, .int ((v2_9 + 1))), (0, .ref (ad (0))), (1, .int (a1)), (4, .int (v4_11)), (5, .int (v5_12))]) hx hb dX7_leftOut_61 rfl hl (Nat.le_of_ble_eq_true rfl) rfl (fun ls hl => ?_)
              refine lv_iload hx hb dX7_leftOut_62 (lv_at hl 4 rfl) ?_
              refine lv_iload hx hb dX7_leftOut_64 (lv_at hl 5 rfl) ?_
              refine lv_ior hx hb dX7_leftOut_66 ?_
              refine lv_istore (lv' := [(4, .int ((v4_11 ||| v5_12))), (3, .int ((v3_10 &&& v5_12))), (2, .int ((v2_9 + 1))), (0, .ref (ad (0))), (1, .int (a1)), (5, .int (v5_12))]) hx hb dX7_leftOut_67 hl (Nat.le_of_ble_eq_true rfl) rfl (fun ls hl => ?_)
              exact hJ69 (v2_9 + 1) (v3_10 &&& v5_12) (v4_11 ||| v5_12) M_22 _ _ _ hP hS (lv_sub hl [3, 4, 5, 2, 1, 0] rfl) h
            · have h := ife_t c_24 h
              refine lv_iload hx hb dX7_leftOut_51 (lv_at hl 5 rfl) ?_
              exact W.iret (v := v5_12) hx hb hr (fun t ht hW => ⟨⟨v5_12, M_22, rfl, Prod.mk.inj (Option.some.inj h), by rw [ht]; exact hP, x_KnW hKn t hW⟩, hS.F ht⟩) hS.2.2 dX7_leftOut_53
  exact hL10 fuelN 0 (-1) 0 0 M _ _ _ hP hS (lv_sub hl [4, 5, 3, 2, 1, 0] rfl) h
noncomputable def FX7_make (a1 : Int32) (M : (Nat → Nat → Int32)) : Option (Int32 × (Nat → Nat → Int32)) :=
  bo (FX1_hasFact 3 a1 M) (fun (r_1 : Int32) => (if r_1 = 0 then some ((-1000000001), M) else bo (FX7_has (M 17 2) a1) (fun (r_3 : Int32) => (if r_3 = 0 then bo (FX4_push 17 M) (fun (M_5 : (Nat → Nat → Int32)) => bo (FX7_at 9 a1 (upd2 M_5 17 2 ((M_5 17 2) ||| (1 <<< (a1 &&& 31))))) (fun (r_6 : Int32) => some ((upd2 (upd2 M_5 17 2 ((M_5 17 2) ||| (1 <<< (a1 &&& 31)))) 17 4 ((upd2 M_5 17 2 ((M_5 17 2) ||| (1 <<< (a1 &&& 31))) 17 4) + r_6) 17 4), upd2 (upd2 M_5 17 2 ((M_5 17 2) ||| (1 <<< (a1 &&& 31)))) 17 4 ((upd2 M_5 17 2 ((M_5 17 2) ||| (1 <<< (a1 &&& 31))) 17 4) + r_6)))) else some ((-1000000003), M)))))
set_option maxHeartbeats 4000000 in
set_option maxRecDepth 100000 in
theorem tX7_make (l : Launch) (dC : Nat → ClassId) (dI : Nat → Nat → Nat) (kI : ClassId) (ad : Nat → Nat) (a1 : Int32) (M : (Nat → Nat → Int32))  {r0 : Int32} {M0 : (Nat → Nat → Int32)} (h : FX7_make a1 M = some (r0, M0)) : Met l yX7_make (wsA yX7_make cX7_make 2 (some .int)) ({ frames := 3, cells := 0, slots := 0, locals := 67 } : Room) (va_Pc [.ref (ad (0)), .int (a1)] (gI (x_Wd dC dI kI ad) (x_Kn dC dI kI ad) M)) (va_Qi (fun (r : Int32) (u : (Nat → Nat → Int32)) => r = r0 ∧ u = M0) (gI (x_Wd dC dI kI ad) (x_Kn dC dI kI ad)) (x_A ad)) 0 0 (x_A ad) := by
  refine Met.ofW (cc := cX7_make) (maxL := 2) (ret := (some .int)) (by decide) rfl ?_
  intro p e s m args below meth c s₁ B hml hv
  obtain ⟨rfl, hP, hKn⟩ := hv
  have hx := B.exec
  have hb := B.bytes
  have hr := B.returns
  have hts := atoms_spec (ws := wsA yX7_make cX7_make 2 (some .int)) B.pre
  have hg : ∀ w ∈ lw_good, w.before _ s = true := fun w h => hts w (List.mem_cons_of_mem _ h)
  have hown : s.vm.findClass RX7 = some m.cls := findClass_of_methodNamed B.named
  have hlocks := B.notSynchronized
  have hS : va_S (x_A ad) s.heap s.heap [] := va_S.rf
  have hFx : gFix p c cX7_make 2 s m _ RX7 := ⟨hx, hb, hml, hown, hg⟩
  have hP : va_P (dC, dI) vwCl (x_w kI ad M) s.heap := hP
  have hl := lv_entry ([.ref (ad (0)), .int (a1)]) (n := 2) (Nat.le_of_ble_eq_true rfl)
  rw [lg_entry_eq]
  generalize (lg_sl ([.ref (ad (0)), .int (a1)]) ++ List.replicate (2 - (lg_sl ([.ref (ad (0)), .int (a1)])).length) Slot.unset).toArray = ls at hl ⊢
  have hl : lv_has ls 2 [(0, .ref (ad (0))), (1, .int (a1))] := hl
  unfold FX7_make at h
  refine lv_aload_n hx hb dX7_make_0 rfl (lv_at hl 0 rfl) ?_
  refine va_get (D := (dC, dI)) (ci := 7) (v := .ref (ad (3))) (C := RX7) (T := TX7) (N := 14) hx hb hg inX7 hown hKn.1 hP (0) (x_at7 (c := 0) (by decide)) rfl 1 (Nat.le_of_ble_eq_true rfl) (hg _ lkF_X7_19) (fun _ h9 => h9) rfl dX7_make_1 ?_
  refine lv_iload_n hx hb dX7_make_4 rfl (lv_at hl 1 rfl) ?_
  obtain ⟨r_1, e5, h⟩ := bo_use h
  refine gc_i (va_runVN (As := [.int (a1)]) (rest := []) hFx (tX1_hasFact l dC dI kI ad 3 a1 M (by decide) e5) ⟨(gc_N hFx hKn.2.2 ck_yX1_hasFact nkM_X7_150 ⟨Nat.le_of_ble_eq_true rfl, Nat.le_of_ble_eq_true rfl⟩ rfl rfl), hg _ vi_yX1_hasFact, hg _ vs_yX1_hasFact⟩ (gp_V x_KnB (x_KnW hKn) hP (x_rc1 (c := 3) (by decide) hKn hP)) rfl rfl hl.1 rfl (lv_room (Nat.le_of_ble_eq_true rfl)) dX7_make_5 ⟨Nat.zero_le _, Nat.zero_le _⟩) hS (fun H locs hP hS => ?_)
  have hP : va_P (dC, dI) vwCl (x_w kI ad M) H := hP
  refine lv_if_ne (tgt := 14) hx hb dX7_make_8 (by decide) (fun c_2 => ?_) (fun c_2 => ?_)
  · have h := ife_f c_2 h
    refine lv_aload_n hx hb dX7_make_14 rfl (lv_at hl 0 rfl) ?_
    refine va_get (D := (dC, dI)) (ci := 7) (v := .ref (ad (17))) (C := RX7) (T := TX7) (N := 14) hx hb hg inX7 hown hKn.1 hP (0) (x_at7 (c := 0) (by decide)) rfl 3 (Nat.le_of_ble_eq_true rfl) (hg _ lkF_X7_29) (fun _ h9 => h9) rfl dX7_make_15 ?_
    refine va_getN (D := (dC, dI)) (ci := 3) (v := .int ((M 17 2))) (C := RX3) (T := TX3) (N := 6) hx hb hg inX3 hown hKn.1 hP (17) (x_at3 (c := 17) (by decide)) rfl 2 (Nat.le_of_ble_eq_true rfl) (nest_use hKn.2.2 nkF_X7_131) (fun _ h9 => h9) rfl dX7_make_18 ?_
    refine lv_iload_n hx hb dX7_make_21 rfl (lv_at hl 1 rfl) ?_
    obtain ⟨r_3, e22, h⟩ := bo_use h
    refine gc_i (va_runS (As := [.int ((M 17 2)), .int (a1)]) (rest := []) hFx (tX7_has l dC dI kI ad (M 17 2) a1 M  e22) ⟨(gc_B hFx ck_yX7_has lkM_X7_168 ⟨Nat.le_of_ble_eq_true rfl, Nat.le_of_ble_eq_true rfl⟩ rfl rfl), hg _ st_yX7_has⟩ (gp_S x_KnB (x_KnW hKn) hP) rfl rfl hl.1 rfl (lv_room (Nat.le_of_ble_eq_true rfl)) dX7_make_22 ⟨Nat.zero_le _, Nat.zero_le _⟩) hS (fun H locs hP hS => ?_)
    have hP : va_P (dC, dI) vwCl (x_w kI ad M) H := hP
    refine lv_if_eq (tgt := 31) hx hb dX7_make_25 (by decide) (fun c_4 => ?_) (fun c_4 => ?_)
    · have h := ife_t c_4 h
      refine lv_aload_n hx hb dX7_make_31 rfl (lv_at hl 0 rfl) ?_
      refine va_get (D := (dC, dI)) (ci := 7) (v := .ref (ad (27))) (C := RX7) (T := TX7) (N := 14) hx hb hg inX7 hown hKn.1 hP (0) (x_at7 (c := 0) (by decide)) rfl 7 (Nat.le_of_ble_eq_true rfl) (hg _ lkF_X7_49) (fun _ h9 => h9) rfl dX7_make_32 ?_
      refine lv_aload_n hx hb dX7_make_35 rfl (lv_at hl 0 rfl) ?_
      refine va_get (D := (dC, dI)) (ci := 7) (v := .ref (ad (17))) (C := RX7) (T := TX7) (N := 14) hx hb hg inX7 hown hKn.1 hP (0) (x_at7 (c := 0) (by decide)) rfl 3 (Nat.le_of_ble_eq_true rfl) (hg _ lkF_X7_29) (fun _ h9 => h9) rfl dX7_make_36 ?_
      obtain ⟨M_5, e39, h⟩ := bo_use h
      refine gc_v (va_runVN (As := [.ref (ad (17))]) (rest := []) hFx (tX4_push l dC dI kI ad 17 M (by decide) e39) ⟨(gc_N hFx hKn.2.2 ck_yX4_push nkM_X7_183 ⟨Nat.le_of_ble_eq_true rfl, Nat.le_of_ble_eq_true rfl⟩ rfl rfl), hg _ vi_yX4_push, hg _ vs_yX4_push⟩ (gp_V x_KnB (x_KnW hKn) hP (x_rc4 (c := 27) (by decide) hKn hP)) rfl rfl hl.1 rfl (lv_room (Nat.le_of_ble_eq_true rfl)) dX7_make_39 ⟨Nat.zero_le _, Nat.zero_le _⟩) hS (fun H locs hP hS => ?_)
      have hP : va_P (dC, dI) vwCl (x_w kI ad M_5) H := hP
      refine lv_aload_n hx hb dX7_make_42 rfl (lv_at hl 0 rfl) ?_
      refine va_get (D := (dC, dI)) (ci := 7) (v := .ref (ad (17))) (C := RX7) (T := TX7) (N := 14) hx hb hg inX7 hown hKn.1 hP (0) (x_at7 (c := 0) (by decide)) rfl 3 (Nat.le_of_ble_eq_true rfl) (hg _ lkF_X7_29) (fun _ h9 => h9) rfl dX7_make_43 ?_
      refine lv_dup hx hb dX7_make_46 rfl ?_
      refine va_getN (D := (dC, dI)) (ci := 3) (v := .int ((M_5 17 2))) (C := RX3) (T := TX3) (N := 6) hx hb hg inX3 hown hKn.1 hP (17) (x_at3 (c := 17) (by decide)) rfl 2 (Nat.le_of_ble_eq_true rfl) (nest_use hKn.2.2 nkF_X7_131) (fun _ h9 => h9) rfl dX7_make_47 ?_
      refine lv_iconst (v := 1) hx hb dX7_make_50 (by decide) ?_
      refine lv_iload_n hx hb dX7_make_51 rfl (lv_at hl 1 rfl) ?_
      refine lv_ishl hx hb dX7_make_52 ?_
      refine lv_ior hx hb dX7_make_53 ?_
      refine va_putN (D := (dC, dI)) (ci := 3) (v := .int (((M_5 17 2) ||| (1 <<< (a1 &&& 31))))) (ty := .int) (C := RX3) (T := TX3) (N := 6) hx hb hg inX3 tyX3 tyX3_ok nmX3 hown hKn.1 hP (x_D hKn.2.1) hS (17) (x_at3 (c := 17) (by decide)) rfl 2 (Nat.le_of_ble_eq_true rfl) (nest_use hKn.2.2 nkF_X7_131) (fun _ h9 => h9) rfl (by decide +kernel) rfl rfl (Nat.le_of_ble_eq_true rfl) dX7_make_54 (fun H locs hP _ hS => ?_)
      have hP : va_P (dC, dI) vwCl (x_w kI ad (upd2 M_5 17 2 ((M_5 17 2) ||| (1 <<< (a1 &&& 31))))) H := vp_eq (x_put3_2 (by decide) _) hP
      refine lv_aload_n hx hb dX7_make_57 rfl (lv_at hl 0 rfl) ?_
      refine va_get (D := (dC, dI)) (ci := 7) (v := .ref (ad (17))) (C := RX7) (T := TX7) (N := 14) hx hb hg inX7 hown hKn.1 hP (0) (x_at7 (c := 0) (by decide)) rfl 3 (Nat.le_of_ble_eq_true rfl) (hg _ lkF_X7_29) (fun _ h9 => h9) rfl dX7_make_58 ?_
      refine lv_dup hx hb dX7_make_61 rfl ?_
      refine va_getN (D := (dC, dI)) (ci := 3) (v := .int ((upd2 M_5 17 2 ((M_5 17 2) ||| (1 <<< (a1 &&& 31))) 17 4))) (C := RX3) (T := TX3) (N := 6) hx hb hg inX3 hown hKn.1 hP (17) (x_at3 (c := 17) (by decide)) rfl 4 (Nat.le_of_ble_eq_true rfl) (nest_use hKn.2.2 nkF_X7_125) (fun _ h9 => h9) rfl dX7_make_62 ?_
      refine lv_aload_n hx hb dX7_make_65 rfl (lv_at hl 0 rfl) ?_
      refine va_get (D := (dC, dI)) (ci := 7) (v := .ref (ad (3))) (C := RX7) (T := TX7) (N := 14) hx hb hg inX7 hown hKn.1 hP (0) (x_at7 (c := 0) (by decide)) rfl 1 (Nat.le_of_ble_eq_true rfl) (hg _ lkF_X7_19) (fun _ h9 => h9) rfl dX7_make_66 ?_
      refine va_getN (D := (dC, dI)) (ci := 1) (v := .ref (ad (9))) (C := RX1) (T := TX1) (N := 10) hx hb hg inX1 hown hKn.1 hP (3) (x_at1 (c := 3) (by decide)) rfl 9 (Nat.le_of_ble_eq_true rfl) (nest_use hKn.2.2 nkF_X7_165) (fun _ h9 => h9) rfl dX7_make_69 ?_
      refine lv_iload_n hx hb dX7_make_72 rfl (lv_at hl 1 rfl) ?_
      obtain ⟨r_6, e73, h⟩ := bo_use h
      refine gc_i (va_runS (As := [.ref (ad (9)), .int (a1)]) (rest := [.int ((upd2 M_5 17 2 ((M_5 17 2) ||| (1 <<< (a1 &&& 31))) 17 4)), .ref (ad (17))]) hFx (tX7_at l dC dI kI ad 9 a1 (upd2 M_5 17 2 ((M_5 17 2) ||| (1 <<< (a1 &&& 31)))) (by decide) e73) ⟨(gc_B hFx ck_yX7_at lkM_X7_145 ⟨Nat.le_of_ble_eq_true rfl, Nat.le_of_ble_eq_true rfl⟩ rfl rfl), hg _ st_yX7_at⟩ (gp_S x_KnB (x_KnW hKn) hP) rfl rfl hl.1 rfl (lv_room (Nat.le_of_ble_eq_true rfl)) dX7_make_73 ⟨Nat.zero_le _, Nat.zero_le _⟩) hS (fun H locs hP hS => ?_)
      have hP : va_P (dC, dI) vwCl (x_w kI ad (upd2 M_5 17 2 ((M_5 17 2) ||| (1 <<< (a1 &&& 31))))) H := hP
      refine lv_iadd hx hb dX7_make_76 ?_
      refine va_putN (D := (dC, dI)) (ci := 3) (v := .int (((upd2 M_5 17 2 ((M_5 17 2) ||| (1 <<< (a1 &&& 31))) 17 4) + r_6))) (ty := .int) (C := RX3) (T := TX3) (N := 6) hx hb hg inX3 tyX3 tyX3_ok nmX3 hown hKn.1 hP (x_D hKn.2.1) hS (17) (x_at3 (c := 17) (by decide)) rfl 4 (Nat.le_of_ble_eq_true rfl) (nest_use hKn.2.2 nkF_X7_125) (fun _ h9 => h9) rfl (by decide +kernel) rfl rfl (Nat.le_of_ble_eq_true rfl) dX7_make_77 (fun H locs hP _ hS => ?_)
      have hP : va_P (dC, dI) vwCl (x_w kI ad (upd2 (upd2 M_5 17 2 ((M_5 17 2) ||| (1 <<< (a1 &&& 31)))) 17 4 ((upd2 M_5 17 2 ((M_5 17 2) ||| (1 <<< (a1 &&& 31))) 17 4) + r_6))) H := vp_eq (x_put3_4 (by decide) _) hP
      refine lv_aload_n hx hb dX7_make_80 rfl (lv_at hl 0 rfl) ?_
      refine va_get (D := (dC, dI)) (ci := 7) (v := .ref (ad (17))) (C := RX7) (T := TX7) (N := 14) hx hb hg inX7 hown hKn.1 hP (0) (x_at7 (c := 0) (by decide)) rfl 3 (Nat.le_of_ble_eq_true rfl) (hg _ lkF_X7_29) (fun _ h9 => h9) rfl dX7_make_81 ?_
      refine va_getN (D := (dC, dI)) (ci := 3) (v := .int ((upd2 (upd2 M_5 17 2 ((M_5 17 2) ||| (1 <<< (a1 &&& 31)))) 17 4 ((upd2 M_5 17 2 ((M_5 17 2) ||| (1 <<< (a1 &&& 31))) 17 4) + r_6) 17 4))) (C := RX3) (T := TX3) (N := 6) hx hb hg inX3 hown hKn.1 hP (17) (x_at3 (c := 17) (by decide)) rfl 4 (Nat.le_of_ble_eq_true rfl) (nest_use hKn.2.2 nkF_X7_125) (fun _ h9 => h9) rfl dX7_make_84 ?_
      exact W.iret (v := (upd2 (upd2 M_5 17 2 ((M_5 17 2) ||| (1 <<< (a1 &&& 31)))) 17 4 ((upd2 M_5 17 2 ((M_5 17 2) ||| (1 <<< (a1 &&& 31))) 17 4) + r_6) 17 4)) hx hb hr (fun t ht hW => ⟨⟨(upd2 (upd2 M_5 17 2 ((M_5 17 2) ||| (1 <<< (a1 &&& 31)))) 17 4 ((upd2 M_5 17 2 ((M_5 17 2) ||| (1 <<< (a1 &&& 31))) 17 4) + r_6) 17 4), upd2 (upd2 M_5 17 2 ((M_5 17 2) ||| (1 <<< (a1 &&& 31)))) 17 4 ((upd2 M_5 17 2 ((M_5 17 2) ||| (1 <<< (a1 &&& 31))) 17 4) + r_6), rfl, Prod.mk.inj (Option.some.inj h), by rw [ht]; exact hP, x_KnW hKn t hW⟩, hS.F ht⟩) hS.2.2 dX7_make_87
    · have h := ife_f c_4 h
      refine lv_ldc hx hb hown (hg _ kc_X7_181) dX7_make_28 ?_
      exact W.iret (v := (-1000000003)) hx hb hr (fun t ht hW => ⟨⟨(-1000000003), M, rfl, Prod.mk.inj (Option.some.inj h), by rw [ht]; exact hP, x_KnW hKn t hW⟩, hS.F ht⟩) hS.2.2 dX7_make_30
  · have h := ife_t c_2 h
    refine lv_ldc hx hb hown (hg _ kc_X7_149) dX7_make_11 ?_
    exact W.iret (v := (-1000000001)) hx hb hr (fun t ht hW => ⟨⟨(-1000000001), M, rfl, Prod.mk.inj (Option.some.inj h), by rw [ht]; exact hP, x_KnW hKn t hW⟩, hS.F ht⟩) hS.2.2 dX7_make_13
noncomputable def FX7_meet (a1 : Int32) (a2 : Int32) (M : (Nat → Nat → Int32)) : Option (Int32 × (Nat → Nat → Int32)) :=
  bo (FX1_hasOpinion 3 a1 M) (fun (r_1 : Int32) => (if r_1 = 0 then some ((-1000000001), M) else bo (FX7_isBelief a2) (fun (r_3 : Int32) => (if r_3 = 0 then some ((-1000000002), M) else bo (FX4_push 17 M) (fun (M_5 : (Nat → Nat → Int32)) => bo (FX7_at 18 a1 M_5) (fun (r_6 : Int32) => bo (FX7_behindMeeting r_6 a2) (fun (r_7 : Int32) => bo (FX7_put 18 a1 r_7 M_5) (fun (M_8 : (Nat → Nat → Int32)) => some (r_7, M_8)))))))))
set_option maxHeartbeats 4000000 in
set_option maxRecDepth 100000 in
theorem tX7_meet (l : Launch) (dC : Nat → ClassId) (dI : Nat → Nat → Nat) (kI : ClassId) (ad : Nat → Nat) (a1 : Int32) (a2 : Int32) (M : (Nat → Nat → Int32))  {r0 : Int32} {M0 : (Nat → Nat → Int32)} (h : FX7_meet a1 a2 M = some (r0, M0)) : Met l yX7_meet (wsA yX7_meet cX7_meet 4 (some .int)) ({ frames := 3, cells := 0, slots := 0, locals := 67 } : Room) (va_Pc [.ref (ad (0)), .int (a1), .int (a2)] (gI (x_Wd dC dI kI ad) (x_Kn dC dI kI ad) M)) (va_Qi (fun (r : Int32) (u : (Nat → Nat → Int32)) => r = r0 ∧ u = M0) (gI (x_Wd dC dI kI ad) (x_Kn dC dI kI ad)) (x_A ad)) 0 0 (x_A ad) := by
  refine Met.ofW (cc := cX7_meet) (maxL := 4) (ret := (some .int)) (by decide) rfl ?_
  intro p e s m args below meth c s₁ B hml hv
  obtain ⟨rfl, hP, hKn⟩ := hv
  have hx := B.exec
  have hb := B.bytes
  have hr := B.returns
  have hts := atoms_spec (ws := wsA yX7_meet cX7_meet 4 (some .int)) B.pre
  have hg : ∀ w ∈ lw_good, w.before _ s = true := fun w h => hts w (List.mem_cons_of_mem _ h)
  have hown : s.vm.findClass RX7 = some m.cls := findClass_of_methodNamed B.named
  have hlocks := B.notSynchronized
  have hS : va_S (x_A ad) s.heap s.heap [] := va_S.rf
  have hFx : gFix p c cX7_meet 4 s m _ RX7 := ⟨hx, hb, hml, hown, hg⟩
  have hP : va_P (dC, dI) vwCl (x_w kI ad M) s.heap := hP
  have hl := lv_entry ([.ref (ad (0)), .int (a1), .int (a2)]) (n := 4) (Nat.le_of_ble_eq_true rfl)
  rw [lg_entry_eq]
  generalize (lg_sl ([.ref (ad (0)), .int (a1), .int (a2)]) ++ List.replicate (4 - (lg_sl ([.ref (ad (0)), .int (a1), .int (a2)])).length) Slot.unset).toArray = ls at hl ⊢
  have hl : lv_has ls 4 [(0, .ref (ad (0))), (1, .int (a1)), (2, .int (a2))] := hl
  unfold FX7_meet at h
  refine lv_aload_n hx hb dX7_meet_0 rfl (lv_at hl 0 rfl) ?_
  refine va_get (D := (dC, dI)) (ci := 7) (v := .ref (ad (3))) (C := RX7) (T := TX7) (N := 14) hx hb hg inX7 hown hKn.1 hP (0) (x_at7 (c := 0) (by decide)) rfl 1 (Nat.le_of_ble_eq_true rfl) (hg _ lkF_X7_19) (fun _ h9 => h9) rfl dX7_meet_1 ?_
  refine lv_iload_n hx hb dX7_meet_4 rfl (lv_at hl 1 rfl) ?_
  obtain ⟨r_1, e5, h⟩ := bo_use h
  refine gc_i (va_runVN (As := [.int (a1)]) (rest := []) hFx (tX1_hasOpinion l dC dI kI ad 3 a1 M (by decide) e5) ⟨(gc_N hFx hKn.2.2 ck_yX1_hasOpinion nkM_X7_139 ⟨Nat.le_of_ble_eq_true rfl, Nat.le_of_ble_eq_true rfl⟩ rfl rfl), hg _ vi_yX1_hasOpinion, hg _ vs_yX1_hasOpinion⟩ (gp_V x_KnB (x_KnW hKn) hP (x_rc1 (c := 3) (by decide) hKn hP)) rfl rfl hl.1 rfl (lv_room (Nat.le_of_ble_eq_true rfl)) dX7_meet_5 ⟨Nat.zero_le _, Nat.zero_le _⟩) hS (fun H locs hP hS => ?_)
  have hP : va_P (dC, dI) vwCl (x_w kI ad M) H := hP
  refine lv_if_ne (tgt := 14) hx hb dX7_meet_8 (by decide) (fun c_2 => ?_) (fun c_2 => ?_)
  · have h := ife_f c_2 h
    refine lv_iload_n hx hb dX7_meet_14 rfl (lv_at hl 2 rfl) ?_
    obtain ⟨r_3, e15, h⟩ := bo_use h
    refine gc_i (va_runS (As := [.int (a2)]) (rest := []) hFx (tX7_isBelief l dC dI kI ad a2 M  e15) ⟨(gc_B hFx ck_yX7_isBelief lkM_X7_191 ⟨Nat.le_of_ble_eq_true rfl, Nat.le_of_ble_eq_true rfl⟩ rfl rfl), hg _ st_yX7_isBelief⟩ (gp_S x_KnB (x_KnW hKn) hP) rfl rfl hl.1 rfl (lv_room (Nat.le_of_ble_eq_true rfl)) dX7_meet_15 ⟨Nat.zero_le _, Nat.zero_le _⟩) hS (fun H locs hP hS => ?_)
    have hP : va_P (dC, dI) vwCl (x_w kI ad M) H := hP
    refine lv_if_ne (tgt := 24) hx hb dX7_meet_18 (by decide) (fun c_4 => ?_) (fun c_4 => ?_)
    · have h := ife_f c_4 h
      refine lv_aload_n hx hb dX7_meet_24 rfl (lv_at hl 0 rfl) ?_
      refine va_get (D := (dC, dI)) (ci := 7) (v := .ref (ad (27))) (C := RX7) (T := TX7) (N := 14) hx hb hg inX7 hown hKn.1 hP (0) (x_at7 (c := 0) (by decide)) rfl 7 (Nat.le_of_ble_eq_true rfl) (hg _ lkF_X7_49) (fun _ h9 => h9) rfl dX7_meet_25 ?_
      refine lv_aload_n hx hb dX7_meet_28 rfl (lv_at hl 0 rfl) ?_
      refine va_get (D := (dC, dI)) (ci := 7) (v := .ref (ad (17))) (C := RX7) (T := TX7) (N := 14) hx hb hg inX7 hown hKn.1 hP (0) (x_at7 (c := 0) (by decide)) rfl 3 (Nat.le_of_ble_eq_true rfl) (hg _ lkF_X7_29) (fun _ h9 => h9) rfl dX7_meet_29 ?_
      obtain ⟨M_5, e32, h⟩ := bo_use h
      refine gc_v (va_runVN (As := [.ref (ad (17))]) (rest := []) hFx (tX4_push l dC dI kI ad 17 M (by decide) e32) ⟨(gc_N hFx hKn.2.2 ck_yX4_push nkM_X7_183 ⟨Nat.le_of_ble_eq_true rfl, Nat.le_of_ble_eq_true rfl⟩ rfl rfl), hg _ vi_yX4_push, hg _ vs_yX4_push⟩ (gp_V x_KnB (x_KnW hKn) hP (x_rc4 (c := 27) (by decide) hKn hP)) rfl rfl hl.1 rfl (lv_room (Nat.le_of_ble_eq_true rfl)) dX7_meet_32 ⟨Nat.zero_le _, Nat.zero_le _⟩) hS (fun H locs hP hS => ?_)
      have hP : va_P (dC, dI) vwCl (x_w kI ad M_5) H := hP
      refine lv_aload_n hx hb dX7_meet_35 rfl (lv_at hl 0 rfl) ?_
      refine va_get (D := (dC, dI)) (ci := 7) (v := .ref (ad (17))) (C := RX7) (T := TX7) (N := 14) hx hb hg inX7 hown hKn.1 hP (0) (x_at7 (c := 0) (by decide)) rfl 3 (Nat.le_of_ble_eq_true rfl) (hg _ lkF_X7_29) (fun _ h9 => h9) rfl dX7_meet_36 ?_
      refine va_getN (D := (dC, dI)) (ci := 3) (v := .ref (ad (18))) (C := RX3) (T := TX3) (N := 6) hx hb hg inX3 hown hKn.1 hP (17) (x_at3 (c := 17) (by decide)) rfl 0 (Nat.le_of_ble_eq_true rfl) (nest_use hKn.2.2 nkF_X7_142) (fun _ h9 => h9) rfl dX7_meet_39 ?_
      refine lv_iload_n hx hb dX7_meet_42 rfl (lv_at hl 1 rfl) ?_
      obtain ⟨r_6, e43, h⟩ := bo_use h
      refine gc_i (va_runS (As := [.ref (ad (18)), .int (a1)]) (rest := []) hFx (tX7_at l dC dI kI ad 18 a1 M_5 (by decide) e43) ⟨(gc_B hFx ck_yX7_at lkM_X7_145 ⟨Nat.le_of_ble_eq_true rfl, Nat.le_of_ble_eq_true rfl⟩ rfl rfl), hg _ st_yX7_at⟩ (gp_S x_KnB (x_KnW hKn) hP) rfl rfl hl.1 rfl (lv_room (Nat.le_of_ble_eq_true rfl)) dX7_meet_43 ⟨Nat.zero_le _, Nat.zero_le _⟩) hS (fun H locs hP hS => ?_)
      have hP : va_P (dC, dI) vwCl (x_w kI ad M_5) H := hP
      refine lv_iload_n hx hb dX7_meet_46 rfl (lv_at hl 2 rfl) ?_
      obtain ⟨r_7, e47, h⟩ := bo_use h
      refine gc_i (va_runS (As := [.int (r_6), .int (a2)]) (rest := []) hFx (tX7_behindMeeting l dC dI kI ad r_6 a2 M_5  e47) ⟨(gc_B hFx ck_yX7_behindMeeting lkM_X7_194 ⟨Nat.le_of_ble_eq_true rfl, Nat.le_of_ble_eq_true rfl⟩ rfl rfl), hg _ st_yX7_behindMeeting⟩ (gp_S x_KnB (x_KnW hKn) hP) rfl rfl hl.1 rfl (lv_room (Nat.le_of_ble_eq_true rfl)) dX7_meet_47 ⟨Nat.zero_le _, Nat.zero_le _⟩) hS (fun H locs hP hS => ?_)
      have hP : va_P (dC, dI) vwCl (x_w kI ad M_5) H := hP
      refine lv_istore_n (lv' := [(3, .int (r_7)), (0, .ref (ad (0))), (1, .int (a1)), (2, .int (a2))]) hx hb dX7_meet_50 rfl hl (Nat.le_of_ble_eq_true rfl) rfl (fun ls hl => ?_)
      refine lv_aload_n hx hb dX7_meet_51 rfl (lv_at hl 1 rfl) ?_
      refine va_get (D := (dC, dI)) (ci := 7) (v := .ref (ad (17))) (C := RX7) (T := TX7) (N := 14) hx hb hg inX7 hown hKn.1 hP (0) (x_at7 (c := 0) (by decide)) rfl 3 (Nat.le_of_ble_eq_true rfl) (hg _ lkF_X7_29) (fun _ h9 => h9) rfl dX7_meet_52 ?_
      refine va_getN (D := (dC, dI)) (ci := 3) (v := .ref (ad (18))) (C := RX3) (T := TX3) (N := 6) hx hb hg inX3 hown hKn.1 hP (17) (x_at3 (c := 17) (by decide)) rfl 0 (Nat.le_of_ble_eq_true rfl) (nest_use hKn.2.2 nkF_X7_142) (fun _ h9 => h9) rfl dX7_meet_55 ?_
      refine lv_iload_n hx hb dX7_meet_58 rfl (lv_at hl 2 rfl) ?_
      refine lv_iload_n hx hb dX7_meet_59 rfl (lv_at hl 0 rfl) ?_
      obtain ⟨M_8, e60, h⟩ := bo_use h
      refine gc_v (va_runS (As := [.ref (ad (18)), .int (a1), .int (r_7)]) (rest := []) hFx (tX7_put l dC dI kI ad 18 a1 r_7 M_5 (by decide) e60) ⟨(gc_B hFx ck_yX7_put lkM_X7_198 ⟨Nat.le_of_ble_eq_true rfl, Nat.le_of_ble_eq_true rfl⟩ rfl rfl), hg _ st_yX7_put⟩ (gp_S x_KnB (x_KnW hKn) hP) rfl rfl hl.1 rfl (lv_room (Nat.le_of_ble_eq_true rfl)) dX7_meet_60 ⟨Nat.zero_le _, Nat.zero_le _⟩) hS (fun H locs hP hS => ?_)
      have hP : va_P (dC, dI) vwCl (x_w kI ad M_8) H := hP
      refine lv_iload_n hx hb dX7_meet_63 rfl (lv_at hl 0 rfl) ?_
      exact W.iret (v := r_7) hx hb hr (fun t ht hW => ⟨⟨r_7, M_8, rfl, Prod.mk.inj (Option.some.inj h), by rw [ht]; exact hP, x_KnW hKn t hW⟩, hS.F ht⟩) hS.2.2 dX7_meet_64
    · have h := ife_t c_4 h
      refine lv_ldc hx hb hown (hg _ kc_X7_83) dX7_meet_21 ?_
      exact W.iret (v := (-1000000002)) hx hb hr (fun t ht hW => ⟨⟨(-1000000002), M, rfl, Prod.mk.inj (Option.some.inj h), by rw [ht]; exact hP, x_KnW hKn t hW⟩, hS.F ht⟩) hS.2.2 dX7_meet_23
  · have h := ife_t c_2 h
    refine lv_ldc hx hb hown (hg _ kc_X7_149) dX7_meet_11 ?_
    exact W.iret (v := (-1000000001)) hx hb hr (fun t ht hW => ⟨⟨(-1000000001), M, rfl, Prod.mk.inj (Option.some.inj h), by rw [ht]; exact hP, x_KnW hKn t hW⟩, hS.F ht⟩) hS.2.2 dX7_meet_13
noncomputable def FX7_night (a1 : Int32) (M : (Nat → Nat → Int32)) : Option (Int32 × (Nat → Nat → Int32)) :=
  bo (FX1_hasFacts 3 a1 M) (fun (r_1 : Int32) => (if r_1 = 0 then some ((-1000000001), M) else bo (FX7_mayBe a1 M) (fun (r_3 : Int32) => (if r_3 = 0 then some ((-1000000003), M) else (if (M 17 3) ≤ 90000 then bo (FX4_push 17 M) (fun (M_6 : (Nat → Nat → Int32)) => bo (FX3_spendNight 17 3 a1 M_6) (fun (M_7 : (Nat → Nat → Int32)) => some ((M_7 17 5), M_7))) else some ((-1000000004), M))))))
set_option maxHeartbeats 4000000 in
set_option maxRecDepth 100000 in
theorem tX7_night (l : Launch) (dC : Nat → ClassId) (dI : Nat → Nat → Nat) (kI : ClassId) (ad : Nat → Nat) (a1 : Int32) (M : (Nat → Nat → Int32))  {r0 : Int32} {M0 : (Nat → Nat → Int32)} (h : FX7_night a1 M = some (r0, M0)) : Met l yX7_night (wsA yX7_night cX7_night 2 (some .int)) ({ frames := 3, cells := 0, slots := 0, locals := 72 } : Room) (va_Pc [.ref (ad (0)), .int (a1)] (gI (x_Wd dC dI kI ad) (x_Kn dC dI kI ad) M)) (va_Qi (fun (r : Int32) (u : (Nat → Nat → Int32)) => r = r0 ∧ u = M0) (gI (x_Wd dC dI kI ad) (x_Kn dC dI kI ad)) (x_A ad)) 0 0 (x_A ad) := by
  refine Met.ofW (cc := cX7_night) (maxL := 2) (ret := (some .int)) (by decide) rfl ?_
  intro p e s m args below meth c s₁ B hml hv
  obtain ⟨rfl, hP, hKn⟩ := hv
  have hx := B.exec
  have hb := B.bytes
  have hr := B.returns
  have hts := atoms_spec (ws := wsA yX7_night cX7_night 2 (some .int)) B.pre
  have hg : ∀ w ∈ lw_good, w.before _ s = true := fun w h => hts w (List.mem_cons_of_mem _ h)
  have hown : s.vm.findClass RX7 = some m.cls := findClass_of_methodNamed B.named
  have hlocks := B.notSynchronized
  have hS : va_S (x_A ad) s.heap s.heap [] := va_S.rf
  have hFx : gFix p c cX7_night 2 s m _ RX7 := ⟨hx, hb, hml, hown, hg⟩
  have hP : va_P (dC, dI) vwCl (x_w kI ad M) s.heap := hP
  have hl := lv_entry ([.ref (ad (0)), .int (a1)]) (n := 2) (Nat.le_of_ble_eq_true rfl)
  rw [lg_entry_eq]
  generalize (lg_sl ([.ref (ad (0)), .int (a1)]) ++ List.replicate (2 - (lg_sl ([.ref (ad (0)), .int (a1)])).length) Slot.unset).toArray = ls at hl ⊢
  have hl : lv_has ls 2 [(0, .ref (ad (0))), (1, .int (a1))] := hl
  unfold FX7_night at h
  refine lv_aload_n hx hb dX7_night_0 rfl (lv_at hl 0 rfl) ?_
  refine va_get (D := (dC, dI)) (ci := 7) (v := .ref (ad (3))) (C := RX7) (T := TX7) (N := 14) hx hb hg inX7 hown hKn.1 hP (0) (x_at7 (c := 0) (by decide)) rfl 1 (Nat.le_of_ble_eq_true rfl) (hg _ lkF_X7_19) (fun _ h9 => h9) rfl dX7_night_1 ?_
  refine lv_iload_n hx hb dX7_night_4 rfl (lv_at hl 1 rfl) ?_
  obtain ⟨r_1, e5, h⟩ := bo_use h
  refine gc_i (va_runVN (As := [.int (a1)]) (rest := []) hFx (tX1_hasFacts l dC dI kI ad 3 a1 M (by decide) e5) ⟨(gc_N hFx hKn.2.2 ck_yX1_hasFacts nkM_X7_175 ⟨Nat.le_of_ble_eq_true rfl, Nat.le_of_ble_eq_true rfl⟩ rfl rfl), hg _ vi_yX1_hasFacts, hg _ vs_yX1_hasFacts⟩ (gp_V x_KnB (x_KnW hKn) hP (x_rc1 (c := 3) (by decide) hKn hP)) rfl rfl hl.1 rfl (lv_room (Nat.le_of_ble_eq_true rfl)) dX7_night_5 ⟨Nat.zero_le _, Nat.zero_le _⟩) hS (fun H locs hP hS => ?_)
  have hP : va_P (dC, dI) vwCl (x_w kI ad M) H := hP
  refine lv_if_ne (tgt := 14) hx hb dX7_night_8 (by decide) (fun c_2 => ?_) (fun c_2 => ?_)
  · have h := ife_f c_2 h
    refine lv_aload_n hx hb dX7_night_14 rfl (lv_at hl 0 rfl) ?_
    refine lv_iload_n hx hb dX7_night_15 rfl (lv_at hl 1 rfl) ?_
    obtain ⟨r_3, e16, h⟩ := bo_use h
    refine gc_i (va_runV (As := [.int (a1)]) (rest := []) hFx (tX7_mayBe l dC dI kI ad a1 M  e16) ⟨(gc_B hFx ck_yX7_mayBe lkM_X7_178 ⟨Nat.le_of_ble_eq_true rfl, Nat.le_of_ble_eq_true rfl⟩ rfl rfl), hg _ vi_yX7_mayBe, hg _ vs_yX7_mayBe⟩ (gp_V x_KnB (x_KnW hKn) hP (x_rc7 (c := 0) (by decide) hKn hP)) rfl rfl hl.1 rfl (lv_room (Nat.le_of_ble_eq_true rfl)) dX7_night_16 ⟨Nat.zero_le _, Nat.zero_le _⟩) hS (fun H locs hP hS => ?_)
    have hP : va_P (dC, dI) vwCl (x_w kI ad M) H := hP
    refine lv_if_ne (tgt := 25) hx hb dX7_night_19 (by decide) (fun c_4 => ?_) (fun c_4 => ?_)
    · have h := ife_f c_4 h
      refine lv_aload_n hx hb dX7_night_25 rfl (lv_at hl 0 rfl) ?_
      refine va_get (D := (dC, dI)) (ci := 7) (v := .ref (ad (17))) (C := RX7) (T := TX7) (N := 14) hx hb hg inX7 hown hKn.1 hP (0) (x_at7 (c := 0) (by decide)) rfl 3 (Nat.le_of_ble_eq_true rfl) (hg _ lkF_X7_29) (fun _ h9 => h9) rfl dX7_night_26 ?_
      refine va_getN (D := (dC, dI)) (ci := 3) (v := .int ((M 17 3))) (C := RX3) (T := TX3) (N := 6) hx hb hg inX3 hown hKn.1 hP (17) (x_at3 (c := 17) (by decide)) rfl 3 (Nat.le_of_ble_eq_true rfl) (nest_use hKn.2.2 nkF_X7_122) (fun _ h9 => h9) rfl dX7_night_29 ?_
      refine lv_ldc hx hb hown (hg _ kc_X7_182) dX7_night_32 ?_
      refine lv_icmp_le (tgt := 40) hx hb dX7_night_34 (by decide) (fun c_5 => ?_) (fun c_5 => ?_)
      · have h := ife_t c_5 h
        refine lv_aload_n hx hb dX7_night_40 rfl (lv_at hl 0 rfl) ?_
        refine va_get (D := (dC, dI)) (ci := 7) (v := .ref (ad (27))) (C := RX7) (T := TX7) (N := 14) hx hb hg inX7 hown hKn.1 hP (0) (x_at7 (c := 0) (by decide)) rfl 7 (Nat.le_of_ble_eq_true rfl) (hg _ lkF_X7_49) (fun _ h9 => h9) rfl dX7_night_41 ?_
        refine lv_aload_n hx hb dX7_night_44 rfl (lv_at hl 0 rfl) ?_
        refine va_get (D := (dC, dI)) (ci := 7) (v := .ref (ad (17))) (C := RX7) (T := TX7) (N := 14) hx hb hg inX7 hown hKn.1 hP (0) (x_at7 (c := 0) (by decide)) rfl 3 (Nat.le_of_ble_eq_true rfl) (hg _ lkF_X7_29) (fun _ h9 => h9) rfl dX7_night_45 ?_
        obtain ⟨M_6, e48, h⟩ := bo_use h
        refine gc_v (va_runVN (As := [.ref (ad (17))]) (rest := []) hFx (tX4_push l dC dI kI ad 17 M (by decide) e48) ⟨(gc_N hFx hKn.2.2 ck_yX4_push nkM_X7_183 ⟨Nat.le_of_ble_eq_true rfl, Nat.le_of_ble_eq_true rfl⟩ rfl rfl), hg _ vi_yX4_push, hg _ vs_yX4_push⟩ (gp_V x_KnB (x_KnW hKn) hP (x_rc4 (c := 27) (by decide) hKn hP)) rfl rfl hl.1 rfl (lv_room (Nat.le_of_ble_eq_true rfl)) dX7_night_48 ⟨Nat.zero_le _, Nat.zero_le _⟩) hS (fun H locs hP hS => ?_)
        have hP : va_P (dC, dI) vwCl (x_w kI ad M_6) H := hP
        refine lv_aload_n hx hb dX7_night_51 rfl (lv_at hl 0 rfl) ?_
        refine va_get (D := (dC, dI)) (ci := 7) (v := .ref (ad (17))) (C := RX7) (T := TX7) (N := 14) hx hb hg inX7 hown hKn.1 hP (0) (x_at7 (c := 0) (by decide)) rfl 3 (Nat.le_of_ble_eq_true rfl) (hg _ lkF_X7_29) (fun _ h9 => h9) rfl dX7_night_52 ?_
        refine lv_aload_n hx hb dX7_night_55 rfl (lv_at hl 0 rfl) ?_
        refine va_get (D := (dC, dI)) (ci := 7) (v := .ref (ad (3))) (C := RX7) (T := TX7) (N := 14) hx hb hg inX7 hown hKn.1 hP (0) (x_at7 (c := 0) (by decide)) rfl 1 (Nat.le_of_ble_eq_true rfl) (hg _ lkF_X7_19) (fun _ h9 => h9) rfl dX7_night_56 ?_
        refine lv_iload_n hx hb dX7_night_59 rfl (lv_at hl 1 rfl) ?_
        obtain ⟨M_7, e60, h⟩ := bo_use h
        refine gc_v (va_runVN (As := [.ref (ad (3)), .int (a1)]) (rest := []) hFx (tX3_spendNight l dC dI kI ad 17 3 a1 M_6 (by decide) (by decide) e60) ⟨(gc_N hFx hKn.2.2 ck_yX3_spendNight nkM_X7_187 ⟨Nat.le_of_ble_eq_true rfl, Nat.le_of_ble_eq_true rfl⟩ rfl rfl), hg _ vi_yX3_spendNight, hg _ vs_yX3_spendNight⟩ (gp_V x_KnB (x_KnW hKn) hP (x_rc3 (c := 17) (by decide) hKn hP)) rfl rfl hl.1 rfl (lv_room (Nat.le_of_ble_eq_true rfl)) dX7_night_60 ⟨Nat.zero_le _, Nat.zero_le _⟩) hS (fun H locs hP hS => ?_)
        have hP : va_P (dC, dI) vwCl (x_w kI ad M_7) H := hP
        refine lv_aload_n hx hb dX7_night_63 rfl (lv_at hl 0 rfl) ?_
        refine va_get (D := (dC, dI)) (ci := 7) (v := .ref (ad (17))) (C := RX7) (T := TX7) (N := 14) hx hb hg inX7 hown hKn.1 hP (0) (x_at7 (c := 0) (by decide)) rfl 3 (Nat.le_of_ble_eq_true rfl) (hg _ lkF_X7_29) (fun _ h9 => h9) rfl dX7_night_64 ?_
        refine va_getN (D := (dC, dI)) (ci := 3) (v := .int ((M_7 17 5))) (C := RX3) (T := TX3) (N := 6) hx hb hg inX3 hown hKn.1 hP (17) (x_at3 (c := 17) (by decide)) rfl 5 (Nat.le_of_ble_eq_true rfl) (nest_use hKn.2.2 nkF_X7_134) (fun _ h9 => h9) rfl dX7_night_67 ?_
        exact W.iret (v := (M_7 17 5)) hx hb hr (fun t ht hW => ⟨⟨(M_7 17 5), M_7, rfl, Prod.mk.inj (Option.some.inj h), by rw [ht]; exact hP, x_KnW hKn t hW⟩, hS.F ht⟩) hS.2.2 dX7_night_70
      · have h := ife_f c_5 h
        refine lv_ldc hx hb hown (hg _ kc_X7_91) dX7_night_37 ?_
        exact W.iret (v := (-1000000004)) hx hb hr (fun t ht hW => ⟨⟨(-1000000004), M, rfl, Prod.mk.inj (Option.some.inj h), by rw [ht]; exact hP, x_KnW hKn t hW⟩, hS.F ht⟩) hS.2.2 dX7_night_39
    · have h := ife_t c_4 h
      refine lv_ldc hx hb hown (hg _ kc_X7_181) dX7_night_22 ?_
      exact W.iret (v := (-1000000003)) hx hb hr (fun t ht hW => ⟨⟨(-1000000003), M, rfl, Prod.mk.inj (Option.some.inj h), by rw [ht]; exact hP, x_KnW hKn t hW⟩, hS.F ht⟩) hS.2.2 dX7_night_24
  · have h := ife_t c_2 h
    refine lv_ldc hx hb hown (hg _ kc_X7_149) dX7_night_11 ?_
    exact W.iret (v := (-1000000001)) hx hb hr (fun t ht hW => ⟨⟨(-1000000001), M, rfl, Prod.mk.inj (Option.some.inj h), by rw [ht]; exact hP, x_KnW hKn t hW⟩, hS.F ht⟩) hS.2.2 dX7_night_13
noncomputable def FX7_noteIn (c1 : Nat) (a2 : Int32) (a3 : Int32) (M : (Nat → Nat → Int32)) : Option (Int32 × (Nat → Nat → Int32)) :=
  bo (FX1_hasOpinion 3 a2 M) (fun (r_1 : Int32) => (if r_1 = 0 then some ((-1000000001), M) else bo (FX7_isBelief a3) (fun (r_3 : Int32) => (if r_3 = 0 then some ((-1000000002), M) else bd (FX0_append c1 a2 a3 M) (fun (r_5 : Int32) (M_6 : (Nat → Nat → Int32)) => (if r_5 = 0 then some ((-1000000004), M_6) else some ((M_6 c1 2), M_6)))))))
set_option maxHeartbeats 4000000 in
set_option maxRecDepth 100000 in
theorem tX7_noteIn (l : Launch) (dC : Nat → ClassId) (dI : Nat → Nat → Nat) (kI : ClassId) (ad : Nat → Nat) (c1 : Nat) (a2 : Int32) (a3 : Int32) (M : (Nat → Nat → Int32)) (h1 : x_is0 c1) {r0 : Int32} {M0 : (Nat → Nat → Int32)} (h : FX7_noteIn c1 a2 a3 M = some (r0, M0)) : Met l yX7_noteIn (wsA yX7_noteIn cX7_noteIn 4 (some .int)) ({ frames := 2, cells := 0, slots := 0, locals := 44 } : Room) (va_Pc [.ref (ad (0)), .ref (ad (c1)), .int (a2), .int (a3)] (gI (x_Wd dC dI kI ad) (x_Kn dC dI kI ad) M)) (va_Qi (fun (r : Int32) (u : (Nat → Nat → Int32)) => r = r0 ∧ u = M0) (gI (x_Wd dC dI kI ad) (x_Kn dC dI kI ad)) (x_A ad)) 0 0 (x_A ad) := by
  refine Met.ofW (cc := cX7_noteIn) (maxL := 4) (ret := (some .int)) (by decide) rfl ?_
  intro p e s m args below meth c s₁ B hml hv
  obtain ⟨rfl, hP, hKn⟩ := hv
  have hx := B.exec
  have hb := B.bytes
  have hr := B.returns
  have hts := atoms_spec (ws := wsA yX7_noteIn cX7_noteIn 4 (some .int)) B.pre
  have hg : ∀ w ∈ lw_good, w.before _ s = true := fun w h => hts w (List.mem_cons_of_mem _ h)
  have hown : s.vm.findClass RX7 = some m.cls := findClass_of_methodNamed B.named
  have hlocks := B.notSynchronized
  have hS : va_S (x_A ad) s.heap s.heap [] := va_S.rf
  have hFx : gFix p c cX7_noteIn 4 s m _ RX7 := ⟨hx, hb, hml, hown, hg⟩
  have hP : va_P (dC, dI) vwCl (x_w kI ad M) s.heap := hP
  have hl := lv_entry ([.ref (ad (0)), .ref (ad (c1)), .int (a2), .int (a3)]) (n := 4) (Nat.le_of_ble_eq_true rfl)
  rw [lg_entry_eq]
  generalize (lg_sl ([.ref (ad (0)), .ref (ad (c1)), .int (a2), .int (a3)]) ++ List.replicate (4 - (lg_sl ([.ref (ad (0)), .ref (ad (c1)), .int (a2), .int (a3)])).length) Slot.unset).toArray = ls at hl ⊢
  have hl : lv_has ls 4 [(0, .ref (ad (0))), (1, .ref (ad (c1))), (2, .int (a2)), (3, .int (a3))] := hl
  unfold FX7_noteIn at h
  refine lv_aload_n hx hb dX7_noteIn_0 rfl (lv_at hl 0 rfl) ?_
  refine va_get (D := (dC, dI)) (ci := 7) (v := .ref (ad (3))) (C := RX7) (T := TX7) (N := 14) hx hb hg inX7 hown hKn.1 hP (0) (x_at7 (c := 0) (by decide)) rfl 1 (Nat.le_of_ble_eq_true rfl) (hg _ lkF_X7_19) (fun _ h9 => h9) rfl dX7_noteIn_1 ?_
  refine lv_iload_n hx hb dX7_noteIn_4 rfl (lv_at hl 2 rfl) ?_
  obtain ⟨r_1, e5, h⟩ := bo_use h
  refine gc_i (va_runVN (As := [.int (a2)]) (rest := []) hFx (tX1_hasOpinion l dC dI kI ad 3 a2 M (by decide) e5) ⟨(gc_N hFx hKn.2.2 ck_yX1_hasOpinion nkM_X7_139 ⟨Nat.le_of_ble_eq_true rfl, Nat.le_of_ble_eq_true rfl⟩ rfl rfl), hg _ vi_yX1_hasOpinion, hg _ vs_yX1_hasOpinion⟩ (gp_V x_KnB (x_KnW hKn) hP (x_rc1 (c := 3) (by decide) hKn hP)) rfl rfl hl.1 rfl (lv_room (Nat.le_of_ble_eq_true rfl)) dX7_noteIn_5 ⟨Nat.zero_le _, Nat.zero_le _⟩) hS (fun H locs hP hS => ?_)
  have hP : va_P (dC, dI) vwCl (x_w kI ad M) H := hP
  refine lv_if_ne (tgt := 14) hx hb dX7_noteIn_8 (by decide) (fun c_2 => ?_) (fun c_2 => ?_)
  · have h := ife_f c_2 h
    refine lv_iload_n hx hb dX7_noteIn_14 rfl (lv_at hl 3 rfl) ?_
    obtain ⟨r_3, e15, h⟩ := bo_use h
    refine gc_i (va_runS (As := [.int (a3)]) (rest := []) hFx (tX7_isBelief l dC dI kI ad a3 M  e15) ⟨(gc_B hFx ck_yX7_isBelief lkM_X7_191 ⟨Nat.le_of_ble_eq_true rfl, Nat.le_of_ble_eq_true rfl⟩ rfl rfl), hg _ st_yX7_isBelief⟩ (gp_S x_KnB (x_KnW hKn) hP) rfl rfl hl.1 rfl (lv_room (Nat.le_of_ble_eq_true rfl)) dX7_noteIn_15 ⟨Nat.zero_le _, Nat.zero_le _⟩) hS (fun H locs hP hS => ?_)
    have hP : va_P (dC, dI) vwCl (x_w kI ad M) H := hP
    refine lv_if_ne (tgt := 24) hx hb dX7_noteIn_18 (by decide) (fun c_4 => ?_) (fun c_4 => ?_)
    · have h := ife_f c_4 h
      refine lv_aload_n hx hb dX7_noteIn_24 rfl (lv_at hl 1 rfl) ?_
      refine lv_iload_n hx hb dX7_noteIn_25 rfl (lv_at hl 2 rfl) ?_
      refine lv_iload_n hx hb dX7_noteIn_26 rfl (lv_at hl 3 rfl) ?_
      obtain ⟨r_5, M_6, e27, h⟩ := bd_use h
      refine gc_i (va_runVN (As := [.int (a2), .int (a3)]) (rest := []) hFx (tX0_append l dC dI kI ad c1 a2 a3 M h1 e27) ⟨(gc_N hFx hKn.2.2 ck_yX0_append nkM_X7_278 ⟨Nat.le_of_ble_eq_true rfl, Nat.le_of_ble_eq_true rfl⟩ rfl rfl), hg _ vi_yX0_append, hg _ vs_yX0_append⟩ (gp_V x_KnB (x_KnW hKn) hP (x_rc0 (c := c1) h1 hKn hP)) rfl rfl hl.1 rfl (lv_room (Nat.le_of_ble_eq_true rfl)) dX7_noteIn_27 ⟨Nat.zero_le _, Nat.zero_le _⟩) hS (fun H locs hP hS => ?_)
      have hP : va_P (dC, dI) vwCl (x_w kI ad M_6) H := hP
      refine lv_if_eq (tgt := 40) hx hb dX7_noteIn_30 (by decide) (fun c_7 => ?_) (fun c_7 => ?_)
      · have h := ife_t c_7 h
        refine lv_ldc hx hb hown (hg _ kc_X7_91) dX7_noteIn_40 ?_
        exact W.iret (v := (-1000000004)) hx hb hr (fun t ht hW => ⟨⟨(-1000000004), M_6, rfl, Prod.mk.inj (Option.some.inj h), by rw [ht]; exact hP, x_KnW hKn t hW⟩, hS.F ht⟩) hS.2.2 dX7_noteIn_42
      · have h := ife_f c_7 h
        refine lv_aload_n hx hb dX7_noteIn_33 rfl (lv_at hl 1 rfl) ?_
        refine va_getN (D := (dC, dI)) (ci := 0) (v := .int ((M_6 c1 2))) (C := RX0) (T := TX0) (N := 3) hx hb hg inX0 hown hKn.1 hP (c1) (x_at0 (c := c1) h1) rfl 2 (Nat.le_of_ble_eq_true rfl) (nest_use hKn.2.2 nkF_X7_137) (fun _ h9 => h9) rfl dX7_noteIn_34 ?_
        refine lv_goto (tgt := 42) hx hb dX7_noteIn_37 (by decide) ?_
        exact W.iret (v := (M_6 c1 2)) hx hb hr (fun t ht hW => ⟨⟨(M_6 c1 2), M_6, rfl, Prod.mk.inj (Option.some.inj h), by rw [ht]; exact hP, x_KnW hKn t hW⟩, hS.F ht⟩) hS.2.2 dX7_noteIn_42
    · have h := ife_t c_4 h
      refine lv_ldc hx hb hown (hg _ kc_X7_83) dX7_noteIn_21 ?_
      exact W.iret (v := (-1000000002)) hx hb hr (fun t ht hW => ⟨⟨(-1000000002), M, rfl, Prod.mk.inj (Option.some.inj h), by rw [ht]; exact hP, x_KnW hKn t hW⟩, hS.F ht⟩) hS.2.2 dX7_noteIn_23
  · have h := ife_t c_2 h
    refine lv_ldc hx hb hown (hg _ kc_X7_149) dX7_noteIn_11 ?_
    exact W.iret (v := (-1000000001)) hx hb hr (fun t ht hW => ⟨⟨(-1000000001), M, rfl, Prod.mk.inj (Option.some.inj h), by rw [ht]; exact hP, x_KnW hKn t hW⟩, hS.F ht⟩) hS.2.2 dX7_noteIn_13
noncomputable def FX7_seed (a1 : Int32) (M : (Nat → Nat → Int32)) : Option (Int32 × (Nat → Nat → Int32)) :=
  (if 0 ≤ a1 then some ((M 0 11), upd2 M 0 11 a1) else some ((-1000000002), M))
set_option maxHeartbeats 4000000 in
set_option maxRecDepth 100000 in
theorem tX7_seed (l : Launch) (dC : Nat → ClassId) (dI : Nat → Nat → Nat) (kI : ClassId) (ad : Nat → Nat) (a1 : Int32) (M : (Nat → Nat → Int32))  {r0 : Int32} {M0 : (Nat → Nat → Int32)} (h : FX7_seed a1 M = some (r0, M0)) : Met l yX7_seed (wsA yX7_seed cX7_seed 3 (some .int)) ({ frames := 0, cells := 0, slots := 0, locals := 0 } : Room) (va_Pc [.ref (ad (0)), .int (a1)] (gI (x_Wd dC dI kI ad) (x_Kn dC dI kI ad) M)) (va_Qi (fun (r : Int32) (u : (Nat → Nat → Int32)) => r = r0 ∧ u = M0) (gI (x_Wd dC dI kI ad) (x_Kn dC dI kI ad)) (x_A ad)) 0 0 (x_A ad) := by
  refine Met.ofW (cc := cX7_seed) (maxL := 3) (ret := (some .int)) (by decide) rfl ?_
  intro p e s m args below meth c s₁ B hml hv
  obtain ⟨rfl, hP, hKn⟩ := hv
  have hx := B.exec
  have hb := B.bytes
  have hr := B.returns
  have hts := atoms_spec (ws := wsA yX7_seed cX7_seed 3 (some .int)) B.pre
  have hg : ∀ w ∈ lw_good, w.before _ s = true := fun w h => hts w (List.mem_cons_of_mem _ h)
  have hown : s.vm.findClass RX7 = some m.cls := findClass_of_methodNamed B.named
  have hlocks := B.notSynchronized
  have hS : va_S (x_A ad) s.heap s.heap [] := va_S.rf
  have hFx : gFix p c cX7_seed 3 s m _ RX7 := ⟨hx, hb, hml, hown, hg⟩
  have hP : va_P (dC, dI) vwCl (x_w kI ad M) s.heap := hP
  have hl := lv_entry ([.ref (ad (0)), .int (a1)]) (n := 3) (Nat.le_of_ble_eq_true rfl)
  rw [lg_entry_eq]
  generalize (lg_sl ([.ref (ad (0)), .int (a1)]) ++ List.replicate (3 - (lg_sl ([.ref (ad (0)), .int (a1)])).length) Slot.unset).toArray = ls at hl ⊢
  have hl : lv_has ls 3 [(0, .ref (ad (0))), (1, .int (a1))] := hl
  unfold FX7_seed at h
  refine lv_iload_n hx hb dX7_seed_0 rfl (lv_at hl 1 rfl) ?_
  refine lv_if_ge (tgt := 7) hx hb dX7_seed_1 (by decide) (fun c_1 => ?_) (fun c_1 => ?_)
  · have h := ife_t c_1 h
    refine lv_aload_n hx hb dX7_seed_7 rfl (lv_at hl 0 rfl) ?_
    refine va_get (D := (dC, dI)) (ci := 7) (v := .int ((M 0 11))) (C := RX7) (T := TX7) (N := 14) hx hb hg inX7 hown hKn.1 hP (0) (x_at7 (c := 0) (by decide)) rfl 11 (Nat.le_of_ble_eq_true rfl) (hg _ lkF_X7_70) (fun _ h9 => h9) rfl dX7_seed_8 ?_
    refine lv_istore_n (lv' := [(2, .int ((M 0 11))), (0, .ref (ad (0))), (1, .int (a1))]) hx hb dX7_seed_11 rfl hl (Nat.le_of_ble_eq_true rfl) rfl (fun ls hl => ?_)
    refine lv_aload_n hx hb dX7_seed_12 rfl (lv_at hl 1 rfl) ?_
    refine lv_iload_n hx hb dX7_seed_13 rfl (lv_at hl 2 rfl) ?_
    refine va_put (D := (dC, dI)) (ci := 7) (v := .int (a1)) (ty := .int) (C := RX7) (T := TX7) (N := 14) hx hb hg inX7 tyX7 tyX7_ok nmX7 hown hKn.1 hP (x_D hKn.2.1) hS (0) (x_at7 (c := 0) (by decide)) rfl 11 (Nat.le_of_ble_eq_true rfl) (hg _ lkF_X7_70) (fun _ h9 => h9) rfl (by decide +kernel) rfl rfl (Nat.le_of_ble_eq_true rfl) dX7_seed_14 (fun H locs hP _ hS => ?_)
    have hP : va_P (dC, dI) vwCl (x_w kI ad (upd2 M 0 11 a1)) H := vp_eq (x_put7_11 (by decide) _) hP
    refine lv_iload_n hx hb dX7_seed_17 rfl (lv_at hl 0 rfl) ?_
    exact W.iret (v := (M 0 11)) hx hb hr (fun t ht hW => ⟨⟨(M 0 11), upd2 M 0 11 a1, rfl, Prod.mk.inj (Option.some.inj h), by rw [ht]; exact hP, x_KnW hKn t hW⟩, hS.F ht⟩) hS.2.2 dX7_seed_18
  · have h := ife_f c_1 h
    refine lv_ldc hx hb hown (hg _ kc_X7_83) dX7_seed_4 ?_
    exact W.iret (v := (-1000000002)) hx hb hr (fun t ht hW => ⟨⟨(-1000000002), M, rfl, Prod.mk.inj (Option.some.inj h), by rw [ht]; exact hP, x_KnW hKn t hW⟩, hS.F ht⟩) hS.2.2 dX7_seed_6
noncomputable def FX7_shun_L47 (b2 : Int32) (b3 : Int32) (M : (Nat → Nat → Int32)) (K : Int32 → Int32 → Option Int32) (k : Nat) (v4_9 : Int32) (v5_10 : Int32) (v6_11 : Int32) : Option Int32 := match k with
  | 0 => none
  | k + 1 => (if 20 < v6_11 then K v4_9 v5_10 else (if b3 < (M 3 3) then K v4_9 v5_10 else bo (FX7_behindMeeting b3 v6_11) (fun (r_14 : Int32) => jn (fun (j4_15 : Int32) (j5_16 : Int32) => FX7_shun_L47 b2 b3 M K k j4_15 j5_16 (v6_11 + 1)) (fun J100 => (if (M 3 3) ≤ r_14 then J100 v4_9 v5_10 else jn (fun (s_18 : Int32) => J100 s_18 v6_11) (fun J94 => (if v4_9 = (-1) then J94 v6_11 else J94 v4_9)))))))
noncomputable def FX7_shun (a1 : Int32) (a2 : Int32) (M : (Nat → Nat → Int32)) : Option Int32 :=
  bo (FX1_hasOpinion 3 a1 M) (fun (r_1 : Int32) => (if r_1 = 0 then some (-1000000001) else (if a2 < 0 then some (-1000000002) else (if a2 ≤ 1 then bo (FX7_at 18 a1 M) (fun (r_5 : Int32) => FX7_shun_L47 a2 r_5 M (fun (k4_6 : Int32) (k5_7 : Int32) => (if a2 = 0 then some k4_6 else some k5_7)) fuelN (-1) (-1) 0) else some (-1000000002)))))
set_option maxHeartbeats 4000000 in
set_option maxRecDepth 100000 in
theorem tX7_shun (l : Launch) (dC : Nat → ClassId) (dI : Nat → Nat → Nat) (kI : ClassId) (ad : Nat → Nat) (a1 : Int32) (a2 : Int32) (M : (Nat → Nat → Int32))  {r0 : Int32} (h : FX7_shun a1 a2 M = some r0) : Met l yX7_shun (wsA yX7_shun cX7_shun 7 (some .int)) ({ frames := 1, cells := 0, slots := 0, locals := 21 } : Room) (va_Pc [.ref (ad (0)), .int (a1), .int (a2)] (gI (x_Wd dC dI kI ad) (x_Kn dC dI kI ad) M)) (va_Qi (fun (r : Int32) (u : (Nat → Nat → Int32)) => r = r0 ∧ u = M) (gI (x_Wd dC dI kI ad) (x_Kn dC dI kI ad)) (x_A ad)) 0 0 (x_A ad) := by
  refine Met.ofW (cc := cX7_shun) (maxL := 7) (ret := (some .int)) (by decide) rfl ?_
  intro p e s m args below meth c s₁ B hml hv
  obtain ⟨rfl, hP, hKn⟩ := hv
  have hx := B.exec
  have hb := B.bytes
  have hr := B.returns
  have hts := atoms_spec (ws := wsA yX7_shun cX7_shun 7 (some .int)) B.pre
  have hg : ∀ w ∈ lw_good, w.before _ s = true := fun w h => hts w (List.mem_cons_of_mem _ h)
  have hown : s.vm.findClass RX7 = some m.cls := findClass_of_methodNamed B.named
  have hlocks := B.notSynchronized
  have hS : va_S (x_A ad) s.heap s.heap [] := va_S.rf
  have hFx : gFix p c cX7_shun 7 s m _ RX7 := ⟨hx, hb, hml, hown, hg⟩
  have hP : va_P (dC, dI) vwCl (x_w kI ad M) s.heap := hP
  have hl := lv_entry ([.ref (ad (0)), .int (a1), .int (a2)]) (n := 7) (Nat.le_of_ble_eq_true rfl)
  rw [lg_entry_eq]
  generalize (lg_sl ([.ref (ad (0)), .int (a1), .int (a2)]) ++ List.replicate (7 - (lg_sl ([.ref (ad (0)), .int (a1), .int (a2)])).length) Slot.unset).toArray = ls at hl ⊢
  have hl : lv_has ls 7 [(0, .ref (ad (0))), (1, .int (a1)), (2, .int (a2))] := hl
  unfold FX7_shun at h
  refine lv_aload_n hx hb dX7_shun_0 rfl (lv_at hl 0 rfl) ?_
  refine va_get (D := (dC, dI)) (ci := 7) (v := .ref (ad (3))) (C := RX7) (T := TX7) (N := 14) hx hb hg inX7 hown hKn.1 hP (0) (x_at7 (c := 0) (by decide)) rfl 1 (Nat.le_of_ble_eq_true rfl) (hg _ lkF_X7_19) (fun _ h9 => h9) rfl dX7_shun_1 ?_
  refine lv_iload_n hx hb dX7_shun_4 rfl (lv_at hl 1 rfl) ?_
  obtain ⟨r_1, e5, h⟩ := bo_use h
  refine gc_i (va_runVN (As := [.int (a1)]) (rest := []) hFx (tX1_hasOpinion l dC dI kI ad 3 a1 M (by decide) e5) ⟨(gc_N hFx hKn.2.2 ck_yX1_hasOpinion nkM_X7_139 ⟨Nat.le_of_ble_eq_true rfl, Nat.le_of_ble_eq_true rfl⟩ rfl rfl), hg _ vi_yX1_hasOpinion, hg _ vs_yX1_hasOpinion⟩ (gp_V x_KnB (x_KnW hKn) hP (x_rc1 (c := 3) (by decide) hKn hP)) rfl rfl hl.1 rfl (lv_room (Nat.le_of_ble_eq_true rfl)) dX7_shun_5 ⟨Nat.zero_le _, Nat.zero_le _⟩) hS (fun H locs hP hS => ?_)
  have hP : va_P (dC, dI) vwCl (x_w kI ad M) H := hP
  refine lv_if_ne (tgt := 14) hx hb dX7_shun_8 (by decide) (fun c_2 => ?_) (fun c_2 => ?_)
  · have h := ife_f c_2 h
    refine lv_iload_n hx hb dX7_shun_14 rfl (lv_at hl 2 rfl) ?_
    refine lv_if_lt (tgt := 23) hx hb dX7_shun_15 (by decide) (fun c_3 => ?_) (fun c_3 => ?_)
    · have h := ife_t c_3 h
      refine lv_ldc hx hb hown (hg _ kc_X7_83) dX7_shun_23 ?_
      exact W.iret (v := (-1000000002)) hx hb hr (fun t ht hW => ⟨⟨(-1000000002), M, rfl, ⟨Option.some.inj h, rfl⟩, by rw [ht]; exact hP, x_KnW hKn t hW⟩, hS.F ht⟩) hS.2.2 dX7_shun_25
    · have h := ife_f c_3 h
      refine lv_iload_n hx hb dX7_shun_18 rfl (lv_at hl 2 rfl) ?_
      refine lv_iconst (v := 1) hx hb dX7_shun_19 (by decide) ?_
      refine lv_icmp_le (tgt := 26) hx hb dX7_shun_20 (by decide) (fun c_4 => ?_) (fun c_4 => ?_)
      · have h := ife_t c_4 h
        refine lv_aload_n hx hb dX7_shun_26 rfl (lv_at hl 0 rfl) ?_
        refine va_get (D := (dC, dI)) (ci := 7) (v := .ref (ad (17))) (C := RX7) (T := TX7) (N := 14) hx hb hg inX7 hown hKn.1 hP (0) (x_at7 (c := 0) (by decide)) rfl 3 (Nat.le_of_ble_eq_true rfl) (hg _ lkF_X7_29) (fun _ h9 => h9) rfl dX7_shun_27 ?_
        refine va_getN (D := (dC, dI)) (ci := 3) (v := .ref (ad (18))) (C := RX3) (T := TX3) (N := 6) hx hb hg inX3 hown hKn.1 hP (17) (x_at3 (c := 17) (by decide)) rfl 0 (Nat.le_of_ble_eq_true rfl) (nest_use hKn.2.2 nkF_X7_142) (fun _ h9 => h9) rfl dX7_shun_30 ?_
        refine lv_iload_n hx hb dX7_shun_33 rfl (lv_at hl 1 rfl) ?_
        obtain ⟨r_5, e34, h⟩ := bo_use h
        refine gc_i (va_runS (As := [.ref (ad (18)), .int (a1)]) (rest := []) hFx (tX7_at l dC dI kI ad 18 a1 M (by decide) e34) ⟨(gc_B hFx ck_yX7_at lkM_X7_145 ⟨Nat.le_of_ble_eq_true rfl, Nat.le_of_ble_eq_true rfl⟩ rfl rfl), hg _ st_yX7_at⟩ (gp_S x_KnB (x_KnW hKn) hP) rfl rfl hl.1 rfl (lv_room (Nat.le_of_ble_eq_true rfl)) dX7_shun_34 ⟨Nat.zero_le _, Nat.zero_le _⟩) hS (fun H locs hP hS => ?_)
        have hP : va_P (dC, dI) vwCl (x_w kI ad M) H := hP
        refine lv_istore_n (lv' := [(3, .int (r_5)), (0, .ref (ad (0))), (1, .int (a1)), (2, .int (a2))]) hx hb dX7_shun_37 rfl hl (Nat.le_of_ble_eq_true rfl) rfl (fun ls hl => ?_)
        refine lv_iconst (v := -1) hx hb dX7_shun_38 (by decide) ?_
        refine lv_istore (lv' := [(4, .int ((-1))), (3, .int (r_5)), (0, .ref (ad (0))), (1, .int (a1)), (2, .int (a2))]) hx hb dX7_shun_39 hl (Nat.le_of_ble_eq_true rfl) rfl (fun ls hl => ?_)
        refine lv_iconst (v := -1) hx hb dX7_shun_41 (by decide) ?_
        refine lv_istore (lv' := [(5, .int ((-1))), (4, .int ((-1))), (3, .int (r_5)), (0, .ref (ad (0))), (1, .int (a1)), (2, .int (a2))]) hx hb dX7_shun_42 hl (Nat.le_of_ble_eq_true rfl) rfl (fun ls hl => ?_)
        refine lv_iconst (v := 0) hx hb dX7_shun_44 (by decide) ?_
        refine lv_istore (lv' := [(6, .int (0)), (5, .int ((-1))), (4, .int ((-1))), (3, .int (r_5)), (0, .ref (ad (0))), (1, .int (a1)), (2, .int (a2))]) hx hb dX7_shun_45 hl (Nat.le_of_ble_eq_true rfl) rfl (fun ls hl => ?_)
        obtain ⟨K47, eK47, h⟩ := exK (Lp := fun K => FX7_shun_L47 a2 r_5 M K fuelN (-1) (-1) 0) h
        have hK47 : ∀ (k4_6 : Int32) (k5_7 : Int32) (H : Heap) (locs : List Loc) (ls : Array Slot), va_P (dC, dI) vwCl (x_w kI ad M) H → va_S (x_A ad) s.heap H locs → lv_has ls 7 [(2, .int (a2)), (4, .int (k4_6)), (5, .int (k5_7))] → K47 k4_6 k5_7 = some r0 → W p l e (headSpec (wsA yX7_shun cX7_shun 7 (some .int)) ({ frames := 1, cells := 0, slots := 0, locals := 21 } : Room)).room s m (([.ref (ad (0)), .int (a1), .int (a2)] : List Value).toArray) below meth c H locs 0 0 (MQ below (va_Qi (fun (r : Int32) (u : (Nat → Nat → Int32)) => r = r0 ∧ u = M) (gI (x_Wd dC dI kI ad) (x_Kn dC dI kI ad)) (x_A ad)) (([.ref (ad (0)), .int (a1), .int (a2)] : List Value).toArray) s 0 0 (x_A ad)) (F0 m 106 ls []) := by
          intro k4_6 k5_7 H locs ls hP hS hl h
          have h := useK2 eK47 h
          refine lv_iload_n hx hb dX7_shun_106 rfl (lv_at hl 0 rfl) ?_
          refine lv_if_ne (tgt := 115) hx hb dX7_shun_107 (by decide) (fun c_8 => ?_) (fun c_8 => ?_)
          · have h := ife_f c_8 h
            refine lv_iload hx hb dX7_shun_115 (lv_at hl 2 rfl) ?_
            exact W.iret (v := k5_7) hx hb hr (fun t ht hW => ⟨⟨k5_7, M, rfl, ⟨Option.some.inj h, rfl⟩, by rw [ht]; exact hP, x_KnW hKn t hW⟩, hS.F ht⟩) hS.2.2 dX7_shun_117
          · have h := ife_t c_8 h
            refine lv_iload hx hb dX7_shun_110 (lv_at hl 1 rfl) ?_
            refine lv_goto (tgt := 117) hx hb dX7_shun_112 (by decide) ?_
            exact W.iret (v := k4_6) hx hb hr (fun t ht hW => ⟨⟨k4_6, M, rfl, ⟨Option.some.inj h, rfl⟩, by rw [ht]; exact hP, x_KnW hKn t hW⟩, hS.F ht⟩) hS.2.2 dX7_shun_117
        have hL47 : ∀ (k : Nat) (v4_9 : Int32) (v5_10 : Int32) (v6_11 : Int32) (H : Heap) (locs : List Loc) (ls : Array Slot), va_P (dC, dI) vwCl (x_w kI ad M) H → va_S (x_A ad) s.heap H locs → lv_has ls 7 [(0, .ref (ad (0))), (2, .int (a2)), (3, .int (r_5)), (4, .int (v4_9)), (5, .int (v5_10)), (6, .int (v6_11))] → FX7_shun_L47 a2 r_5 M K47 k v4_9 v5_10 v6_11 = some r0 → W p l e (headSpec (wsA yX7_shun cX7_shun 7 (some .int)) ({ frames := 1, cells := 0, slots := 0, locals := 21 } : Room)).room s m (([.ref (ad (0)), .int (a1), .int (a2)] : List Value).toArray) below meth c H locs 0 0 (MQ below (va_Qi (fun (r : Int32) (u : (Nat → Nat → Int32)) => r = r0 ∧ u = M) (gI (x_Wd dC dI kI ad) (x_Kn dC dI kI ad)) (x_A ad)) (([.ref (ad (0)), .int (a1), .int (a2)] : List Value).toArray) s 0 0 (x_A ad)) (F0 m 47 ls []) := by
          intro k
          induction k with
          | zero => intro v4_9 v5_10 v6_11 H locs ls hP hS hl h; cases h
          | succ k ih47 =>
            intro v4_9 v5_10 v6_11 H locs ls hP hS hl h
            unfold FX7_shun_L47 at h
            refine lv_iload hx hb dX7_shun_47 (lv_at hl 5 rfl) ?_
            refine lv_bipush (v := 20) hx hb dX7_shun_49 (by decide) ?_
            refine lv_icmp_gt (tgt := 106) hx hb dX7_shun_51 (by decide) (fun c_12 => ?_) (fun c_12 => ?_)
            · have h := ife_t c_12 h
              exact hK47 v4_9 v5_10 _ _ _ hP hS (lv_sub hl [1, 3, 4] rfl) h
            · have h := ife_f c_12 h
              refine lv_iload_n hx hb dX7_shun_54 rfl (lv_at hl 2 rfl) ?_
              refine lv_aload_n hx hb dX7_shun_55 rfl (lv_at hl 0 rfl) ?_
              refine va_get (D := (dC, dI)) (ci := 7) (v := .ref (ad (3))) (C := RX7) (T := TX7) (N := 14) hx hb hg inX7 hown hKn.1 hP (0) (x_at7 (c := 0) (by decide)) rfl 1 (Nat.le_of_ble_eq_true rfl) (hg _ lkF_X7_19) (fun _ h9 => h9) rfl dX7_shun_56 ?_
              refine va_getN (D := (dC, dI)) (ci := 1) (v := .int ((M 3 3))) (C := RX1) (T := TX1) (N := 10) hx hb hg inX1 hown hKn.1 hP (3) (x_at1 (c := 3) (by decide)) rfl 3 (Nat.le_of_ble_eq_true rfl) (nest_use hKn.2.2 nkF_X7_119) (fun _ h9 => h9) rfl dX7_shun_59 ?_
              refine lv_icmp_lt (tgt := 106) hx hb dX7_shun_62 (by decide) (fun c_13 => ?_) (fun c_13 => ?_)
              · have h := ife_t c_13 h
                exact hK47 v4_9 v5_10 _ _ _ hP hS (lv_sub hl [1, 3, 4] rfl) h
              · have h := ife_f c_13 h
                refine lv_iload_n hx hb dX7_shun_65 rfl (lv_at hl 2 rfl) ?_
                refine lv_iload hx hb dX7_shun_66 (lv_at hl 5 rfl) ?_
                obtain ⟨r_14, e68, h⟩ := bo_use h
                refine gc_i (va_runS (As := [.int (r_5), .int (v6_11)]) (rest := []) hFx (tX7_behindMeeting l dC dI kI ad r_5 v6_11 M  e68) ⟨(gc_B hFx ck_yX7_behindMeeting lkM_X7_194 ⟨Nat.le_of_ble_eq_true rfl, Nat.le_of_ble_eq_true rfl⟩ rfl rfl), hg _ st_yX7_behindMeeting⟩ (gp_S x_KnB (x_KnW hKn) hP) rfl rfl hl.1 rfl (lv_room (Nat.le_of_ble_eq_true rfl)) dX7_shun_68 ⟨Nat.zero_le _, Nat.zero_le _⟩) hS (fun H locs hP hS => ?_)
                have hP : va_P (dC, dI) vwCl (x_w kI ad M) H := hP
                refine lv_aload_n hx hb dX7_shun_71 rfl (lv_at hl 0 rfl) ?_
                refine va_get (D := (dC, dI)) (ci := 7) (v := .ref (ad (3))) (C := RX7) (T := TX7) (N := 14) hx hb hg inX7 hown hKn.1 hP (0) (x_at7 (c := 0) (by decide)) rfl 1 (Nat.le_of_ble_eq_true rfl) (hg _ lkF_X7_19) (fun _ h9 => h9) rfl dX7_shun_72 ?_
                refine va_getN (D := (dC, dI)) (ci := 1) (v := .int ((M 3 3))) (C := RX1) (T := TX1) (N := 10) hx hb hg inX1 hown hKn.1 hP (3) (x_at1 (c := 3) (by decide)) rfl 3 (Nat.le_of_ble_eq_true rfl) (nest_use hKn.2.2 nkF_X7_119) (fun _ h9 => h9) rfl dX7_shun_75 ?_
                obtain ⟨J100, eJ100, h⟩ := jn_use h
                have hJ100 : ∀ (j4_15 : Int32) (j5_16 : Int32) (H : Heap) (locs : List Loc) (ls : Array Slot), va_P (dC, dI) vwCl (x_w kI ad M) H → va_S (x_A ad) s.heap H locs → lv_has ls 7 [(0, .ref (ad (0))), (2, .int (a2)), (3, .int (r_5)), (6, .int (v6_11)), (4, .int (j4_15)), (5, .int (j5_16))] → J100 j4_15 j5_16 = some r0 → W p l e (headSpec (wsA yX7_shun cX7_shun 7 (some .int)) ({ frames := 1, cells := 0, slots := 0, locals := 21 } : Room)).room s m (([.ref (ad (0)), .int (a1), .int (a2)] : List Value).toArray) below meth c H locs 0 0 (MQ below (va_Qi (fun (r : Int32) (u : (Nat → Nat → Int32)) => r = r0 ∧ u = M) (gI (x_Wd dC dI kI ad) (x_Kn dC dI kI ad)) (x_A ad)) (([.ref (ad (0)), .int (a1), .int (a2)] : List Value).toArray) s 0 0 (x_A ad)) (F0 m 100 ls []) := by
                  intro j4_15 j5_16 H locs ls hP hS hl h
                  have h := useK2 eJ100 h
                  refine lv_iinc (v := (v6_11 + 1)) (lv' := [(6, .int ((v6_11 + 1))), (0, .ref (ad (0))), (2, .int (a2)), (3, .int (r_5)), (4, .int (j4_15)), (5, .int (j5_16))]) hx hb dX7_shun_100 hl (k := 3) rfl rfl (Nat.le_of_ble_eq_true rfl) rfl (fun ls hl => ?_)
                  refine lv_goto (tgt := 47) hx hb dX7_shun_103 (by decide) ?_
                  exact ih47 j4_15 j5_16 (v6_11 + 1) _ _ _ hP hS (lv_sub hl [1, 2, 3, 4, 5, 0] rfl) h
                refine lv_icmp_ge (tgt := 100) hx hb dX7_shun_78 (by decide) (fun c_17 => ?_) (fun c_17 => ?_)
                · have h := ife_t c_17 h
                  exact hJ100 v4_9 v5_10 _ _ _ hP hS (lv_sub hl [0, 1, 2, 5, 3, 4] rfl) h
                · have h := ife_f c_17 h
                  refine lv_iload hx hb dX7_shun_81 (lv_at hl 3 rfl) ?_
                  refine lv_iconst (v := -1) hx hb dX7_shun_83 (by decide) ?_
                  obtain ⟨J94, eJ94, h⟩ := jn_use h
                  have hJ94 : ∀ (s_18 : Int32) (H : Heap) (locs : List Loc) (ls : Array Slot), va_P (dC, dI) vwCl (x_w kI ad M) H → va_S (x_A ad) s.heap H locs → lv_has ls 7 [(0, .ref (ad (0))), (2, .int (a2)), (3, .int (r_5)), (6, .int (v6_11))] → J94 s_18 = some r0 → W p l e (headSpec (wsA yX7_shun cX7_shun 7 (some .int)) ({ frames := 1, cells := 0, slots := 0, locals := 21 } : Room)).room s m (([.ref (ad (0)), .int (a1), .int (a2)] : List Value).toArray) below meth c H locs 0 0 (MQ below (va_Qi (fun (r : Int32) (u : (Nat → Nat → Int32)) => r = r0 ∧ u = M) (gI (x_Wd dC dI kI ad) (x_Kn dC dI kI ad)) (x_A ad)) (([.ref (ad (0)), .int (a1), .int (a2)] : List Value).toArray) s 0 0 (x_A ad)) (F0 m 94 ls [.int (s_18)]) := by
                    intro s_18 H locs ls hP hS hl h
                    have h := useK1 eJ94 h
                    refine lv_istore (lv' := [(4, .int (s_18)), (0, .ref (ad (0))), (2, .int (a2)), (3, .int (r_5)), (6, .int (v6_11))]) hx hb dX7_shun_94 hl (Nat.le_of_ble_eq_true rfl) rfl (fun ls hl => ?_)
                    refine lv_iload hx hb dX7_shun_96 (lv_at hl 4 rfl) ?_
                    refine lv_istore (lv' := [(5, .int (v6_11)), (4, .int (s_18)), (0, .ref (ad (0))), (2, .int (a2)), (3, .int (r_5)), (6, .int (v6_11))]) hx hb dX7_shun_98 hl (Nat.le_of_ble_eq_true rfl) rfl (fun ls hl => ?_)
                    exact hJ100 s_18 v6_11 _ _ _ hP hS (lv_sub hl [2, 3, 4, 5, 1, 0] rfl) h
                  refine lv_icmp_ne (tgt := 92) hx hb dX7_shun_84 (by decide) (fun c_19 => ?_) (fun c_19 => ?_)
                  · have h := ife_f c_19 h
                    refine lv_iload hx hb dX7_shun_92 (lv_at hl 3 rfl) ?_
                    exact hJ94 v4_9 _ _ _ hP hS (lv_sub hl [0, 1, 2, 5] rfl) h
                  · have h := ife_t c_19 h
                    refine lv_iload hx hb dX7_shun_87 (lv_at hl 5 rfl) ?_
                    refine lv_goto (tgt := 94) hx hb dX7_shun_89 (by decide) ?_
                    exact hJ94 v6_11 _ _ _ hP hS (lv_sub hl [0, 1, 2, 5] rfl) h
        exact hL47 fuelN (-1) (-1) 0 _ _ _ hP hS (lv_sub hl [4, 6, 3, 2, 1, 0] rfl) h
      · have h := ife_f c_4 h
        refine lv_ldc hx hb hown (hg _ kc_X7_83) dX7_shun_23 ?_
        exact W.iret (v := (-1000000002)) hx hb hr (fun t ht hW => ⟨⟨(-1000000002), M, rfl, ⟨Option.some.inj h, rfl⟩, by rw [ht]; exact hP, x_KnW hKn t hW⟩, hS.F ht⟩) hS.2.2 dX7_shun_25
  · have h := ife_t c_2 h
    refine lv_ldc hx hb hown (hg _ kc_X7_149) dX7_shun_11 ?_
    exact W.iret (v := (-1000000001)) hx hb hr (fun t ht hW => ⟨⟨(-1000000001), M, rfl, ⟨Option.some.inj h, rfl⟩, by rw [ht]; exact hP, x_KnW hKn t hW⟩, hS.F ht⟩) hS.2.2 dX7_shun_13
noncomputable def FX7_soonest (a1 : Int32) (a2 : Int32) (a3 : Int32) (M : (Nat → Nat → Int32)) : Option (Int32 × (Nat → Nat → Int32)) :=
  bo (FX1_hasOpinions 3 a1 M) (fun (r_1 : Int32) => (if r_1 = 0 then some ((-1000000001), M) else bo (FX1_hasOpinions 3 a2 M) (fun (r_3 : Int32) => (if r_3 = 0 then some ((-1000000001), M) else (if a3 < (-1) then some ((-1), M) else bd (FX7_findSoonest a1 a2 M) (fun (r_6 : Int32) (M_7 : (Nat → Nat → Int32)) => (if r_6 = 0 then some ((-1), M_7) else (if a3 = (-1) then some ((M_7 26 0), M_7) else (if a3 < (M_7 26 0) then (if a3 = 0 then some ((M_7 26 1), M_7) else some ((M_7 26 2), M_7)) else some ((-1), M_7))))))))))
set_option maxHeartbeats 4000000 in
set_option maxRecDepth 100000 in
theorem tX7_soonest (l : Launch) (dC : Nat → ClassId) (dI : Nat → Nat → Nat) (kI : ClassId) (ad : Nat → Nat) (a1 : Int32) (a2 : Int32) (a3 : Int32) (M : (Nat → Nat → Int32))  {r0 : Int32} {M0 : (Nat → Nat → Int32)} (h : FX7_soonest a1 a2 a3 M = some (r0, M0)) : Met l yX7_soonest (wsA yX7_soonest cX7_soonest 4 (some .int)) ({ frames := 6, cells := 0, slots := 0, locals := 143 } : Room) (va_Pc [.ref (ad (0)), .int (a1), .int (a2), .int (a3)] (gI (x_Wd dC dI kI ad) (x_Kn dC dI kI ad) M)) (va_Qi (fun (r : Int32) (u : (Nat → Nat → Int32)) => r = r0 ∧ u = M0) (gI (x_Wd dC dI kI ad) (x_Kn dC dI kI ad)) (x_A ad)) 0 0 (x_A ad) := by
  refine Met.ofW (cc := cX7_soonest) (maxL := 4) (ret := (some .int)) (by decide) rfl ?_
  intro p e s m args below meth c s₁ B hml hv
  obtain ⟨rfl, hP, hKn⟩ := hv
  have hx := B.exec
  have hb := B.bytes
  have hr := B.returns
  have hts := atoms_spec (ws := wsA yX7_soonest cX7_soonest 4 (some .int)) B.pre
  have hg : ∀ w ∈ lw_good, w.before _ s = true := fun w h => hts w (List.mem_cons_of_mem _ h)
  have hown : s.vm.findClass RX7 = some m.cls := findClass_of_methodNamed B.named
  have hlocks := B.notSynchronized
  have hS : va_S (x_A ad) s.heap s.heap [] := va_S.rf
  have hFx : gFix p c cX7_soonest 4 s m _ RX7 := ⟨hx, hb, hml, hown, hg⟩
  have hP : va_P (dC, dI) vwCl (x_w kI ad M) s.heap := hP
  have hl := lv_entry ([.ref (ad (0)), .int (a1), .int (a2), .int (a3)]) (n := 4) (Nat.le_of_ble_eq_true rfl)
  rw [lg_entry_eq]
  generalize (lg_sl ([.ref (ad (0)), .int (a1), .int (a2), .int (a3)]) ++ List.replicate (4 - (lg_sl ([.ref (ad (0)), .int (a1), .int (a2), .int (a3)])).length) Slot.unset).toArray = ls at hl ⊢
  have hl : lv_has ls 4 [(0, .ref (ad (0))), (1, .int (a1)), (2, .int (a2)), (3, .int (a3))] := hl
  unfold FX7_soonest at h
  refine lv_aload_n hx hb dX7_soonest_0 rfl (lv_at hl 0 rfl) ?_
  refine va_get (D := (dC, dI)) (ci := 7) (v := .ref (ad (3))) (C := RX7) (T := TX7) (N := 14) hx hb hg inX7 hown hKn.1 hP (0) (x_at7 (c := 0) (by decide)) rfl 1 (Nat.le_of_ble_eq_true rfl) (hg _ lkF_X7_19) (fun _ h9 => h9) rfl dX7_soonest_1 ?_
  refine lv_iload_n hx hb dX7_soonest_4 rfl (lv_at hl 1 rfl) ?_
  obtain ⟨r_1, e5, h⟩ := bo_use h
  refine gc_i (va_runVN (As := [.int (a1)]) (rest := []) hFx (tX1_hasOpinions l dC dI kI ad 3 a1 M (by decide) e5) ⟨(gc_N hFx hKn.2.2 ck_yX1_hasOpinions nkM_X7_212 ⟨Nat.le_of_ble_eq_true rfl, Nat.le_of_ble_eq_true rfl⟩ rfl rfl), hg _ vi_yX1_hasOpinions, hg _ vs_yX1_hasOpinions⟩ (gp_V x_KnB (x_KnW hKn) hP (x_rc1 (c := 3) (by decide) hKn hP)) rfl rfl hl.1 rfl (lv_room (Nat.le_of_ble_eq_true rfl)) dX7_soonest_5 ⟨Nat.zero_le _, Nat.zero_le _⟩) hS (fun H locs hP hS => ?_)
  have hP : va_P (dC, dI) vwCl (x_w kI ad M) H := hP
  refine lv_if_eq (tgt := 22) hx hb dX7_soonest_8 (by decide) (fun c_2 => ?_) (fun c_2 => ?_)
  · have h := ife_t c_2 h
    refine lv_ldc hx hb hown (hg _ kc_X7_149) dX7_soonest_22 ?_
    exact W.iret (v := (-1000000001)) hx hb hr (fun t ht hW => ⟨⟨(-1000000001), M, rfl, Prod.mk.inj (Option.some.inj h), by rw [ht]; exact hP, x_KnW hKn t hW⟩, hS.F ht⟩) hS.2.2 dX7_soonest_24
  · have h := ife_f c_2 h
    refine lv_aload_n hx hb dX7_soonest_11 rfl (lv_at hl 0 rfl) ?_
    refine va_get (D := (dC, dI)) (ci := 7) (v := .ref (ad (3))) (C := RX7) (T := TX7) (N := 14) hx hb hg inX7 hown hKn.1 hP (0) (x_at7 (c := 0) (by decide)) rfl 1 (Nat.le_of_ble_eq_true rfl) (hg _ lkF_X7_19) (fun _ h9 => h9) rfl dX7_soonest_12 ?_
    refine lv_iload_n hx hb dX7_soonest_15 rfl (lv_at hl 2 rfl) ?_
    obtain ⟨r_3, e16, h⟩ := bo_use h
    refine gc_i (va_runVN (As := [.int (a2)]) (rest := []) hFx (tX1_hasOpinions l dC dI kI ad 3 a2 M (by decide) e16) ⟨(gc_N hFx hKn.2.2 ck_yX1_hasOpinions nkM_X7_212 ⟨Nat.le_of_ble_eq_true rfl, Nat.le_of_ble_eq_true rfl⟩ rfl rfl), hg _ vi_yX1_hasOpinions, hg _ vs_yX1_hasOpinions⟩ (gp_V x_KnB (x_KnW hKn) hP (x_rc1 (c := 3) (by decide) hKn hP)) rfl rfl hl.1 rfl (lv_room (Nat.le_of_ble_eq_true rfl)) dX7_soonest_16 ⟨Nat.zero_le _, Nat.zero_le _⟩) hS (fun H locs hP hS => ?_)
    have hP : va_P (dC, dI) vwCl (x_w kI ad M) H := hP
    refine lv_if_ne (tgt := 25) hx hb dX7_soonest_19 (by decide) (fun c_4 => ?_) (fun c_4 => ?_)
    · have h := ife_f c_4 h
      refine lv_iload_n hx hb dX7_soonest_25 rfl (lv_at hl 3 rfl) ?_
      refine lv_iconst (v := -1) hx hb dX7_soonest_26 (by decide) ?_
      refine lv_icmp_lt (tgt := 39) hx hb dX7_soonest_27 (by decide) (fun c_5 => ?_) (fun c_5 => ?_)
      · have h := ife_t c_5 h
        refine lv_iconst (v := -1) hx hb dX7_soonest_39 (by decide) ?_
        exact W.iret (v := (-1)) hx hb hr (fun t ht hW => ⟨⟨(-1), M, rfl, Prod.mk.inj (Option.some.inj h), by rw [ht]; exact hP, x_KnW hKn t hW⟩, hS.F ht⟩) hS.2.2 dX7_soonest_40
      · have h := ife_f c_5 h
        refine lv_aload_n hx hb dX7_soonest_30 rfl (lv_at hl 0 rfl) ?_
        refine lv_iload_n hx hb dX7_soonest_31 rfl (lv_at hl 1 rfl) ?_
        refine lv_iload_n hx hb dX7_soonest_32 rfl (lv_at hl 2 rfl) ?_
        obtain ⟨r_6, M_7, e33, h⟩ := bd_use h
        refine gc_i (va_runV (As := [.int (a1), .int (a2)]) (rest := []) hFx (tX7_findSoonest l dC dI kI ad a1 a2 M  e33) ⟨(gc_B hFx ck_yX7_findSoonest lkM_X7_215 ⟨Nat.le_of_ble_eq_true rfl, Nat.le_of_ble_eq_true rfl⟩ rfl rfl), hg _ vi_yX7_findSoonest, hg _ vs_yX7_findSoonest⟩ (gp_V x_KnB (x_KnW hKn) hP (x_rc7 (c := 0) (by decide) hKn hP)) rfl rfl hl.1 rfl (lv_room (Nat.le_of_ble_eq_true rfl)) dX7_soonest_33 ⟨Nat.zero_le _, Nat.zero_le _⟩) hS (fun H locs hP hS => ?_)
        have hP : va_P (dC, dI) vwCl (x_w kI ad M_7) H := hP
        refine lv_if_ne (tgt := 41) hx hb dX7_soonest_36 (by decide) (fun c_8 => ?_) (fun c_8 => ?_)
        · have h := ife_f c_8 h
          refine lv_iload_n hx hb dX7_soonest_41 rfl (lv_at hl 3 rfl) ?_
          refine lv_iconst (v := -1) hx hb dX7_soonest_42 (by decide) ?_
          refine lv_icmp_ne (tgt := 54) hx hb dX7_soonest_43 (by decide) (fun c_9 => ?_) (fun c_9 => ?_)
          · have h := ife_f c_9 h
            refine lv_iload_n hx hb dX7_soonest_54 rfl (lv_at hl 3 rfl) ?_
            refine lv_aload_n hx hb dX7_soonest_55 rfl (lv_at hl 0 rfl) ?_
            refine va_get (D := (dC, dI)) (ci := 7) (v := .ref (ad (26))) (C := RX7) (T := TX7) (N := 14) hx hb hg inX7 hown hKn.1 hP (0) (x_at7 (c := 0) (by decide)) rfl 6 (Nat.le_of_ble_eq_true rfl) (hg _ lkF_X7_42) (fun _ h9 => h9) rfl dX7_soonest_56 ?_
            refine va_getN (D := (dC, dI)) (ci := 5) (v := .int ((M_7 26 0))) (C := RX5) (T := TX5) (N := 3) hx hb hg inX5 hown hKn.1 hP (26) (x_at5 (c := 26) (by decide)) rfl 0 (Nat.le_of_ble_eq_true rfl) (nest_use hKn.2.2 nkF_X7_218) (fun _ h9 => h9) rfl dX7_soonest_59 ?_
            refine lv_icmp_lt (tgt := 67) hx hb dX7_soonest_62 (by decide) (fun c_10 => ?_) (fun c_10 => ?_)
            · have h := ife_t c_10 h
              refine lv_iload_n hx hb dX7_soonest_67 rfl (lv_at hl 3 rfl) ?_
              refine lv_if_ne (tgt := 81) hx hb dX7_soonest_68 (by decide) (fun c_11 => ?_) (fun c_11 => ?_)
              · have h := ife_f c_11 h
                refine lv_aload_n hx hb dX7_soonest_81 rfl (lv_at hl 0 rfl) ?_
                refine va_get (D := (dC, dI)) (ci := 7) (v := .ref (ad (26))) (C := RX7) (T := TX7) (N := 14) hx hb hg inX7 hown hKn.1 hP (0) (x_at7 (c := 0) (by decide)) rfl 6 (Nat.le_of_ble_eq_true rfl) (hg _ lkF_X7_42) (fun _ h9 => h9) rfl dX7_soonest_82 ?_
                refine va_getN (D := (dC, dI)) (ci := 5) (v := .int ((M_7 26 2))) (C := RX5) (T := TX5) (N := 3) hx hb hg inX5 hown hKn.1 hP (26) (x_at5 (c := 26) (by decide)) rfl 2 (Nat.le_of_ble_eq_true rfl) (nest_use hKn.2.2 nkF_X7_222) (fun _ h9 => h9) rfl dX7_soonest_85 ?_
                exact W.iret (v := (M_7 26 2)) hx hb hr (fun t ht hW => ⟨⟨(M_7 26 2), M_7, rfl, Prod.mk.inj (Option.some.inj h), by rw [ht]; exact hP, x_KnW hKn t hW⟩, hS.F ht⟩) hS.2.2 dX7_soonest_88
              · have h := ife_t c_11 h
                refine lv_aload_n hx hb dX7_soonest_71 rfl (lv_at hl 0 rfl) ?_
                refine va_get (D := (dC, dI)) (ci := 7) (v := .ref (ad (26))) (C := RX7) (T := TX7) (N := 14) hx hb hg inX7 hown hKn.1 hP (0) (x_at7 (c := 0) (by decide)) rfl 6 (Nat.le_of_ble_eq_true rfl) (hg _ lkF_X7_42) (fun _ h9 => h9) rfl dX7_soonest_72 ?_
                refine va_getN (D := (dC, dI)) (ci := 5) (v := .int ((M_7 26 1))) (C := RX5) (T := TX5) (N := 3) hx hb hg inX5 hown hKn.1 hP (26) (x_at5 (c := 26) (by decide)) rfl 1 (Nat.le_of_ble_eq_true rfl) (nest_use hKn.2.2 nkF_X7_219) (fun _ h9 => h9) rfl dX7_soonest_75 ?_
                refine lv_goto (tgt := 88) hx hb dX7_soonest_78 (by decide) ?_
                exact W.iret (v := (M_7 26 1)) hx hb hr (fun t ht hW => ⟨⟨(M_7 26 1), M_7, rfl, Prod.mk.inj (Option.some.inj h), by rw [ht]; exact hP, x_KnW hKn t hW⟩, hS.F ht⟩) hS.2.2 dX7_soonest_88
            · have h := ife_f c_10 h
              refine lv_iconst (v := -1) hx hb dX7_soonest_65 (by decide) ?_
              exact W.iret (v := (-1)) hx hb hr (fun t ht hW => ⟨⟨(-1), M_7, rfl, Prod.mk.inj (Option.some.inj h), by rw [ht]; exact hP, x_KnW hKn t hW⟩, hS.F ht⟩) hS.2.2 dX7_soonest_66
          · have h := ife_t c_9 h
            refine lv_aload_n hx hb dX7_soonest_46 rfl (lv_at hl 0 rfl) ?_
            refine va_get (D := (dC, dI)) (ci := 7) (v := .ref (ad (26))) (C := RX7) (T := TX7) (N := 14) hx hb hg inX7 hown hKn.1 hP (0) (x_at7 (c := 0) (by decide)) rfl 6 (Nat.le_of_ble_eq_true rfl) (hg _ lkF_X7_42) (fun _ h9 => h9) rfl dX7_soonest_47 ?_
            refine va_getN (D := (dC, dI)) (ci := 5) (v := .int ((M_7 26 0))) (C := RX5) (T := TX5) (N := 3) hx hb hg inX5 hown hKn.1 hP (26) (x_at5 (c := 26) (by decide)) rfl 0 (Nat.le_of_ble_eq_true rfl) (nest_use hKn.2.2 nkF_X7_218) (fun _ h9 => h9) rfl dX7_soonest_50 ?_
            exact W.iret (v := (M_7 26 0)) hx hb hr (fun t ht hW => ⟨⟨(M_7 26 0), M_7, rfl, Prod.mk.inj (Option.some.inj h), by rw [ht]; exact hP, x_KnW hKn t hW⟩, hS.F ht⟩) hS.2.2 dX7_soonest_53
        · have h := ife_t c_8 h
          refine lv_iconst (v := -1) hx hb dX7_soonest_39 (by decide) ?_
          exact W.iret (v := (-1)) hx hb hr (fun t ht hW => ⟨⟨(-1), M_7, rfl, Prod.mk.inj (Option.some.inj h), by rw [ht]; exact hP, x_KnW hKn t hW⟩, hS.F ht⟩) hS.2.2 dX7_soonest_40
    · have h := ife_t c_4 h
      refine lv_ldc hx hb hown (hg _ kc_X7_149) dX7_soonest_22 ?_
      exact W.iret (v := (-1000000001)) hx hb hr (fun t ht hW => ⟨⟨(-1000000001), M, rfl, Prod.mk.inj (Option.some.inj h), by rw [ht]; exact hP, x_KnW hKn t hW⟩, hS.F ht⟩) hS.2.2 dX7_soonest_24
noncomputable def FX7_strengths_L52 (b1 : Int32) (b2 : Int32) (K : Int32 → (Nat → Nat → Int32) → Option (Int32 × (Nat → Nat → Int32))) (k : Nat) (v3_10 : Int32) (v4_11 : Int32) (M_12 : (Nat → Nat → Int32)) : Option (Int32 × (Nat → Nat → Int32)) := match k with
  | 0 => none
  | k + 1 => (if 18 < v4_11 then K v3_10 M_12 else bo (FX7_put 13 b1 (v4_11 - 9) M_12) (fun (M_14 : (Nat → Nat → Int32)) => bd (FX7_thoughtBehind 10 b2 M_14) (fun (r_15 : Int32) (M_16 : (Nat → Nat → Int32)) => jn (fun (j3_17 : Int32) => FX7_strengths_L52 b1 b2 K k j3_17 (v4_11 + 1) M_16) (fun J94 => (if r_15 = 0 then J94 v3_10 else J94 (v3_10 ||| (1 <<< (v4_11 &&& 31))))))))
noncomputable def FX7_strengths (a1 : Int32) (a2 : Int32) (M : (Nat → Nat → Int32)) : Option (Int32 × (Nat → Nat → Int32)) :=
  bo (FX1_hasFact 3 a1 M) (fun (r_1 : Int32) => (if r_1 = 0 then some ((-1000000001), M) else bo (FX1_hasFacts 3 a2 M) (fun (r_3 : Int32) => (if r_3 = 0 then some ((-1000000001), M) else bo (FX7_mayBe a2 M) (fun (r_5 : Int32) => (if r_5 = 0 then some ((-1000000003), M) else bo (FX1_copyFrom 10 3 M) (fun (M_7 : (Nat → Nat → Int32)) => FX7_strengths_L52 a1 a2 (fun (k3_8 : Int32) (M_9 : (Nat → Nat → Int32)) => some (k3_8, M_9)) fuelN 0 0 M_7)))))))
set_option maxHeartbeats 4000000 in
set_option maxRecDepth 100000 in
theorem tX7_strengths (l : Launch) (dC : Nat → ClassId) (dI : Nat → Nat → Nat) (kI : ClassId) (ad : Nat → Nat) (a1 : Int32) (a2 : Int32) (M : (Nat → Nat → Int32))  {r0 : Int32} {M0 : (Nat → Nat → Int32)} (h : FX7_strengths a1 a2 M = some (r0, M0)) : Met l yX7_strengths (wsA yX7_strengths cX7_strengths 5 (some .int)) ({ frames := 4, cells := 0, slots := 0, locals := 94 } : Room) (va_Pc [.ref (ad (0)), .int (a1), .int (a2)] (gI (x_Wd dC dI kI ad) (x_Kn dC dI kI ad) M)) (va_Qi (fun (r : Int32) (u : (Nat → Nat → Int32)) => r = r0 ∧ u = M0) (gI (x_Wd dC dI kI ad) (x_Kn dC dI kI ad)) (x_A ad)) 0 0 (x_A ad) := by
  refine Met.ofW (cc := cX7_strengths) (maxL := 5) (ret := (some .int)) (by decide) rfl ?_
  intro p e s m args below meth c s₁ B hml hv
  obtain ⟨rfl, hP, hKn⟩ := hv
  have hx := B.exec
  have hb := B.bytes
  have hr := B.returns
  have hts := atoms_spec (ws := wsA yX7_strengths cX7_strengths 5 (some .int)) B.pre
  have hg : ∀ w ∈ lw_good, w.before _ s = true := fun w h => hts w (List.mem_cons_of_mem _ h)
  have hown : s.vm.findClass RX7 = some m.cls := findClass_of_methodNamed B.named
  have hlocks := B.notSynchronized
  have hS : va_S (x_A ad) s.heap s.heap [] := va_S.rf
  have hFx : gFix p c cX7_strengths 5 s m _ RX7 := ⟨hx, hb, hml, hown, hg⟩
  have hP : va_P (dC, dI) vwCl (x_w kI ad M) s.heap := hP
  have hl := lv_entry ([.ref (ad (0)), .int (a1), .int (a2)]) (n := 5) (Nat.le_of_ble_eq_true rfl)
  rw [lg_entry_eq]
  generalize (lg_sl ([.ref (ad (0)), .int (a1), .int (a2)]) ++ List.replicate (5 - (lg_sl ([.ref (ad (0)), .int (a1), .int (a2)])).length) Slot.unset).toArray = ls at hl ⊢
  have hl : lv_has ls 5 [(0, .ref (ad (0))), (1, .int (a1)), (2, .int (a2))] := hl
  unfold FX7_strengths at h
  refine lv_aload_n hx hb dX7_strengths_0 rfl (lv_at hl 0 rfl) ?_
  refine va_get (D := (dC, dI)) (ci := 7) (v := .ref (ad (3))) (C := RX7) (T := TX7) (N := 14) hx hb hg inX7 hown hKn.1 hP (0) (x_at7 (c := 0) (by decide)) rfl 1 (Nat.le_of_ble_eq_true rfl) (hg _ lkF_X7_19) (fun _ h9 => h9) rfl dX7_strengths_1 ?_
  refine lv_iload_n hx hb dX7_strengths_4 rfl (lv_at hl 1 rfl) ?_
  obtain ⟨r_1, e5, h⟩ := bo_use h
  refine gc_i (va_runVN (As := [.int (a1)]) (rest := []) hFx (tX1_hasFact l dC dI kI ad 3 a1 M (by decide) e5) ⟨(gc_N hFx hKn.2.2 ck_yX1_hasFact nkM_X7_150 ⟨Nat.le_of_ble_eq_true rfl, Nat.le_of_ble_eq_true rfl⟩ rfl rfl), hg _ vi_yX1_hasFact, hg _ vs_yX1_hasFact⟩ (gp_V x_KnB (x_KnW hKn) hP (x_rc1 (c := 3) (by decide) hKn hP)) rfl rfl hl.1 rfl (lv_room (Nat.le_of_ble_eq_true rfl)) dX7_strengths_5 ⟨Nat.zero_le _, Nat.zero_le _⟩) hS (fun H locs hP hS => ?_)
  have hP : va_P (dC, dI) vwCl (x_w kI ad M) H := hP
  refine lv_if_eq (tgt := 22) hx hb dX7_strengths_8 (by decide) (fun c_2 => ?_) (fun c_2 => ?_)
  · have h := ife_t c_2 h
    refine lv_ldc hx hb hown (hg _ kc_X7_149) dX7_strengths_22 ?_
    exact W.iret (v := (-1000000001)) hx hb hr (fun t ht hW => ⟨⟨(-1000000001), M, rfl, Prod.mk.inj (Option.some.inj h), by rw [ht]; exact hP, x_KnW hKn t hW⟩, hS.F ht⟩) hS.2.2 dX7_strengths_24
  · have h := ife_f c_2 h
    refine lv_aload_n hx hb dX7_strengths_11 rfl (lv_at hl 0 rfl) ?_
    refine va_get (D := (dC, dI)) (ci := 7) (v := .ref (ad (3))) (C := RX7) (T := TX7) (N := 14) hx hb hg inX7 hown hKn.1 hP (0) (x_at7 (c := 0) (by decide)) rfl 1 (Nat.le_of_ble_eq_true rfl) (hg _ lkF_X7_19) (fun _ h9 => h9) rfl dX7_strengths_12 ?_
    refine lv_iload_n hx hb dX7_strengths_15 rfl (lv_at hl 2 rfl) ?_
    obtain ⟨r_3, e16, h⟩ := bo_use h
    refine gc_i (va_runVN (As := [.int (a2)]) (rest := []) hFx (tX1_hasFacts l dC dI kI ad 3 a2 M (by decide) e16) ⟨(gc_N hFx hKn.2.2 ck_yX1_hasFacts nkM_X7_175 ⟨Nat.le_of_ble_eq_true rfl, Nat.le_of_ble_eq_true rfl⟩ rfl rfl), hg _ vi_yX1_hasFacts, hg _ vs_yX1_hasFacts⟩ (gp_V x_KnB (x_KnW hKn) hP (x_rc1 (c := 3) (by decide) hKn hP)) rfl rfl hl.1 rfl (lv_room (Nat.le_of_ble_eq_true rfl)) dX7_strengths_16 ⟨Nat.zero_le _, Nat.zero_le _⟩) hS (fun H locs hP hS => ?_)
    have hP : va_P (dC, dI) vwCl (x_w kI ad M) H := hP
    refine lv_if_ne (tgt := 25) hx hb dX7_strengths_19 (by decide) (fun c_4 => ?_) (fun c_4 => ?_)
    · have h := ife_f c_4 h
      refine lv_aload_n hx hb dX7_strengths_25 rfl (lv_at hl 0 rfl) ?_
      refine lv_iload_n hx hb dX7_strengths_26 rfl (lv_at hl 2 rfl) ?_
      obtain ⟨r_5, e27, h⟩ := bo_use h
      refine gc_i (va_runV (As := [.int (a2)]) (rest := []) hFx (tX7_mayBe l dC dI kI ad a2 M  e27) ⟨(gc_B hFx ck_yX7_mayBe lkM_X7_178 ⟨Nat.le_of_ble_eq_true rfl, Nat.le_of_ble_eq_true rfl⟩ rfl rfl), hg _ vi_yX7_mayBe, hg _ vs_yX7_mayBe⟩ (gp_V x_KnB (x_KnW hKn) hP (x_rc7 (c := 0) (by decide) hKn hP)) rfl rfl hl.1 rfl (lv_room (Nat.le_of_ble_eq_true rfl)) dX7_strengths_27 ⟨Nat.zero_le _, Nat.zero_le _⟩) hS (fun H locs hP hS => ?_)
      have hP : va_P (dC, dI) vwCl (x_w kI ad M) H := hP
      refine lv_if_ne (tgt := 36) hx hb dX7_strengths_30 (by decide) (fun c_6 => ?_) (fun c_6 => ?_)
      · have h := ife_f c_6 h
        refine lv_iconst (v := 0) hx hb dX7_strengths_36 (by decide) ?_
        refine lv_istore_n (lv' := [(3, .int (0)), (0, .ref (ad (0))), (1, .int (a1)), (2, .int (a2))]) hx hb dX7_strengths_37 rfl hl (Nat.le_of_ble_eq_true rfl) rfl (fun ls hl => ?_)
        refine lv_aload_n hx hb dX7_strengths_38 rfl (lv_at hl 1 rfl) ?_
        refine va_get (D := (dC, dI)) (ci := 7) (v := .ref (ad (10))) (C := RX7) (T := TX7) (N := 14) hx hb hg inX7 hown hKn.1 hP (0) (x_at7 (c := 0) (by decide)) rfl 2 (Nat.le_of_ble_eq_true rfl) (hg _ lkF_X7_23) (fun _ h9 => h9) rfl dX7_strengths_39 ?_
        refine lv_aload_n hx hb dX7_strengths_42 rfl (lv_at hl 1 rfl) ?_
        refine va_get (D := (dC, dI)) (ci := 7) (v := .ref (ad (3))) (C := RX7) (T := TX7) (N := 14) hx hb hg inX7 hown hKn.1 hP (0) (x_at7 (c := 0) (by decide)) rfl 1 (Nat.le_of_ble_eq_true rfl) (hg _ lkF_X7_19) (fun _ h9 => h9) rfl dX7_strengths_43 ?_
        obtain ⟨M_7, e46, h⟩ := bo_use h
        refine gc_v (va_runVN (As := [.ref (ad (3))]) (rest := []) hFx (tX1_copyFrom l dC dI kI ad 10 3 M (by decide) (by decide) e46) ⟨(gc_N hFx hKn.2.2 ck_yX1_copyFrom nkM_X7_96 ⟨Nat.le_of_ble_eq_true rfl, Nat.le_of_ble_eq_true rfl⟩ rfl rfl), hg _ vi_yX1_copyFrom, hg _ vs_yX1_copyFrom⟩ (gp_V x_KnB (x_KnW hKn) hP (x_rc1 (c := 10) (by decide) hKn hP)) rfl rfl hl.1 rfl (lv_room (Nat.le_of_ble_eq_true rfl)) dX7_strengths_46 ⟨Nat.zero_le _, Nat.zero_le _⟩) hS (fun H locs hP hS => ?_)
        have hP : va_P (dC, dI) vwCl (x_w kI ad M_7) H := hP
        refine lv_iconst (v := 0) hx hb dX7_strengths_49 (by decide) ?_
        refine lv_istore (lv' := [(4, .int (0)), (3, .int (0)), (0, .ref (ad (0))), (1, .int (a1)), (2, .int (a2))]) hx hb dX7_strengths_50 hl (Nat.le_of_ble_eq_true rfl) rfl (fun ls hl => ?_)
        obtain ⟨K52, eK52, h⟩ := exK (Lp := fun K => FX7_strengths_L52 a1 a2 K fuelN 0 0 M_7) h
        have hK52 : ∀ (k3_8 : Int32) (M_9 : (Nat → Nat → Int32)) (H : Heap) (locs : List Loc) (ls : Array Slot), va_P (dC, dI) vwCl (x_w kI ad M_9) H → va_S (x_A ad) s.heap H locs → lv_has ls 5 [(3, .int (k3_8))] → K52 k3_8 M_9 = some (r0, M0) → W p l e (headSpec (wsA yX7_strengths cX7_strengths 5 (some .int)) ({ frames := 4, cells := 0, slots := 0, locals := 94 } : Room)).room s m (([.ref (ad (0)), .int (a1), .int (a2)] : List Value).toArray) below meth c H locs 0 0 (MQ below (va_Qi (fun (r : Int32) (u : (Nat → Nat → Int32)) => r = r0 ∧ u = M0) (gI (x_Wd dC dI kI ad) (x_Kn dC dI kI ad)) (x_A ad)) (([.ref (ad (0)), .int (a1), .int (a2)] : List Value).toArray) s 0 0 (x_A ad)) (F0 m 100 ls []) := by
          intro k3_8 M_9 H locs ls hP hS hl h
          have h := useK2 eK52 h
          refine lv_iload_n hx hb dX7_strengths_100 rfl (lv_at hl 0 rfl) ?_
          exact W.iret (v := k3_8) hx hb hr (fun t ht hW => ⟨⟨k3_8, M_9, rfl, Prod.mk.inj (Option.some.inj h), by rw [ht]; exact hP, x_KnW hKn t hW⟩, hS.F ht⟩) hS.2.2 dX7_strengths_101
        have hL52 : ∀ (k : Nat) (v3_10 : Int32) (v4_11 : Int32) (M_12 : (Nat → Nat → Int32)) (H : Heap) (locs : List Loc) (ls : Array Slot), va_P (dC, dI) vwCl (x_w kI ad M_12) H → va_S (x_A ad) s.heap H locs → lv_has ls 5 [(0, .ref (ad (0))), (1, .int (a1)), (2, .int (a2)), (3, .int (v3_10)), (4, .int (v4_11))] → FX7_strengths_L52 a1 a2 K52 k v3_10 v4_11 M_12 = some (r0, M0) → W p l e (headSpec (wsA yX7_strengths cX7_strengths 5 (some .int)) ({ frames := 4, cells := 0, slots := 0, locals := 94 } : Room)).room s m (([.ref (ad (0)), .int (a1), .int (a2)] : List Value).toArray) below meth c H locs 0 0 (MQ below (va_Qi (fun (r : Int32) (u : (Nat → Nat → Int32)) => r = r0 ∧ u = M0) (gI (x_Wd dC dI kI ad) (x_Kn dC dI kI ad)) (x_A ad)) (([.ref (ad (0)), .int (a1), .int (a2)] : List Value).toArray) s 0 0 (x_A ad)) (F0 m 52 ls []) := by
          intro k
          induction k with
          | zero => intro v3_10 v4_11 M_12 H locs ls hP hS hl h; cases h
          | succ k ih52 =>
            intro v3_10 v4_11 M_12 H locs ls hP hS hl h
            unfold FX7_strengths_L52 at h
            refine lv_iload hx hb dX7_strengths_52 (lv_at hl 4 rfl) ?_
            refine lv_bipush (v := 18) hx hb dX7_strengths_54 (by decide) ?_
            refine lv_icmp_gt (tgt := 100) hx hb dX7_strengths_56 (by decide) (fun c_13 => ?_) (fun c_13 => ?_)
            · have h := ife_t c_13 h
              exact hK52 v3_10 M_12 _ _ _ hP hS (lv_sub hl [3] rfl) h
            · have h := ife_f c_13 h
              refine lv_aload_n hx hb dX7_strengths_59 rfl (lv_at hl 0 rfl) ?_
              refine va_get (D := (dC, dI)) (ci := 7) (v := .ref (ad (10))) (C := RX7) (T := TX7) (N := 14) hx hb hg inX7 hown hKn.1 hP (0) (x_at7 (c := 0) (by decide)) rfl 2 (Nat.le_of_ble_eq_true rfl) (hg _ lkF_X7_23) (fun _ h9 => h9) rfl dX7_strengths_60 ?_
              refine va_getN (D := (dC, dI)) (ci := 1) (v := .ref (ad (13))) (C := RX1) (T := TX1) (N := 10) hx hb hg inX1 hown hKn.1 hP (10) (x_at1 (c := 10) (by decide)) rfl 6 (Nat.le_of_ble_eq_true rfl) (nest_use hKn.2.2 nkF_X7_156) (fun _ h9 => h9) rfl dX7_strengths_63 ?_
              refine lv_iload_n hx hb dX7_strengths_66 rfl (lv_at hl 1 rfl) ?_
              refine lv_iload hx hb dX7_strengths_67 (lv_at hl 4 rfl) ?_
              refine lv_bipush (v := 9) hx hb dX7_strengths_69 (by decide) ?_
              refine lv_isub hx hb dX7_strengths_71 ?_
              obtain ⟨M_14, e72, h⟩ := bo_use h
              refine gc_v (va_runS (As := [.ref (ad (13)), .int (a1), .int ((v4_11 - 9))]) (rest := []) hFx (tX7_put l dC dI kI ad 13 a1 (v4_11 - 9) M_12 (by decide) e72) ⟨(gc_B hFx ck_yX7_put lkM_X7_198 ⟨Nat.le_of_ble_eq_true rfl, Nat.le_of_ble_eq_true rfl⟩ rfl rfl), hg _ st_yX7_put⟩ (gp_S x_KnB (x_KnW hKn) hP) rfl rfl hl.1 rfl (lv_room (Nat.le_of_ble_eq_true rfl)) dX7_strengths_72 ⟨Nat.zero_le _, Nat.zero_le _⟩) hS (fun H locs hP hS => ?_)
              have hP : va_P (dC, dI) vwCl (x_w kI ad M_14) H := hP
              refine lv_aload_n hx hb dX7_strengths_75 rfl (lv_at hl 0 rfl) ?_
              refine lv_aload_n hx hb dX7_strengths_76 rfl (lv_at hl 0 rfl) ?_
              refine va_get (D := (dC, dI)) (ci := 7) (v := .ref (ad (10))) (C := RX7) (T := TX7) (N := 14) hx hb hg inX7 hown hKn.1 hP (0) (x_at7 (c := 0) (by decide)) rfl 2 (Nat.le_of_ble_eq_true rfl) (hg _ lkF_X7_23) (fun _ h9 => h9) rfl dX7_strengths_77 ?_
              refine lv_iload_n hx hb dX7_strengths_80 rfl (lv_at hl 2 rfl) ?_
              obtain ⟨r_15, M_16, e81, h⟩ := bd_use h
              refine gc_i (va_runV (As := [.ref (ad (10)), .int (a2)]) (rest := []) hFx (tX7_thoughtBehind l dC dI kI ad 10 a2 M_14 (by decide) e81) ⟨(gc_B hFx ck_yX7_thoughtBehind lkM_X7_253 ⟨Nat.le_of_ble_eq_true rfl, Nat.le_of_ble_eq_true rfl⟩ rfl rfl), hg _ vi_yX7_thoughtBehind, hg _ vs_yX7_thoughtBehind⟩ (gp_V x_KnB (x_KnW hKn) hP (x_rc7 (c := 0) (by decide) hKn hP)) rfl rfl hl.1 rfl (lv_room (Nat.le_of_ble_eq_true rfl)) dX7_strengths_81 ⟨Nat.zero_le _, Nat.zero_le _⟩) hS (fun H locs hP hS => ?_)
              have hP : va_P (dC, dI) vwCl (x_w kI ad M_16) H := hP
              obtain ⟨J94, eJ94, h⟩ := jn_use h
              have hJ94 : ∀ (j3_17 : Int32) (H : Heap) (locs : List Loc) (ls : Array Slot), va_P (dC, dI) vwCl (x_w kI ad M_16) H → va_S (x_A ad) s.heap H locs → lv_has ls 5 [(0, .ref (ad (0))), (1, .int (a1)), (2, .int (a2)), (4, .int (v4_11)), (3, .int (j3_17))] → J94 j3_17 = some (r0, M0) → W p l e (headSpec (wsA yX7_strengths cX7_strengths 5 (some .int)) ({ frames := 4, cells := 0, slots := 0, locals := 94 } : Room)).room s m (([.ref (ad (0)), .int (a1), .int (a2)] : List Value).toArray) below meth c H locs 0 0 (MQ below (va_Qi (fun (r : Int32) (u : (Nat → Nat → Int32)) => r = r0 ∧ u = M0) (gI (x_Wd dC dI kI ad) (x_Kn dC dI kI ad)) (x_A ad)) (([.ref (ad (0)), .int (a1), .int (a2)] : List Value).toArray) s 0 0 (x_A ad)) (F0 m 94 ls []) := by
                intro j3_17 H locs ls hP hS hl h
                have h := useK1 eJ94 h
                refine lv_iinc (v := (v4_11 + 1)) (lv' := [(4, .int ((v4_11 + 1))), (0, .ref (ad (0))), (1, .int (a1)), (2, .int (a2)), (3, .int (j3_17))]) hx hb dX7_strengths_94 hl (k := 3) rfl rfl (Nat.le_of_ble_eq_true rfl) rfl (fun ls hl => ?_)
                refine lv_goto (tgt := 52) hx hb dX7_strengths_97 (by decide) ?_
                exact ih52 j3_17 (v4_11 + 1) M_16 _ _ _ hP hS (lv_sub hl [1, 2, 3, 4, 0] rfl) h
              refine lv_if_eq (tgt := 94) hx hb dX7_strengths_84 (by decide) (fun c_18 => ?_) (fun c_18 => ?_)
              · have h := ife_t c_18 h
                exact hJ94 v3_10 _ _ _ hP hS (lv_sub hl [0, 1, 2, 4, 3] rfl) h
              · have h := ife_f c_18 h
                refine lv_iload_n hx hb dX7_strengths_87 rfl (lv_at hl 3 rfl) ?_
                refine lv_iconst (v := 1) hx hb dX7_strengths_88 (by decide) ?_
                refine lv_iload hx hb dX7_strengths_89 (lv_at hl 4 rfl) ?_
                refine lv_ishl hx hb dX7_strengths_91 ?_
                refine lv_ior hx hb dX7_strengths_92 ?_
                refine lv_istore_n (lv' := [(3, .int ((v3_10 ||| (1 <<< (v4_11 &&& 31))))), (0, .ref (ad (0))), (1, .int (a1)), (2, .int (a2)), (4, .int (v4_11))]) hx hb dX7_strengths_93 rfl hl (Nat.le_of_ble_eq_true rfl) rfl (fun ls hl => ?_)
                exact hJ94 (v3_10 ||| (1 <<< (v4_11 &&& 31))) _ _ _ hP hS (lv_sub hl [1, 2, 3, 4, 0] rfl) h
        exact hL52 fuelN 0 0 M_7 _ _ _ hP hS (lv_sub hl [2, 3, 4, 1, 0] rfl) h
      · have h := ife_t c_6 h
        refine lv_ldc hx hb hown (hg _ kc_X7_181) dX7_strengths_33 ?_
        exact W.iret (v := (-1000000003)) hx hb hr (fun t ht hW => ⟨⟨(-1000000003), M, rfl, Prod.mk.inj (Option.some.inj h), by rw [ht]; exact hP, x_KnW hKn t hW⟩, hS.F ht⟩) hS.2.2 dX7_strengths_35
    · have h := ife_t c_4 h
      refine lv_ldc hx hb hown (hg _ kc_X7_149) dX7_strengths_22 ?_
      exact W.iret (v := (-1000000001)) hx hb hr (fun t ht hW => ⟨⟨(-1000000001), M, rfl, Prod.mk.inj (Option.some.inj h), by rw [ht]; exact hP, x_KnW hKn t hW⟩, hS.F ht⟩) hS.2.2 dX7_strengths_24
noncomputable def FX7_tear  (M : (Nat → Nat → Int32)) : Option (Int32 × (Nat → Nat → Int32)) :=
  bo (FX0_clear 33 M) (fun (M_1 : (Nat → Nat → Int32)) => bo (FX0_clear 36 M_1) (fun (M_2 : (Nat → Nat → Int32)) => some (((M 33 2) + (M 36 2)), M_2)))
set_option maxHeartbeats 4000000 in
set_option maxRecDepth 100000 in
theorem tX7_tear (l : Launch) (dC : Nat → ClassId) (dI : Nat → Nat → Nat) (kI : ClassId) (ad : Nat → Nat)  (M : (Nat → Nat → Int32))  {r0 : Int32} {M0 : (Nat → Nat → Int32)} (h : FX7_tear  M = some (r0, M0)) : Met l yX7_tear (wsA yX7_tear cX7_tear 2 (some .int)) ({ frames := 1, cells := 0, slots := 0, locals := 20 } : Room) (va_Pc [.ref (ad (0))] (gI (x_Wd dC dI kI ad) (x_Kn dC dI kI ad) M)) (va_Qi (fun (r : Int32) (u : (Nat → Nat → Int32)) => r = r0 ∧ u = M0) (gI (x_Wd dC dI kI ad) (x_Kn dC dI kI ad)) (x_A ad)) 0 0 (x_A ad) := by
  refine Met.ofW (cc := cX7_tear) (maxL := 2) (ret := (some .int)) (by decide) rfl ?_
  intro p e s m args below meth c s₁ B hml hv
  obtain ⟨rfl, hP, hKn⟩ := hv
  have hx := B.exec
  have hb := B.bytes
  have hr := B.returns
  have hts := atoms_spec (ws := wsA yX7_tear cX7_tear 2 (some .int)) B.pre
  have hg : ∀ w ∈ lw_good, w.before _ s = true := fun w h => hts w (List.mem_cons_of_mem _ h)
  have hown : s.vm.findClass RX7 = some m.cls := findClass_of_methodNamed B.named
  have hlocks := B.notSynchronized
  have hS : va_S (x_A ad) s.heap s.heap [] := va_S.rf
  have hFx : gFix p c cX7_tear 2 s m _ RX7 := ⟨hx, hb, hml, hown, hg⟩
  have hP : va_P (dC, dI) vwCl (x_w kI ad M) s.heap := hP
  have hl := lv_entry ([.ref (ad (0))]) (n := 2) (Nat.le_of_ble_eq_true rfl)
  rw [lg_entry_eq]
  generalize (lg_sl ([.ref (ad (0))]) ++ List.replicate (2 - (lg_sl ([.ref (ad (0))])).length) Slot.unset).toArray = ls at hl ⊢
  have hl : lv_has ls 2 [(0, .ref (ad (0)))] := hl
  unfold FX7_tear at h
  refine lv_aload_n hx hb dX7_tear_0 rfl (lv_at hl 0 rfl) ?_
  refine va_get (D := (dC, dI)) (ci := 7) (v := .ref (ad (33))) (C := RX7) (T := TX7) (N := 14) hx hb hg inX7 hown hKn.1 hP (0) (x_at7 (c := 0) (by decide)) rfl 12 (Nat.le_of_ble_eq_true rfl) (hg _ lkF_X7_76) (fun _ h9 => h9) rfl dX7_tear_1 ?_
  refine va_getN (D := (dC, dI)) (ci := 0) (v := .int ((M 33 2))) (C := RX0) (T := TX0) (N := 3) hx hb hg inX0 hown hKn.1 hP (33) (x_at0 (c := 33) (by decide)) rfl 2 (Nat.le_of_ble_eq_true rfl) (nest_use hKn.2.2 nkF_X7_137) (fun _ h9 => h9) rfl dX7_tear_4 ?_
  refine lv_aload_n hx hb dX7_tear_7 rfl (lv_at hl 0 rfl) ?_
  refine va_get (D := (dC, dI)) (ci := 7) (v := .ref (ad (36))) (C := RX7) (T := TX7) (N := 14) hx hb hg inX7 hown hKn.1 hP (0) (x_at7 (c := 0) (by decide)) rfl 13 (Nat.le_of_ble_eq_true rfl) (hg _ lkF_X7_80) (fun _ h9 => h9) rfl dX7_tear_8 ?_
  refine va_getN (D := (dC, dI)) (ci := 0) (v := .int ((M 36 2))) (C := RX0) (T := TX0) (N := 3) hx hb hg inX0 hown hKn.1 hP (36) (x_at0 (c := 36) (by decide)) rfl 2 (Nat.le_of_ble_eq_true rfl) (nest_use hKn.2.2 nkF_X7_137) (fun _ h9 => h9) rfl dX7_tear_11 ?_
  refine lv_iadd hx hb dX7_tear_14 ?_
  refine lv_istore_n (lv' := [(1, .int (((M 33 2) + (M 36 2)))), (0, .ref (ad (0)))]) hx hb dX7_tear_15 rfl hl (Nat.le_of_ble_eq_true rfl) rfl (fun ls hl => ?_)
  refine lv_aload_n hx hb dX7_tear_16 rfl (lv_at hl 1 rfl) ?_
  refine va_get (D := (dC, dI)) (ci := 7) (v := .ref (ad (33))) (C := RX7) (T := TX7) (N := 14) hx hb hg inX7 hown hKn.1 hP (0) (x_at7 (c := 0) (by decide)) rfl 12 (Nat.le_of_ble_eq_true rfl) (hg _ lkF_X7_76) (fun _ h9 => h9) rfl dX7_tear_17 ?_
  obtain ⟨M_1, e20, h⟩ := bo_use h
  refine gc_v (va_runVN (As := []) (rest := []) hFx (tX0_clear l dC dI kI ad 33 M (by decide) e20) ⟨(gc_N hFx hKn.2.2 ck_yX0_clear nkM_X7_106 ⟨Nat.le_of_ble_eq_true rfl, Nat.le_of_ble_eq_true rfl⟩ rfl rfl), hg _ vi_yX0_clear, hg _ vs_yX0_clear⟩ (gp_V x_KnB (x_KnW hKn) hP (x_rc0 (c := 33) (by decide) hKn hP)) rfl rfl hl.1 rfl (lv_room (Nat.le_of_ble_eq_true rfl)) dX7_tear_20 ⟨Nat.zero_le _, Nat.zero_le _⟩) hS (fun H locs hP hS => ?_)
  have hP : va_P (dC, dI) vwCl (x_w kI ad M_1) H := hP
  refine lv_aload_n hx hb dX7_tear_23 rfl (lv_at hl 1 rfl) ?_
  refine va_get (D := (dC, dI)) (ci := 7) (v := .ref (ad (36))) (C := RX7) (T := TX7) (N := 14) hx hb hg inX7 hown hKn.1 hP (0) (x_at7 (c := 0) (by decide)) rfl 13 (Nat.le_of_ble_eq_true rfl) (hg _ lkF_X7_80) (fun _ h9 => h9) rfl dX7_tear_24 ?_
  obtain ⟨M_2, e27, h⟩ := bo_use h
  refine gc_v (va_runVN (As := []) (rest := []) hFx (tX0_clear l dC dI kI ad 36 M_1 (by decide) e27) ⟨(gc_N hFx hKn.2.2 ck_yX0_clear nkM_X7_106 ⟨Nat.le_of_ble_eq_true rfl, Nat.le_of_ble_eq_true rfl⟩ rfl rfl), hg _ vi_yX0_clear, hg _ vs_yX0_clear⟩ (gp_V x_KnB (x_KnW hKn) hP (x_rc0 (c := 36) (by decide) hKn hP)) rfl rfl hl.1 rfl (lv_room (Nat.le_of_ble_eq_true rfl)) dX7_tear_27 ⟨Nat.zero_le _, Nat.zero_le _⟩) hS (fun H locs hP hS => ?_)
  have hP : va_P (dC, dI) vwCl (x_w kI ad M_2) H := hP
  refine lv_iload_n hx hb dX7_tear_30 rfl (lv_at hl 0 rfl) ?_
  exact W.iret (v := ((M 33 2) + (M 36 2))) hx hb hr (fun t ht hW => ⟨⟨((M 33 2) + (M 36 2)), M_2, rfl, Prod.mk.inj (Option.some.inj h), by rw [ht]; exact hP, x_KnW hKn t hW⟩, hS.F ht⟩) hS.2.2 dX7_tear_31
noncomputable def FX7_thinks (a1 : Int32) (a2 : Int32) (M : (Nat → Nat → Int32)) : Option (Int32 × (Nat → Nat → Int32)) :=
  bo (FX1_hasFacts 3 a1 M) (fun (r_1 : Int32) => (if r_1 = 0 then some ((-1000000001), M) else jn (bo (FX7_mayBe a1 M) (fun (r_3 : Int32) => (if r_3 = 0 then some ((-1000000003), M) else bo (FX3_copyFrom 20 17 M) (fun (M_5 : (Nat → Nat → Int32)) => bo (FX3_spendNight 20 3 a1 M_5) (fun (M_6 : (Nat → Nat → Int32)) => (if a2 = (-1) then some ((M_6 20 5), M_6) else bo (FX7_at 21 a2 M_6) (fun (r_8 : Int32) => some (r_8, M_6)))))))) (fun J30 => (if a2 = (-1) then J30 else bo (FX1_hasOpinion 3 a2 M) (fun (r_10 : Int32) => (if r_10 = 0 then some ((-1000000001), M) else J30))))))
set_option maxHeartbeats 4000000 in
set_option maxRecDepth 100000 in
theorem tX7_thinks (l : Launch) (dC : Nat → ClassId) (dI : Nat → Nat → Nat) (kI : ClassId) (ad : Nat → Nat) (a1 : Int32) (a2 : Int32) (M : (Nat → Nat → Int32))  {r0 : Int32} {M0 : (Nat → Nat → Int32)} (h : FX7_thinks a1 a2 M = some (r0, M0)) : Met l yX7_thinks (wsA yX7_thinks cX7_thinks 3 (some .int)) ({ frames := 3, cells := 0, slots := 0, locals := 72 } : Room) (va_Pc [.ref (ad (0)), .int (a1), .int (a2)] (gI (x_Wd dC dI kI ad) (x_Kn dC dI kI ad) M)) (va_Qi (fun (r : Int32) (u : (Nat → Nat → Int32)) => r = r0 ∧ u = M0) (gI (x_Wd dC dI kI ad) (x_Kn dC dI kI ad)) (x_A ad)) 0 0 (x_A ad) := by
  refine Met.ofW (cc := cX7_thinks) (maxL := 3) (ret := (some .int)) (by decide) rfl ?_
  intro p e s m args below meth c s₁ B hml hv
  obtain ⟨rfl, hP, hKn⟩ := hv
  have hx := B.exec
  have hb := B.bytes
  have hr := B.returns
  have hts := atoms_spec (ws := wsA yX7_thinks cX7_thinks 3 (some .int)) B.pre
  have hg : ∀ w ∈ lw_good, w.before _ s = true := fun w h => hts w (List.mem_cons_of_mem _ h)
  have hown : s.vm.findClass RX7 = some m.cls := findClass_of_methodNamed B.named
  have hlocks := B.notSynchronized
  have hS : va_S (x_A ad) s.heap s.heap [] := va_S.rf
  have hFx : gFix p c cX7_thinks 3 s m _ RX7 := ⟨hx, hb, hml, hown, hg⟩
  have hP : va_P (dC, dI) vwCl (x_w kI ad M) s.heap := hP
  have hl := lv_entry ([.ref (ad (0)), .int (a1), .int (a2)]) (n := 3) (Nat.le_of_ble_eq_true rfl)
  rw [lg_entry_eq]
  generalize (lg_sl ([.ref (ad (0)), .int (a1), .int (a2)]) ++ List.replicate (3 - (lg_sl ([.ref (ad (0)), .int (a1), .int (a2)])).length) Slot.unset).toArray = ls at hl ⊢
  have hl : lv_has ls 3 [(0, .ref (ad (0))), (1, .int (a1)), (2, .int (a2))] := hl
  unfold FX7_thinks at h
  refine lv_aload_n hx hb dX7_thinks_0 rfl (lv_at hl 0 rfl) ?_
  refine va_get (D := (dC, dI)) (ci := 7) (v := .ref (ad (3))) (C := RX7) (T := TX7) (N := 14) hx hb hg inX7 hown hKn.1 hP (0) (x_at7 (c := 0) (by decide)) rfl 1 (Nat.le_of_ble_eq_true rfl) (hg _ lkF_X7_19) (fun _ h9 => h9) rfl dX7_thinks_1 ?_
  refine lv_iload_n hx hb dX7_thinks_4 rfl (lv_at hl 1 rfl) ?_
  obtain ⟨r_1, e5, h⟩ := bo_use h
  refine gc_i (va_runVN (As := [.int (a1)]) (rest := []) hFx (tX1_hasFacts l dC dI kI ad 3 a1 M (by decide) e5) ⟨(gc_N hFx hKn.2.2 ck_yX1_hasFacts nkM_X7_175 ⟨Nat.le_of_ble_eq_true rfl, Nat.le_of_ble_eq_true rfl⟩ rfl rfl), hg _ vi_yX1_hasFacts, hg _ vs_yX1_hasFacts⟩ (gp_V x_KnB (x_KnW hKn) hP (x_rc1 (c := 3) (by decide) hKn hP)) rfl rfl hl.1 rfl (lv_room (Nat.le_of_ble_eq_true rfl)) dX7_thinks_5 ⟨Nat.zero_le _, Nat.zero_le _⟩) hS (fun H locs hP hS => ?_)
  have hP : va_P (dC, dI) vwCl (x_w kI ad M) H := hP
  refine lv_if_eq (tgt := 27) hx hb dX7_thinks_8 (by decide) (fun c_2 => ?_) (fun c_2 => ?_)
  · have h := ife_t c_2 h
    refine lv_ldc hx hb hown (hg _ kc_X7_149) dX7_thinks_27 ?_
    exact W.iret (v := (-1000000001)) hx hb hr (fun t ht hW => ⟨⟨(-1000000001), M, rfl, Prod.mk.inj (Option.some.inj h), by rw [ht]; exact hP, x_KnW hKn t hW⟩, hS.F ht⟩) hS.2.2 dX7_thinks_29
  · have h := ife_f c_2 h
    refine lv_iload_n hx hb dX7_thinks_11 rfl (lv_at hl 2 rfl) ?_
    refine lv_iconst (v := -1) hx hb dX7_thinks_12 (by decide) ?_
    obtain ⟨J30, eJ30, h⟩ := jn_use h
    have hJ30 : ∀  (H : Heap) (locs : List Loc) (ls : Array Slot), va_P (dC, dI) vwCl (x_w kI ad M) H → va_S (x_A ad) s.heap H locs → lv_has ls 3 [(0, .ref (ad (0))), (1, .int (a1)), (2, .int (a2))] → J30  = some (r0, M0) → W p l e (headSpec (wsA yX7_thinks cX7_thinks 3 (some .int)) ({ frames := 3, cells := 0, slots := 0, locals := 72 } : Room)).room s m (([.ref (ad (0)), .int (a1), .int (a2)] : List Value).toArray) below meth c H locs 0 0 (MQ below (va_Qi (fun (r : Int32) (u : (Nat → Nat → Int32)) => r = r0 ∧ u = M0) (gI (x_Wd dC dI kI ad) (x_Kn dC dI kI ad)) (x_A ad)) (([.ref (ad (0)), .int (a1), .int (a2)] : List Value).toArray) s 0 0 (x_A ad)) (F0 m 30 ls []) := by
      intro  H locs ls hP hS hl h
      have h := useK0 eJ30 h
      refine lv_aload_n hx hb dX7_thinks_30 rfl (lv_at hl 0 rfl) ?_
      refine lv_iload_n hx hb dX7_thinks_31 rfl (lv_at hl 1 rfl) ?_
      obtain ⟨r_3, e32, h⟩ := bo_use h
      refine gc_i (va_runV (As := [.int (a1)]) (rest := []) hFx (tX7_mayBe l dC dI kI ad a1 M  e32) ⟨(gc_B hFx ck_yX7_mayBe lkM_X7_178 ⟨Nat.le_of_ble_eq_true rfl, Nat.le_of_ble_eq_true rfl⟩ rfl rfl), hg _ vi_yX7_mayBe, hg _ vs_yX7_mayBe⟩ (gp_V x_KnB (x_KnW hKn) hP (x_rc7 (c := 0) (by decide) hKn hP)) rfl rfl hl.1 rfl (lv_room (Nat.le_of_ble_eq_true rfl)) dX7_thinks_32 ⟨Nat.zero_le _, Nat.zero_le _⟩) hS (fun H locs hP hS => ?_)
      have hP : va_P (dC, dI) vwCl (x_w kI ad M) H := hP
      refine lv_if_ne (tgt := 41) hx hb dX7_thinks_35 (by decide) (fun c_4 => ?_) (fun c_4 => ?_)
      · have h := ife_f c_4 h
        refine lv_aload_n hx hb dX7_thinks_41 rfl (lv_at hl 0 rfl) ?_
        refine va_get (D := (dC, dI)) (ci := 7) (v := .ref (ad (20))) (C := RX7) (T := TX7) (N := 14) hx hb hg inX7 hown hKn.1 hP (0) (x_at7 (c := 0) (by decide)) rfl 4 (Nat.le_of_ble_eq_true rfl) (hg _ lkF_X7_33) (fun _ h9 => h9) rfl dX7_thinks_42 ?_
        refine lv_aload_n hx hb dX7_thinks_45 rfl (lv_at hl 0 rfl) ?_
        refine va_get (D := (dC, dI)) (ci := 7) (v := .ref (ad (17))) (C := RX7) (T := TX7) (N := 14) hx hb hg inX7 hown hKn.1 hP (0) (x_at7 (c := 0) (by decide)) rfl 3 (Nat.le_of_ble_eq_true rfl) (hg _ lkF_X7_29) (fun _ h9 => h9) rfl dX7_thinks_46 ?_
        obtain ⟨M_5, e49, h⟩ := bo_use h
        refine gc_v (va_runVN (As := [.ref (ad (17))]) (rest := []) hFx (tX3_copyFrom l dC dI kI ad 20 17 M (by decide) (by decide) e49) ⟨(gc_N hFx hKn.2.2 ck_yX3_copyFrom nkM_X7_210 ⟨Nat.le_of_ble_eq_true rfl, Nat.le_of_ble_eq_true rfl⟩ rfl rfl), hg _ vi_yX3_copyFrom, hg _ vs_yX3_copyFrom⟩ (gp_V x_KnB (x_KnW hKn) hP (x_rc3 (c := 20) (by decide) hKn hP)) rfl rfl hl.1 rfl (lv_room (Nat.le_of_ble_eq_true rfl)) dX7_thinks_49 ⟨Nat.zero_le _, Nat.zero_le _⟩) hS (fun H locs hP hS => ?_)
        have hP : va_P (dC, dI) vwCl (x_w kI ad M_5) H := hP
        refine lv_aload_n hx hb dX7_thinks_52 rfl (lv_at hl 0 rfl) ?_
        refine va_get (D := (dC, dI)) (ci := 7) (v := .ref (ad (20))) (C := RX7) (T := TX7) (N := 14) hx hb hg inX7 hown hKn.1 hP (0) (x_at7 (c := 0) (by decide)) rfl 4 (Nat.le_of_ble_eq_true rfl) (hg _ lkF_X7_33) (fun _ h9 => h9) rfl dX7_thinks_53 ?_
        refine lv_aload_n hx hb dX7_thinks_56 rfl (lv_at hl 0 rfl) ?_
        refine va_get (D := (dC, dI)) (ci := 7) (v := .ref (ad (3))) (C := RX7) (T := TX7) (N := 14) hx hb hg inX7 hown hKn.1 hP (0) (x_at7 (c := 0) (by decide)) rfl 1 (Nat.le_of_ble_eq_true rfl) (hg _ lkF_X7_19) (fun _ h9 => h9) rfl dX7_thinks_57 ?_
        refine lv_iload_n hx hb dX7_thinks_60 rfl (lv_at hl 1 rfl) ?_
        obtain ⟨M_6, e61, h⟩ := bo_use h
        refine gc_v (va_runVN (As := [.ref (ad (3)), .int (a1)]) (rest := []) hFx (tX3_spendNight l dC dI kI ad 20 3 a1 M_5 (by decide) (by decide) e61) ⟨(gc_N hFx hKn.2.2 ck_yX3_spendNight nkM_X7_187 ⟨Nat.le_of_ble_eq_true rfl, Nat.le_of_ble_eq_true rfl⟩ rfl rfl), hg _ vi_yX3_spendNight, hg _ vs_yX3_spendNight⟩ (gp_V x_KnB (x_KnW hKn) hP (x_rc3 (c := 20) (by decide) hKn hP)) rfl rfl hl.1 rfl (lv_room (Nat.le_of_ble_eq_true rfl)) dX7_thinks_61 ⟨Nat.zero_le _, Nat.zero_le _⟩) hS (fun H locs hP hS => ?_)
        have hP : va_P (dC, dI) vwCl (x_w kI ad M_6) H := hP
        refine lv_iload_n hx hb dX7_thinks_64 rfl (lv_at hl 2 rfl) ?_
        refine lv_iconst (v := -1) hx hb dX7_thinks_65 (by decide) ?_
        refine lv_icmp_ne (tgt := 79) hx hb dX7_thinks_66 (by decide) (fun c_7 => ?_) (fun c_7 => ?_)
        · have h := ife_f c_7 h
          refine lv_aload_n hx hb dX7_thinks_79 rfl (lv_at hl 0 rfl) ?_
          refine va_get (D := (dC, dI)) (ci := 7) (v := .ref (ad (20))) (C := RX7) (T := TX7) (N := 14) hx hb hg inX7 hown hKn.1 hP (0) (x_at7 (c := 0) (by decide)) rfl 4 (Nat.le_of_ble_eq_true rfl) (hg _ lkF_X7_33) (fun _ h9 => h9) rfl dX7_thinks_80 ?_
          refine va_getN (D := (dC, dI)) (ci := 3) (v := .ref (ad (21))) (C := RX3) (T := TX3) (N := 6) hx hb hg inX3 hown hKn.1 hP (20) (x_at3 (c := 20) (by decide)) rfl 0 (Nat.le_of_ble_eq_true rfl) (nest_use hKn.2.2 nkF_X7_142) (fun _ h9 => h9) rfl dX7_thinks_83 ?_
          refine lv_iload_n hx hb dX7_thinks_86 rfl (lv_at hl 2 rfl) ?_
          obtain ⟨r_8, e87, h⟩ := bo_use h
          refine gc_i (va_runS (As := [.ref (ad (21)), .int (a2)]) (rest := []) hFx (tX7_at l dC dI kI ad 21 a2 M_6 (by decide) e87) ⟨(gc_B hFx ck_yX7_at lkM_X7_145 ⟨Nat.le_of_ble_eq_true rfl, Nat.le_of_ble_eq_true rfl⟩ rfl rfl), hg _ st_yX7_at⟩ (gp_S x_KnB (x_KnW hKn) hP) rfl rfl hl.1 rfl (lv_room (Nat.le_of_ble_eq_true rfl)) dX7_thinks_87 ⟨Nat.zero_le _, Nat.zero_le _⟩) hS (fun H locs hP hS => ?_)
          have hP : va_P (dC, dI) vwCl (x_w kI ad M_6) H := hP
          exact W.iret (v := r_8) hx hb hr (fun t ht hW => ⟨⟨r_8, M_6, rfl, Prod.mk.inj (Option.some.inj h), by rw [ht]; exact hP, x_KnW hKn t hW⟩, hS.F ht⟩) hS.2.2 dX7_thinks_90
        · have h := ife_t c_7 h
          refine lv_aload_n hx hb dX7_thinks_69 rfl (lv_at hl 0 rfl) ?_
          refine va_get (D := (dC, dI)) (ci := 7) (v := .ref (ad (20))) (C := RX7) (T := TX7) (N := 14) hx hb hg inX7 hown hKn.1 hP (0) (x_at7 (c := 0) (by decide)) rfl 4 (Nat.le_of_ble_eq_true rfl) (hg _ lkF_X7_33) (fun _ h9 => h9) rfl dX7_thinks_70 ?_
          refine va_getN (D := (dC, dI)) (ci := 3) (v := .int ((M_6 20 5))) (C := RX3) (T := TX3) (N := 6) hx hb hg inX3 hown hKn.1 hP (20) (x_at3 (c := 20) (by decide)) rfl 5 (Nat.le_of_ble_eq_true rfl) (nest_use hKn.2.2 nkF_X7_134) (fun _ h9 => h9) rfl dX7_thinks_73 ?_
          refine lv_goto (tgt := 90) hx hb dX7_thinks_76 (by decide) ?_
          exact W.iret (v := (M_6 20 5)) hx hb hr (fun t ht hW => ⟨⟨(M_6 20 5), M_6, rfl, Prod.mk.inj (Option.some.inj h), by rw [ht]; exact hP, x_KnW hKn t hW⟩, hS.F ht⟩) hS.2.2 dX7_thinks_90
      · have h := ife_t c_4 h
        refine lv_ldc hx hb hown (hg _ kc_X7_181) dX7_thinks_38 ?_
        exact W.iret (v := (-1000000003)) hx hb hr (fun t ht hW => ⟨⟨(-1000000003), M, rfl, Prod.mk.inj (Option.some.inj h), by rw [ht]; exact hP, x_KnW hKn t hW⟩, hS.F ht⟩) hS.2.2 dX7_thinks_40
    refine lv_icmp_eq (tgt := 30) hx hb dX7_thinks_13 (by decide) (fun c_9 => ?_) (fun c_9 => ?_)
    · have h := ife_t c_9 h
      exact hJ30 _ _ _ hP hS (lv_sub hl [0, 1, 2] rfl) h
    · have h := ife_f c_9 h
      refine lv_aload_n hx hb dX7_thinks_16 rfl (lv_at hl 0 rfl) ?_
      refine va_get (D := (dC, dI)) (ci := 7) (v := .ref (ad (3))) (C := RX7) (T := TX7) (N := 14) hx hb hg inX7 hown hKn.1 hP (0) (x_at7 (c := 0) (by decide)) rfl 1 (Nat.le_of_ble_eq_true rfl) (hg _ lkF_X7_19) (fun _ h9 => h9) rfl dX7_thinks_17 ?_
      refine lv_iload_n hx hb dX7_thinks_20 rfl (lv_at hl 2 rfl) ?_
      obtain ⟨r_10, e21, h⟩ := bo_use h
      refine gc_i (va_runVN (As := [.int (a2)]) (rest := []) hFx (tX1_hasOpinion l dC dI kI ad 3 a2 M (by decide) e21) ⟨(gc_N hFx hKn.2.2 ck_yX1_hasOpinion nkM_X7_139 ⟨Nat.le_of_ble_eq_true rfl, Nat.le_of_ble_eq_true rfl⟩ rfl rfl), hg _ vi_yX1_hasOpinion, hg _ vs_yX1_hasOpinion⟩ (gp_V x_KnB (x_KnW hKn) hP (x_rc1 (c := 3) (by decide) hKn hP)) rfl rfl hl.1 rfl (lv_room (Nat.le_of_ble_eq_true rfl)) dX7_thinks_21 ⟨Nat.zero_le _, Nat.zero_le _⟩) hS (fun H locs hP hS => ?_)
      have hP : va_P (dC, dI) vwCl (x_w kI ad M) H := hP
      refine lv_if_ne (tgt := 30) hx hb dX7_thinks_24 (by decide) (fun c_11 => ?_) (fun c_11 => ?_)
      · have h := ife_f c_11 h
        exact hJ30 _ _ _ hP hS (lv_sub hl [0, 1, 2] rfl) h
      · have h := ife_t c_11 h
        refine lv_ldc hx hb hown (hg _ kc_X7_149) dX7_thinks_27 ?_
        exact W.iret (v := (-1000000001)) hx hb hr (fun t ht hW => ⟨⟨(-1000000001), M, rfl, Prod.mk.inj (Option.some.inj h), by rw [ht]; exact hP, x_KnW hKn t hW⟩, hS.F ht⟩) hS.2.2 dX7_thinks_29
noncomputable def FX7_thought (a1 : Int32) (a2 : Int32) (M : (Nat → Nat → Int32)) : Option (Int32 × (Nat → Nat → Int32)) :=
  bd (FX7_noteIn 33 a1 a2 M) (fun (r_1 : Int32) (M_2 : (Nat → Nat → Int32)) => some (r_1, M_2))
set_option maxHeartbeats 4000000 in
set_option maxRecDepth 100000 in
theorem tX7_thought (l : Launch) (dC : Nat → ClassId) (dI : Nat → Nat → Nat) (kI : ClassId) (ad : Nat → Nat) (a1 : Int32) (a2 : Int32) (M : (Nat → Nat → Int32))  {r0 : Int32} {M0 : (Nat → Nat → Int32)} (h : FX7_thought a1 a2 M = some (r0, M0)) : Met l yX7_thought (wsA yX7_thought cX7_thought 3 (some .int)) ({ frames := 3, cells := 0, slots := 0, locals := 67 } : Room) (va_Pc [.ref (ad (0)), .int (a1), .int (a2)] (gI (x_Wd dC dI kI ad) (x_Kn dC dI kI ad) M)) (va_Qi (fun (r : Int32) (u : (Nat → Nat → Int32)) => r = r0 ∧ u = M0) (gI (x_Wd dC dI kI ad) (x_Kn dC dI kI ad)) (x_A ad)) 0 0 (x_A ad) := by
  refine Met.ofW (cc := cX7_thought) (maxL := 3) (ret := (some .int)) (by decide) rfl ?_
  intro p e s m args below meth c s₁ B hml hv
  obtain ⟨rfl, hP, hKn⟩ := hv
  have hx := B.exec
  have hb := B.bytes
  have hr := B.returns
  have hts := atoms_spec (ws := wsA yX7_thought cX7_thought 3 (some .int)) B.pre
  have hg : ∀ w ∈ lw_good, w.before _ s = true := fun w h => hts w (List.mem_cons_of_mem _ h)
  have hown : s.vm.findClass RX7 = some m.cls := findClass_of_methodNamed B.named
  have hlocks := B.notSynchronized
  have hS : va_S (x_A ad) s.heap s.heap [] := va_S.rf
  have hFx : gFix p c cX7_thought 3 s m _ RX7 := ⟨hx, hb, hml, hown, hg⟩
  have hP : va_P (dC, dI) vwCl (x_w kI ad M) s.heap := hP
  have hl := lv_entry ([.ref (ad (0)), .int (a1), .int (a2)]) (n := 3) (Nat.le_of_ble_eq_true rfl)
  rw [lg_entry_eq]
  generalize (lg_sl ([.ref (ad (0)), .int (a1), .int (a2)]) ++ List.replicate (3 - (lg_sl ([.ref (ad (0)), .int (a1), .int (a2)])).length) Slot.unset).toArray = ls at hl ⊢
  have hl : lv_has ls 3 [(0, .ref (ad (0))), (1, .int (a1)), (2, .int (a2))] := hl
  unfold FX7_thought at h
  refine lv_aload_n hx hb dX7_thought_0 rfl (lv_at hl 0 rfl) ?_
  refine lv_aload_n hx hb dX7_thought_1 rfl (lv_at hl 0 rfl) ?_
  refine va_get (D := (dC, dI)) (ci := 7) (v := .ref (ad (33))) (C := RX7) (T := TX7) (N := 14) hx hb hg inX7 hown hKn.1 hP (0) (x_at7 (c := 0) (by decide)) rfl 12 (Nat.le_of_ble_eq_true rfl) (hg _ lkF_X7_76) (fun _ h9 => h9) rfl dX7_thought_2 ?_
  refine lv_iload_n hx hb dX7_thought_5 rfl (lv_at hl 1 rfl) ?_
  refine lv_iload_n hx hb dX7_thought_6 rfl (lv_at hl 2 rfl) ?_
  obtain ⟨r_1, M_2, e7, h⟩ := bd_use h
  refine gc_i (va_runV (As := [.ref (ad (33)), .int (a1), .int (a2)]) (rest := []) hFx (tX7_noteIn l dC dI kI ad 33 a1 a2 M (by decide) e7) ⟨(gc_B hFx ck_yX7_noteIn lkM_X7_249 ⟨Nat.le_of_ble_eq_true rfl, Nat.le_of_ble_eq_true rfl⟩ rfl rfl), hg _ vi_yX7_noteIn, hg _ vs_yX7_noteIn⟩ (gp_V x_KnB (x_KnW hKn) hP (x_rc7 (c := 0) (by decide) hKn hP)) rfl rfl hl.1 rfl (lv_room (Nat.le_of_ble_eq_true rfl)) dX7_thought_7 ⟨Nat.zero_le _, Nat.zero_le _⟩) hS (fun H locs hP hS => ?_)
  have hP : va_P (dC, dI) vwCl (x_w kI ad M_2) H := hP
  exact W.iret (v := r_1) hx hb hr (fun t ht hW => ⟨⟨r_1, M_2, rfl, Prod.mk.inj (Option.some.inj h), by rw [ht]; exact hP, x_KnW hKn t hW⟩, hS.F ht⟩) hS.2.2 dX7_thought_10
noncomputable def FX7_told (a1 : Int32) (M : (Nat → Nat → Int32)) : Option Int32 :=
  (if a1 = 0 then some (M 3 0) else (if a1 = 1 then some (M 3 1) else (if a1 = 2 then some (M 3 2) else (if a1 = 3 then some (M 3 3) else (if a1 = 4 then some (M 1 1) else (if a1 = 5 then some (M 17 3) else (if a1 = 6 then some (M 17 4) else (if a1 = 7 then bo (FX3_convincedOf 17 3 M) (fun (r_9 : Int32) => some r_9) else (if a1 = 8 then some (M 17 2) else (if a1 = 9 then some (M 17 5) else (if a1 = 10 then some (M 33 2) else (if a1 = 11 then some (M 36 2) else (if a1 = 12 then some (M 27 2) else some (-1000000002))))))))))))))
set_option maxHeartbeats 4000000 in
set_option maxRecDepth 100000 in
theorem tX7_told (l : Launch) (dC : Nat → ClassId) (dI : Nat → Nat → Nat) (kI : ClassId) (ad : Nat → Nat) (a1 : Int32) (M : (Nat → Nat → Int32))  {r0 : Int32} (h : FX7_told a1 M = some r0) : Met l yX7_told (wsA yX7_told cX7_told 2 (some .int)) ({ frames := 2, cells := 0, slots := 0, locals := 44 } : Room) (va_Pc [.ref (ad (0)), .int (a1)] (gI (x_Wd dC dI kI ad) (x_Kn dC dI kI ad) M)) (va_Qi (fun (r : Int32) (u : (Nat → Nat → Int32)) => r = r0 ∧ u = M) (gI (x_Wd dC dI kI ad) (x_Kn dC dI kI ad)) (x_A ad)) 0 0 (x_A ad) := by
  refine Met.ofW (cc := cX7_told) (maxL := 2) (ret := (some .int)) (by decide) rfl ?_
  intro p e s m args below meth c s₁ B hml hv
  obtain ⟨rfl, hP, hKn⟩ := hv
  have hx := B.exec
  have hb := B.bytes
  have hr := B.returns
  have hts := atoms_spec (ws := wsA yX7_told cX7_told 2 (some .int)) B.pre
  have hg : ∀ w ∈ lw_good, w.before _ s = true := fun w h => hts w (List.mem_cons_of_mem _ h)
  have hown : s.vm.findClass RX7 = some m.cls := findClass_of_methodNamed B.named
  have hlocks := B.notSynchronized
  have hS : va_S (x_A ad) s.heap s.heap [] := va_S.rf
  have hFx : gFix p c cX7_told 2 s m _ RX7 := ⟨hx, hb, hml, hown, hg⟩
  have hP : va_P (dC, dI) vwCl (x_w kI ad M) s.heap := hP
  have hl := lv_entry ([.ref (ad (0)), .int (a1)]) (n := 2) (Nat.le_of_ble_eq_true rfl)
  rw [lg_entry_eq]
  generalize (lg_sl ([.ref (ad (0)), .int (a1)]) ++ List.replicate (2 - (lg_sl ([.ref (ad (0)), .int (a1)])).length) Slot.unset).toArray = ls at hl ⊢
  have hl : lv_has ls 2 [(0, .ref (ad (0))), (1, .int (a1))] := hl
  unfold FX7_told at h
  refine lv_iload_n hx hb dX7_told_0 rfl (lv_at hl 1 rfl) ?_
  by_cases c_1 : a1 = 0
  · have h := ife_t c_1 h
    refine lv_tableIn (off := 67) (tgt := 68) hx hb dX7_told_1 (by rw [c_1]; decide) (by rw [c_1]; decide) (by rw [c_1]; rfl) (by decide) ?_
    refine lv_aload_n hx hb dX7_told_68 rfl (lv_at hl 0 rfl) ?_
    refine va_get (D := (dC, dI)) (ci := 7) (v := .ref (ad (3))) (C := RX7) (T := TX7) (N := 14) hx hb hg inX7 hown hKn.1 hP (0) (x_at7 (c := 0) (by decide)) rfl 1 (Nat.le_of_ble_eq_true rfl) (hg _ lkF_X7_19) (fun _ h9 => h9) rfl dX7_told_69 ?_
    refine va_getN (D := (dC, dI)) (ci := 1) (v := .int ((M 3 0))) (C := RX1) (T := TX1) (N := 10) hx hb hg inX1 hown hKn.1 hP (3) (x_at1 (c := 3) (by decide)) rfl 0 (Nat.le_of_ble_eq_true rfl) (nest_use hKn.2.2 nkF_X7_113) (fun _ h9 => h9) rfl dX7_told_72 ?_
    exact W.iret (v := (M 3 0)) hx hb hr (fun t ht hW => ⟨⟨(M 3 0), M, rfl, ⟨Option.some.inj h, rfl⟩, by rw [ht]; exact hP, x_KnW hKn t hW⟩, hS.F ht⟩) hS.2.2 dX7_told_75
  have h := ife_f c_1 h
  by_cases c_2 : a1 = 1
  · have h := ife_t c_2 h
    refine lv_tableIn (off := 75) (tgt := 76) hx hb dX7_told_1 (by rw [c_2]; decide) (by rw [c_2]; decide) (by rw [c_2]; rfl) (by decide) ?_
    refine lv_aload_n hx hb dX7_told_76 rfl (lv_at hl 0 rfl) ?_
    refine va_get (D := (dC, dI)) (ci := 7) (v := .ref (ad (3))) (C := RX7) (T := TX7) (N := 14) hx hb hg inX7 hown hKn.1 hP (0) (x_at7 (c := 0) (by decide)) rfl 1 (Nat.le_of_ble_eq_true rfl) (hg _ lkF_X7_19) (fun _ h9 => h9) rfl dX7_told_77 ?_
    refine va_getN (D := (dC, dI)) (ci := 1) (v := .int ((M 3 1))) (C := RX1) (T := TX1) (N := 10) hx hb hg inX1 hown hKn.1 hP (3) (x_at1 (c := 3) (by decide)) rfl 1 (Nat.le_of_ble_eq_true rfl) (nest_use hKn.2.2 nkF_X7_116) (fun _ h9 => h9) rfl dX7_told_80 ?_
    exact W.iret (v := (M 3 1)) hx hb hr (fun t ht hW => ⟨⟨(M 3 1), M, rfl, ⟨Option.some.inj h, rfl⟩, by rw [ht]; exact hP, x_KnW hKn t hW⟩, hS.F ht⟩) hS.2.2 dX7_told_83
  have h := ife_f c_2 h
  by_cases c_3 : a1 = 2
  · have h := ife_t c_3 h
    refine lv_tableIn (off := 83) (tgt := 84) hx hb dX7_told_1 (by rw [c_3]; decide) (by rw [c_3]; decide) (by rw [c_3]; rfl) (by decide) ?_
    refine lv_aload_n hx hb dX7_told_84 rfl (lv_at hl 0 rfl) ?_
    refine va_get (D := (dC, dI)) (ci := 7) (v := .ref (ad (3))) (C := RX7) (T := TX7) (N := 14) hx hb hg inX7 hown hKn.1 hP (0) (x_at7 (c := 0) (by decide)) rfl 1 (Nat.le_of_ble_eq_true rfl) (hg _ lkF_X7_19) (fun _ h9 => h9) rfl dX7_told_85 ?_
    refine va_getN (D := (dC, dI)) (ci := 1) (v := .int ((M 3 2))) (C := RX1) (T := TX1) (N := 10) hx hb hg inX1 hown hKn.1 hP (3) (x_at1 (c := 3) (by decide)) rfl 2 (Nat.le_of_ble_eq_true rfl) (nest_use hKn.2.2 nkF_X7_107) (fun _ h9 => h9) rfl dX7_told_88 ?_
    exact W.iret (v := (M 3 2)) hx hb hr (fun t ht hW => ⟨⟨(M 3 2), M, rfl, ⟨Option.some.inj h, rfl⟩, by rw [ht]; exact hP, x_KnW hKn t hW⟩, hS.F ht⟩) hS.2.2 dX7_told_91
  have h := ife_f c_3 h
  by_cases c_4 : a1 = 3
  · have h := ife_t c_4 h
    refine lv_tableIn (off := 91) (tgt := 92) hx hb dX7_told_1 (by rw [c_4]; decide) (by rw [c_4]; decide) (by rw [c_4]; rfl) (by decide) ?_
    refine lv_aload_n hx hb dX7_told_92 rfl (lv_at hl 0 rfl) ?_
    refine va_get (D := (dC, dI)) (ci := 7) (v := .ref (ad (3))) (C := RX7) (T := TX7) (N := 14) hx hb hg inX7 hown hKn.1 hP (0) (x_at7 (c := 0) (by decide)) rfl 1 (Nat.le_of_ble_eq_true rfl) (hg _ lkF_X7_19) (fun _ h9 => h9) rfl dX7_told_93 ?_
    refine va_getN (D := (dC, dI)) (ci := 1) (v := .int ((M 3 3))) (C := RX1) (T := TX1) (N := 10) hx hb hg inX1 hown hKn.1 hP (3) (x_at1 (c := 3) (by decide)) rfl 3 (Nat.le_of_ble_eq_true rfl) (nest_use hKn.2.2 nkF_X7_119) (fun _ h9 => h9) rfl dX7_told_96 ?_
    exact W.iret (v := (M 3 3)) hx hb hr (fun t ht hW => ⟨⟨(M 3 3), M, rfl, ⟨Option.some.inj h, rfl⟩, by rw [ht]; exact hP, x_KnW hKn t hW⟩, hS.F ht⟩) hS.2.2 dX7_told_99
  have h := ife_f c_4 h
  by_cases c_5 : a1 = 4
  · have h := ife_t c_5 h
    refine lv_tableIn (off := 99) (tgt := 100) hx hb dX7_told_1 (by rw [c_5]; decide) (by rw [c_5]; decide) (by rw [c_5]; rfl) (by decide) ?_
    refine lv_aload_n hx hb dX7_told_100 rfl (lv_at hl 0 rfl) ?_
    refine va_get (D := (dC, dI)) (ci := 7) (v := .ref (ad (1))) (C := RX7) (T := TX7) (N := 14) hx hb hg inX7 hown hKn.1 hP (0) (x_at7 (c := 0) (by decide)) rfl 0 (Nat.le_of_ble_eq_true rfl) (hg _ lkF_X7_10) (fun _ h9 => h9) rfl dX7_told_101 ?_
    refine va_getN (D := (dC, dI)) (ci := 2) (v := .int ((M 1 1))) (C := RX2) (T := TX2) (N := 7) hx hb hg inX2 hown hKn.1 hP (1) (x_at2 (c := 1) (by decide)) rfl 1 (Nat.le_of_ble_eq_true rfl) (nest_use hKn.2.2 nkF_X7_88) (fun _ h9 => h9) rfl dX7_told_104 ?_
    exact W.iret (v := (M 1 1)) hx hb hr (fun t ht hW => ⟨⟨(M 1 1), M, rfl, ⟨Option.some.inj h, rfl⟩, by rw [ht]; exact hP, x_KnW hKn t hW⟩, hS.F ht⟩) hS.2.2 dX7_told_107
  have h := ife_f c_5 h
  by_cases c_6 : a1 = 5
  · have h := ife_t c_6 h
    refine lv_tableIn (off := 107) (tgt := 108) hx hb dX7_told_1 (by rw [c_6]; decide) (by rw [c_6]; decide) (by rw [c_6]; rfl) (by decide) ?_
    refine lv_aload_n hx hb dX7_told_108 rfl (lv_at hl 0 rfl) ?_
    refine va_get (D := (dC, dI)) (ci := 7) (v := .ref (ad (17))) (C := RX7) (T := TX7) (N := 14) hx hb hg inX7 hown hKn.1 hP (0) (x_at7 (c := 0) (by decide)) rfl 3 (Nat.le_of_ble_eq_true rfl) (hg _ lkF_X7_29) (fun _ h9 => h9) rfl dX7_told_109 ?_
    refine va_getN (D := (dC, dI)) (ci := 3) (v := .int ((M 17 3))) (C := RX3) (T := TX3) (N := 6) hx hb hg inX3 hown hKn.1 hP (17) (x_at3 (c := 17) (by decide)) rfl 3 (Nat.le_of_ble_eq_true rfl) (nest_use hKn.2.2 nkF_X7_122) (fun _ h9 => h9) rfl dX7_told_112 ?_
    exact W.iret (v := (M 17 3)) hx hb hr (fun t ht hW => ⟨⟨(M 17 3), M, rfl, ⟨Option.some.inj h, rfl⟩, by rw [ht]; exact hP, x_KnW hKn t hW⟩, hS.F ht⟩) hS.2.2 dX7_told_115
  have h := ife_f c_6 h
  by_cases c_7 : a1 = 6
  · have h := ife_t c_7 h
    refine lv_tableIn (off := 115) (tgt := 116) hx hb dX7_told_1 (by rw [c_7]; decide) (by rw [c_7]; decide) (by rw [c_7]; rfl) (by decide) ?_
    refine lv_aload_n hx hb dX7_told_116 rfl (lv_at hl 0 rfl) ?_
    refine va_get (D := (dC, dI)) (ci := 7) (v := .ref (ad (17))) (C := RX7) (T := TX7) (N := 14) hx hb hg inX7 hown hKn.1 hP (0) (x_at7 (c := 0) (by decide)) rfl 3 (Nat.le_of_ble_eq_true rfl) (hg _ lkF_X7_29) (fun _ h9 => h9) rfl dX7_told_117 ?_
    refine va_getN (D := (dC, dI)) (ci := 3) (v := .int ((M 17 4))) (C := RX3) (T := TX3) (N := 6) hx hb hg inX3 hown hKn.1 hP (17) (x_at3 (c := 17) (by decide)) rfl 4 (Nat.le_of_ble_eq_true rfl) (nest_use hKn.2.2 nkF_X7_125) (fun _ h9 => h9) rfl dX7_told_120 ?_
    exact W.iret (v := (M 17 4)) hx hb hr (fun t ht hW => ⟨⟨(M 17 4), M, rfl, ⟨Option.some.inj h, rfl⟩, by rw [ht]; exact hP, x_KnW hKn t hW⟩, hS.F ht⟩) hS.2.2 dX7_told_123
  have h := ife_f c_7 h
  by_cases c_8 : a1 = 7
  · have h := ife_t c_8 h
    refine lv_tableIn (off := 123) (tgt := 124) hx hb dX7_told_1 (by rw [c_8]; decide) (by rw [c_8]; decide) (by rw [c_8]; rfl) (by decide) ?_
    refine lv_aload_n hx hb dX7_told_124 rfl (lv_at hl 0 rfl) ?_
    refine va_get (D := (dC, dI)) (ci := 7) (v := .ref (ad (17))) (C := RX7) (T := TX7) (N := 14) hx hb hg inX7 hown hKn.1 hP (0) (x_at7 (c := 0) (by decide)) rfl 3 (Nat.le_of_ble_eq_true rfl) (hg _ lkF_X7_29) (fun _ h9 => h9) rfl dX7_told_125 ?_
    refine lv_aload_n hx hb dX7_told_128 rfl (lv_at hl 0 rfl) ?_
    refine va_get (D := (dC, dI)) (ci := 7) (v := .ref (ad (3))) (C := RX7) (T := TX7) (N := 14) hx hb hg inX7 hown hKn.1 hP (0) (x_at7 (c := 0) (by decide)) rfl 1 (Nat.le_of_ble_eq_true rfl) (hg _ lkF_X7_19) (fun _ h9 => h9) rfl dX7_told_129 ?_
    obtain ⟨r_9, e132, h⟩ := bo_use h
    refine gc_i (va_runVN (As := [.ref (ad (3))]) (rest := []) hFx (tX3_convincedOf l dC dI kI ad 17 3 M (by decide) (by decide) e132) ⟨(gc_N hFx hKn.2.2 ck_yX3_convincedOf nkM_X7_128 ⟨Nat.le_of_ble_eq_true rfl, Nat.le_of_ble_eq_true rfl⟩ rfl rfl), hg _ vi_yX3_convincedOf, hg _ vs_yX3_convincedOf⟩ (gp_V x_KnB (x_KnW hKn) hP (x_rc3 (c := 17) (by decide) hKn hP)) rfl rfl hl.1 rfl (lv_room (Nat.le_of_ble_eq_true rfl)) dX7_told_132 ⟨Nat.zero_le _, Nat.zero_le _⟩) hS (fun H locs hP hS => ?_)
    have hP : va_P (dC, dI) vwCl (x_w kI ad M) H := hP
    exact W.iret (v := r_9) hx hb hr (fun t ht hW => ⟨⟨r_9, M, rfl, ⟨Option.some.inj h, rfl⟩, by rw [ht]; exact hP, x_KnW hKn t hW⟩, hS.F ht⟩) hS.2.2 dX7_told_135
  have h := ife_f c_8 h
  by_cases c_10 : a1 = 8
  · have h := ife_t c_10 h
    refine lv_tableIn (off := 135) (tgt := 136) hx hb dX7_told_1 (by rw [c_10]; decide) (by rw [c_10]; decide) (by rw [c_10]; rfl) (by decide) ?_
    refine lv_aload_n hx hb dX7_told_136 rfl (lv_at hl 0 rfl) ?_
    refine va_get (D := (dC, dI)) (ci := 7) (v := .ref (ad (17))) (C := RX7) (T := TX7) (N := 14) hx hb hg inX7 hown hKn.1 hP (0) (x_at7 (c := 0) (by decide)) rfl 3 (Nat.le_of_ble_eq_true rfl) (hg _ lkF_X7_29) (fun _ h9 => h9) rfl dX7_told_137 ?_
    refine va_getN (D := (dC, dI)) (ci := 3) (v := .int ((M 17 2))) (C := RX3) (T := TX3) (N := 6) hx hb hg inX3 hown hKn.1 hP (17) (x_at3 (c := 17) (by decide)) rfl 2 (Nat.le_of_ble_eq_true rfl) (nest_use hKn.2.2 nkF_X7_131) (fun _ h9 => h9) rfl dX7_told_140 ?_
    exact W.iret (v := (M 17 2)) hx hb hr (fun t ht hW => ⟨⟨(M 17 2), M, rfl, ⟨Option.some.inj h, rfl⟩, by rw [ht]; exact hP, x_KnW hKn t hW⟩, hS.F ht⟩) hS.2.2 dX7_told_143
  have h := ife_f c_10 h
  by_cases c_11 : a1 = 9
  · have h := ife_t c_11 h
    refine lv_tableIn (off := 143) (tgt := 144) hx hb dX7_told_1 (by rw [c_11]; decide) (by rw [c_11]; decide) (by rw [c_11]; rfl) (by decide) ?_
    refine lv_aload_n hx hb dX7_told_144 rfl (lv_at hl 0 rfl) ?_
    refine va_get (D := (dC, dI)) (ci := 7) (v := .ref (ad (17))) (C := RX7) (T := TX7) (N := 14) hx hb hg inX7 hown hKn.1 hP (0) (x_at7 (c := 0) (by decide)) rfl 3 (Nat.le_of_ble_eq_true rfl) (hg _ lkF_X7_29) (fun _ h9 => h9) rfl dX7_told_145 ?_
    refine va_getN (D := (dC, dI)) (ci := 3) (v := .int ((M 17 5))) (C := RX3) (T := TX3) (N := 6) hx hb hg inX3 hown hKn.1 hP (17) (x_at3 (c := 17) (by decide)) rfl 5 (Nat.le_of_ble_eq_true rfl) (nest_use hKn.2.2 nkF_X7_134) (fun _ h9 => h9) rfl dX7_told_148 ?_
    exact W.iret (v := (M 17 5)) hx hb hr (fun t ht hW => ⟨⟨(M 17 5), M, rfl, ⟨Option.some.inj h, rfl⟩, by rw [ht]; exact hP, x_KnW hKn t hW⟩, hS.F ht⟩) hS.2.2 dX7_told_151
  have h := ife_f c_11 h
  by_cases c_12 : a1 = 10
  · have h := ife_t c_12 h
    refine lv_tableIn (off := 151) (tgt := 152) hx hb dX7_told_1 (by rw [c_12]; decide) (by rw [c_12]; decide) (by rw [c_12]; rfl) (by decide) ?_
    refine lv_aload_n hx hb dX7_told_152 rfl (lv_at hl 0 rfl) ?_
    refine va_get (D := (dC, dI)) (ci := 7) (v := .ref (ad (33))) (C := RX7) (T := TX7) (N := 14) hx hb hg inX7 hown hKn.1 hP (0) (x_at7 (c := 0) (by decide)) rfl 12 (Nat.le_of_ble_eq_true rfl) (hg _ lkF_X7_76) (fun _ h9 => h9) rfl dX7_told_153 ?_
    refine va_getN (D := (dC, dI)) (ci := 0) (v := .int ((M 33 2))) (C := RX0) (T := TX0) (N := 3) hx hb hg inX0 hown hKn.1 hP (33) (x_at0 (c := 33) (by decide)) rfl 2 (Nat.le_of_ble_eq_true rfl) (nest_use hKn.2.2 nkF_X7_137) (fun _ h9 => h9) rfl dX7_told_156 ?_
    exact W.iret (v := (M 33 2)) hx hb hr (fun t ht hW => ⟨⟨(M 33 2), M, rfl, ⟨Option.some.inj h, rfl⟩, by rw [ht]; exact hP, x_KnW hKn t hW⟩, hS.F ht⟩) hS.2.2 dX7_told_159
  have h := ife_f c_12 h
  by_cases c_13 : a1 = 11
  · have h := ife_t c_13 h
    refine lv_tableIn (off := 159) (tgt := 160) hx hb dX7_told_1 (by rw [c_13]; decide) (by rw [c_13]; decide) (by rw [c_13]; rfl) (by decide) ?_
    refine lv_aload_n hx hb dX7_told_160 rfl (lv_at hl 0 rfl) ?_
    refine va_get (D := (dC, dI)) (ci := 7) (v := .ref (ad (36))) (C := RX7) (T := TX7) (N := 14) hx hb hg inX7 hown hKn.1 hP (0) (x_at7 (c := 0) (by decide)) rfl 13 (Nat.le_of_ble_eq_true rfl) (hg _ lkF_X7_80) (fun _ h9 => h9) rfl dX7_told_161 ?_
    refine va_getN (D := (dC, dI)) (ci := 0) (v := .int ((M 36 2))) (C := RX0) (T := TX0) (N := 3) hx hb hg inX0 hown hKn.1 hP (36) (x_at0 (c := 36) (by decide)) rfl 2 (Nat.le_of_ble_eq_true rfl) (nest_use hKn.2.2 nkF_X7_137) (fun _ h9 => h9) rfl dX7_told_164 ?_
    exact W.iret (v := (M 36 2)) hx hb hr (fun t ht hW => ⟨⟨(M 36 2), M, rfl, ⟨Option.some.inj h, rfl⟩, by rw [ht]; exact hP, x_KnW hKn t hW⟩, hS.F ht⟩) hS.2.2 dX7_told_167
  have h := ife_f c_13 h
  by_cases c_14 : a1 = 12
  · have h := ife_t c_14 h
    refine lv_tableIn (off := 167) (tgt := 168) hx hb dX7_told_1 (by rw [c_14]; decide) (by rw [c_14]; decide) (by rw [c_14]; rfl) (by decide) ?_
    refine lv_aload_n hx hb dX7_told_168 rfl (lv_at hl 0 rfl) ?_
    refine va_get (D := (dC, dI)) (ci := 7) (v := .ref (ad (27))) (C := RX7) (T := TX7) (N := 14) hx hb hg inX7 hown hKn.1 hP (0) (x_at7 (c := 0) (by decide)) rfl 7 (Nat.le_of_ble_eq_true rfl) (hg _ lkF_X7_49) (fun _ h9 => h9) rfl dX7_told_169 ?_
    refine va_getN (D := (dC, dI)) (ci := 4) (v := .int ((M 27 2))) (C := RX4) (T := TX4) (N := 3) hx hb hg inX4 hown hKn.1 hP (27) (x_at4 (c := 27) (by decide)) rfl 2 (Nat.le_of_ble_eq_true rfl) (nest_use hKn.2.2 nkF_X7_138) (fun _ h9 => h9) rfl dX7_told_172 ?_
    exact W.iret (v := (M 27 2)) hx hb hr (fun t ht hW => ⟨⟨(M 27 2), M, rfl, ⟨Option.some.inj h, rfl⟩, by rw [ht]; exact hP, x_KnW hKn t hW⟩, hS.F ht⟩) hS.2.2 dX7_told_175
  have h := ife_f c_14 h
  have n0_c_1 := lv_neT (a := 0) c_1 (by decide)
  have n1_c_2 := lv_neT (a := 1) c_2 (by decide)
  have n2_c_3 := lv_neT (a := 2) c_3 (by decide)
  have n3_c_4 := lv_neT (a := 3) c_4 (by decide)
  have n4_c_5 := lv_neT (a := 4) c_5 (by decide)
  have n5_c_6 := lv_neT (a := 5) c_6 (by decide)
  have n6_c_7 := lv_neT (a := 6) c_7 (by decide)
  have n7_c_8 := lv_neT (a := 7) c_8 (by decide)
  have n8_c_10 := lv_neT (a := 8) c_10 (by decide)
  have n9_c_11 := lv_neT (a := 9) c_11 (by decide)
  have n10_c_12 := lv_neT (a := 10) c_12 (by decide)
  have n11_c_13 := lv_neT (a := 11) c_13 (by decide)
  have n12_c_14 := lv_neT (a := 12) c_14 (by decide)
  refine lv_tableOut (tgt := 176) hx hb dX7_told_1 (by omega) (by decide) ?_
  refine lv_ldc hx hb hown (hg _ kc_X7_83) dX7_told_176 ?_
  exact W.iret (v := (-1000000002)) hx hb hr (fun t ht hW => ⟨⟨(-1000000002), M, rfl, ⟨Option.some.inj h, rfl⟩, by rw [ht]; exact hP, x_KnW hKn t hW⟩, hS.F ht⟩) hS.2.2 dX7_told_178
noncomputable def FX7_undo  (M : (Nat → Nat → Int32)) : Option (Int32 × (Nat → Nat → Int32)) :=
  bd (FX4_pop 17 M) (fun (r_1 : Int32) (M_2 : (Nat → Nat → Int32)) => (if r_1 = 0 then some ((-1000000003), M_2) else some ((M_2 27 2), M_2)))
set_option maxHeartbeats 4000000 in
set_option maxRecDepth 100000 in
theorem tX7_undo (l : Launch) (dC : Nat → ClassId) (dI : Nat → Nat → Nat) (kI : ClassId) (ad : Nat → Nat)  (M : (Nat → Nat → Int32))  {r0 : Int32} {M0 : (Nat → Nat → Int32)} (h : FX7_undo  M = some (r0, M0)) : Met l yX7_undo (wsA yX7_undo cX7_undo 1 (some .int)) ({ frames := 3, cells := 0, slots := 0, locals := 67 } : Room) (va_Pc [.ref (ad (0))] (gI (x_Wd dC dI kI ad) (x_Kn dC dI kI ad) M)) (va_Qi (fun (r : Int32) (u : (Nat → Nat → Int32)) => r = r0 ∧ u = M0) (gI (x_Wd dC dI kI ad) (x_Kn dC dI kI ad)) (x_A ad)) 0 0 (x_A ad) := by
  refine Met.ofW (cc := cX7_undo) (maxL := 1) (ret := (some .int)) (by decide) rfl ?_
  intro p e s m args below meth c s₁ B hml hv
  obtain ⟨rfl, hP, hKn⟩ := hv
  have hx := B.exec
  have hb := B.bytes
  have hr := B.returns
  have hts := atoms_spec (ws := wsA yX7_undo cX7_undo 1 (some .int)) B.pre
  have hg : ∀ w ∈ lw_good, w.before _ s = true := fun w h => hts w (List.mem_cons_of_mem _ h)
  have hown : s.vm.findClass RX7 = some m.cls := findClass_of_methodNamed B.named
  have hlocks := B.notSynchronized
  have hS : va_S (x_A ad) s.heap s.heap [] := va_S.rf
  have hFx : gFix p c cX7_undo 1 s m _ RX7 := ⟨hx, hb, hml, hown, hg⟩
  have hP : va_P (dC, dI) vwCl (x_w kI ad M) s.heap := hP
  have hl := lv_entry ([.ref (ad (0))]) (n := 1) (Nat.le_of_ble_eq_true rfl)
  rw [lg_entry_eq]
  generalize (lg_sl ([.ref (ad (0))]) ++ List.replicate (1 - (lg_sl ([.ref (ad (0))])).length) Slot.unset).toArray = ls at hl ⊢
  have hl : lv_has ls 1 [(0, .ref (ad (0)))] := hl
  unfold FX7_undo at h
  refine lv_aload_n hx hb dX7_undo_0 rfl (lv_at hl 0 rfl) ?_
  refine va_get (D := (dC, dI)) (ci := 7) (v := .ref (ad (27))) (C := RX7) (T := TX7) (N := 14) hx hb hg inX7 hown hKn.1 hP (0) (x_at7 (c := 0) (by decide)) rfl 7 (Nat.le_of_ble_eq_true rfl) (hg _ lkF_X7_49) (fun _ h9 => h9) rfl dX7_undo_1 ?_
  refine lv_aload_n hx hb dX7_undo_4 rfl (lv_at hl 0 rfl) ?_
  refine va_get (D := (dC, dI)) (ci := 7) (v := .ref (ad (17))) (C := RX7) (T := TX7) (N := 14) hx hb hg inX7 hown hKn.1 hP (0) (x_at7 (c := 0) (by decide)) rfl 3 (Nat.le_of_ble_eq_true rfl) (hg _ lkF_X7_29) (fun _ h9 => h9) rfl dX7_undo_5 ?_
  obtain ⟨r_1, M_2, e8, h⟩ := bd_use h
  refine gc_i (va_runVN (As := [.ref (ad (17))]) (rest := []) hFx (tX4_pop l dC dI kI ad 17 M (by decide) e8) ⟨(gc_N hFx hKn.2.2 ck_yX4_pop nkM_X7_206 ⟨Nat.le_of_ble_eq_true rfl, Nat.le_of_ble_eq_true rfl⟩ rfl rfl), hg _ vi_yX4_pop, hg _ vs_yX4_pop⟩ (gp_V x_KnB (x_KnW hKn) hP (x_rc4 (c := 27) (by decide) hKn hP)) rfl rfl hl.1 rfl (lv_room (Nat.le_of_ble_eq_true rfl)) dX7_undo_8 ⟨Nat.zero_le _, Nat.zero_le _⟩) hS (fun H locs hP hS => ?_)
  have hP : va_P (dC, dI) vwCl (x_w kI ad M_2) H := hP
  refine lv_if_eq (tgt := 24) hx hb dX7_undo_11 (by decide) (fun c_3 => ?_) (fun c_3 => ?_)
  · have h := ife_t c_3 h
    refine lv_ldc hx hb hown (hg _ kc_X7_181) dX7_undo_24 ?_
    exact W.iret (v := (-1000000003)) hx hb hr (fun t ht hW => ⟨⟨(-1000000003), M_2, rfl, Prod.mk.inj (Option.some.inj h), by rw [ht]; exact hP, x_KnW hKn t hW⟩, hS.F ht⟩) hS.2.2 dX7_undo_26
  · have h := ife_f c_3 h
    refine lv_aload_n hx hb dX7_undo_14 rfl (lv_at hl 0 rfl) ?_
    refine va_get (D := (dC, dI)) (ci := 7) (v := .ref (ad (27))) (C := RX7) (T := TX7) (N := 14) hx hb hg inX7 hown hKn.1 hP (0) (x_at7 (c := 0) (by decide)) rfl 7 (Nat.le_of_ble_eq_true rfl) (hg _ lkF_X7_49) (fun _ h9 => h9) rfl dX7_undo_15 ?_
    refine va_getN (D := (dC, dI)) (ci := 4) (v := .int ((M_2 27 2))) (C := RX4) (T := TX4) (N := 3) hx hb hg inX4 hown hKn.1 hP (27) (x_at4 (c := 27) (by decide)) rfl 2 (Nat.le_of_ble_eq_true rfl) (nest_use hKn.2.2 nkF_X7_138) (fun _ h9 => h9) rfl dX7_undo_18 ?_
    refine lv_goto (tgt := 26) hx hb dX7_undo_21 (by decide) ?_
    exact W.iret (v := (M_2 27 2)) hx hb hr (fun t ht hW => ⟨⟨(M_2 27 2), M_2, rfl, Prod.mk.inj (Option.some.inj h), by rw [ht]; exact hP, x_KnW hKn t hW⟩, hS.F ht⟩) hS.2.2 dX7_undo_26
noncomputable def FX7_worn_L4 (M : (Nat → Nat → Int32)) (K : Int32 → Option Int32) (k : Nat) (v1_2 : Int32) (v2_3 : Int32) : Option Int32 := match k with
  | 0 => none
  | k + 1 => (if (M 3 2) ≤ v2_3 then K v1_2 else bo (FX7_at 6 v2_3 M) (fun (r_5 : Int32) => bo (FX7_at 19 v2_3 M) (fun (r_6 : Int32) => bo (FX7_wornMove r_5 r_6) (fun (r_7 : Int32) => jn (fun (j1_8 : Int32) => FX7_worn_L4 M K k j1_8 (v2_3 + 1)) (fun J49 => (if r_7 = 0 then J49 (v1_2 ||| (1 <<< (v2_3 &&& 31))) else J49 v1_2))))))
noncomputable def FX7_worn  (M : (Nat → Nat → Int32)) : Option Int32 :=
  FX7_worn_L4 M (fun (k1_1 : Int32) => some k1_1) fuelN 0 0
set_option maxHeartbeats 4000000 in
set_option maxRecDepth 100000 in
theorem tX7_worn (l : Launch) (dC : Nat → ClassId) (dI : Nat → Nat → Nat) (kI : ClassId) (ad : Nat → Nat)  (M : (Nat → Nat → Int32))  {r0 : Int32} (h : FX7_worn  M = some r0) : Met l yX7_worn (wsA yX7_worn cX7_worn 3 (some .int)) ({ frames := 1, cells := 0, slots := 0, locals := 22 } : Room) (va_Pc [.ref (ad (0))] (gI (x_Wd dC dI kI ad) (x_Kn dC dI kI ad) M)) (va_Qi (fun (r : Int32) (u : (Nat → Nat → Int32)) => r = r0 ∧ u = M) (gI (x_Wd dC dI kI ad) (x_Kn dC dI kI ad)) (x_A ad)) 0 0 (x_A ad) := by
  refine Met.ofW (cc := cX7_worn) (maxL := 3) (ret := (some .int)) (by decide) rfl ?_
  intro p e s m args below meth c s₁ B hml hv
  obtain ⟨rfl, hP, hKn⟩ := hv
  have hx := B.exec
  have hb := B.bytes
  have hr := B.returns
  have hts := atoms_spec (ws := wsA yX7_worn cX7_worn 3 (some .int)) B.pre
  have hg : ∀ w ∈ lw_good, w.before _ s = true := fun w h => hts w (List.mem_cons_of_mem _ h)
  have hown : s.vm.findClass RX7 = some m.cls := findClass_of_methodNamed B.named
  have hlocks := B.notSynchronized
  have hS : va_S (x_A ad) s.heap s.heap [] := va_S.rf
  have hFx : gFix p c cX7_worn 3 s m _ RX7 := ⟨hx, hb, hml, hown, hg⟩
  have hP : va_P (dC, dI) vwCl (x_w kI ad M) s.heap := hP
  have hl := lv_entry ([.ref (ad (0))]) (n := 3) (Nat.le_of_ble_eq_true rfl)
  rw [lg_entry_eq]
  generalize (lg_sl ([.ref (ad (0))]) ++ List.replicate (3 - (lg_sl ([.ref (ad (0))])).length) Slot.unset).toArray = ls at hl ⊢
  have hl : lv_has ls 3 [(0, .ref (ad (0)))] := hl
  unfold FX7_worn at h
  refine lv_iconst (v := 0) hx hb dX7_worn_0 (by decide) ?_
  refine lv_istore_n (lv' := [(1, .int (0)), (0, .ref (ad (0)))]) hx hb dX7_worn_1 rfl hl (Nat.le_of_ble_eq_true rfl) rfl (fun ls hl => ?_)
  refine lv_iconst (v := 0) hx hb dX7_worn_2 (by decide) ?_
  refine lv_istore_n (lv' := [(2, .int (0)), (1, .int (0)), (0, .ref (ad (0)))]) hx hb dX7_worn_3 rfl hl (Nat.le_of_ble_eq_true rfl) rfl (fun ls hl => ?_)
  obtain ⟨K4, eK4, h⟩ := exK (Lp := fun K => FX7_worn_L4 M K fuelN 0 0) h
  have hK4 : ∀ (k1_1 : Int32) (H : Heap) (locs : List Loc) (ls : Array Slot), va_P (dC, dI) vwCl (x_w kI ad M) H → va_S (x_A ad) s.heap H locs → lv_has ls 3 [(1, .int (k1_1))] → K4 k1_1 = some r0 → W p l e (headSpec (wsA yX7_worn cX7_worn 3 (some .int)) ({ frames := 1, cells := 0, slots := 0, locals := 22 } : Room)).room s m (([.ref (ad (0))] : List Value).toArray) below meth c H locs 0 0 (MQ below (va_Qi (fun (r : Int32) (u : (Nat → Nat → Int32)) => r = r0 ∧ u = M) (gI (x_Wd dC dI kI ad) (x_Kn dC dI kI ad)) (x_A ad)) (([.ref (ad (0))] : List Value).toArray) s 0 0 (x_A ad)) (F0 m 55 ls []) := by
    intro k1_1 H locs ls hP hS hl h
    have h := useK1 eK4 h
    refine lv_iload_n hx hb dX7_worn_55 rfl (lv_at hl 0 rfl) ?_
    exact W.iret (v := k1_1) hx hb hr (fun t ht hW => ⟨⟨k1_1, M, rfl, ⟨Option.some.inj h, rfl⟩, by rw [ht]; exact hP, x_KnW hKn t hW⟩, hS.F ht⟩) hS.2.2 dX7_worn_56
  have hL4 : ∀ (k : Nat) (v1_2 : Int32) (v2_3 : Int32) (H : Heap) (locs : List Loc) (ls : Array Slot), va_P (dC, dI) vwCl (x_w kI ad M) H → va_S (x_A ad) s.heap H locs → lv_has ls 3 [(0, .ref (ad (0))), (1, .int (v1_2)), (2, .int (v2_3))] → FX7_worn_L4 M K4 k v1_2 v2_3 = some r0 → W p l e (headSpec (wsA yX7_worn cX7_worn 3 (some .int)) ({ frames := 1, cells := 0, slots := 0, locals := 22 } : Room)).room s m (([.ref (ad (0))] : List Value).toArray) below meth c H locs 0 0 (MQ below (va_Qi (fun (r : Int32) (u : (Nat → Nat → Int32)) => r = r0 ∧ u = M) (gI (x_Wd dC dI kI ad) (x_Kn dC dI kI ad)) (x_A ad)) (([.ref (ad (0))] : List Value).toArray) s 0 0 (x_A ad)) (F0 m 4 ls []) := by
    intro k
    induction k with
    | zero => intro v1_2 v2_3 H locs ls hP hS hl h; cases h
    | succ k ih4 =>
      intro v1_2 v2_3 H locs ls hP hS hl h
      unfold FX7_worn_L4 at h
      refine lv_iload_n hx hb dX7_worn_4 rfl (lv_at hl 2 rfl) ?_
      refine lv_aload_n hx hb dX7_worn_5 rfl (lv_at hl 0 rfl) ?_
      refine va_get (D := (dC, dI)) (ci := 7) (v := .ref (ad (3))) (C := RX7) (T := TX7) (N := 14) hx hb hg inX7 hown hKn.1 hP (0) (x_at7 (c := 0) (by decide)) rfl 1 (Nat.le_of_ble_eq_true rfl) (hg _ lkF_X7_19) (fun _ h9 => h9) rfl dX7_worn_6 ?_
      refine va_getN (D := (dC, dI)) (ci := 1) (v := .int ((M 3 2))) (C := RX1) (T := TX1) (N := 10) hx hb hg inX1 hown hKn.1 hP (3) (x_at1 (c := 3) (by decide)) rfl 2 (Nat.le_of_ble_eq_true rfl) (nest_use hKn.2.2 nkF_X7_107) (fun _ h9 => h9) rfl dX7_worn_9 ?_
      refine lv_icmp_ge (tgt := 55) hx hb dX7_worn_12 (by decide) (fun c_4 => ?_) (fun c_4 => ?_)
      · have h := ife_t c_4 h
        exact hK4 v1_2 _ _ _ hP hS (lv_sub hl [1] rfl) h
      · have h := ife_f c_4 h
        refine lv_aload_n hx hb dX7_worn_15 rfl (lv_at hl 0 rfl) ?_
        refine va_get (D := (dC, dI)) (ci := 7) (v := .ref (ad (3))) (C := RX7) (T := TX7) (N := 14) hx hb hg inX7 hown hKn.1 hP (0) (x_at7 (c := 0) (by decide)) rfl 1 (Nat.le_of_ble_eq_true rfl) (hg _ lkF_X7_19) (fun _ h9 => h9) rfl dX7_worn_16 ?_
        refine va_getN (D := (dC, dI)) (ci := 1) (v := .ref (ad (6))) (C := RX1) (T := TX1) (N := 10) hx hb hg inX1 hown hKn.1 hP (3) (x_at1 (c := 3) (by decide)) rfl 6 (Nat.le_of_ble_eq_true rfl) (nest_use hKn.2.2 nkF_X7_156) (fun _ h9 => h9) rfl dX7_worn_19 ?_
        refine lv_iload_n hx hb dX7_worn_22 rfl (lv_at hl 2 rfl) ?_
        obtain ⟨r_5, e23, h⟩ := bo_use h
        refine gc_i (va_runS (As := [.ref (ad (6)), .int (v2_3)]) (rest := []) hFx (tX7_at l dC dI kI ad 6 v2_3 M (by decide) e23) ⟨(gc_B hFx ck_yX7_at lkM_X7_145 ⟨Nat.le_of_ble_eq_true rfl, Nat.le_of_ble_eq_true rfl⟩ rfl rfl), hg _ st_yX7_at⟩ (gp_S x_KnB (x_KnW hKn) hP) rfl rfl hl.1 rfl (lv_room (Nat.le_of_ble_eq_true rfl)) dX7_worn_23 ⟨Nat.zero_le _, Nat.zero_le _⟩) hS (fun H locs hP hS => ?_)
        have hP : va_P (dC, dI) vwCl (x_w kI ad M) H := hP
        refine lv_aload_n hx hb dX7_worn_26 rfl (lv_at hl 0 rfl) ?_
        refine va_get (D := (dC, dI)) (ci := 7) (v := .ref (ad (17))) (C := RX7) (T := TX7) (N := 14) hx hb hg inX7 hown hKn.1 hP (0) (x_at7 (c := 0) (by decide)) rfl 3 (Nat.le_of_ble_eq_true rfl) (hg _ lkF_X7_29) (fun _ h9 => h9) rfl dX7_worn_27 ?_
        refine va_getN (D := (dC, dI)) (ci := 3) (v := .ref (ad (19))) (C := RX3) (T := TX3) (N := 6) hx hb hg inX3 hown hKn.1 hP (17) (x_at3 (c := 17) (by decide)) rfl 1 (Nat.le_of_ble_eq_true rfl) (nest_use hKn.2.2 nkF_X7_172) (fun _ h9 => h9) rfl dX7_worn_30 ?_
        refine lv_iload_n hx hb dX7_worn_33 rfl (lv_at hl 2 rfl) ?_
        obtain ⟨r_6, e34, h⟩ := bo_use h
        refine gc_i (va_runS (As := [.ref (ad (19)), .int (v2_3)]) (rest := [.int (r_5)]) hFx (tX7_at l dC dI kI ad 19 v2_3 M (by decide) e34) ⟨(gc_B hFx ck_yX7_at lkM_X7_145 ⟨Nat.le_of_ble_eq_true rfl, Nat.le_of_ble_eq_true rfl⟩ rfl rfl), hg _ st_yX7_at⟩ (gp_S x_KnB (x_KnW hKn) hP) rfl rfl hl.1 rfl (lv_room (Nat.le_of_ble_eq_true rfl)) dX7_worn_34 ⟨Nat.zero_le _, Nat.zero_le _⟩) hS (fun H locs hP hS => ?_)
        have hP : va_P (dC, dI) vwCl (x_w kI ad M) H := hP
        obtain ⟨r_7, e37, h⟩ := bo_use h
        refine gc_i (va_runS (As := [.int (r_5), .int (r_6)]) (rest := []) hFx (tX7_wornMove l dC dI kI ad r_5 r_6 M  e37) ⟨(gc_B hFx ck_yX7_wornMove lkM_X7_246 ⟨Nat.le_of_ble_eq_true rfl, Nat.le_of_ble_eq_true rfl⟩ rfl rfl), hg _ st_yX7_wornMove⟩ (gp_S x_KnB (x_KnW hKn) hP) rfl rfl hl.1 rfl (lv_room (Nat.le_of_ble_eq_true rfl)) dX7_worn_37 ⟨Nat.zero_le _, Nat.zero_le _⟩) hS (fun H locs hP hS => ?_)
        have hP : va_P (dC, dI) vwCl (x_w kI ad M) H := hP
        obtain ⟨J49, eJ49, h⟩ := jn_use h
        have hJ49 : ∀ (j1_8 : Int32) (H : Heap) (locs : List Loc) (ls : Array Slot), va_P (dC, dI) vwCl (x_w kI ad M) H → va_S (x_A ad) s.heap H locs → lv_has ls 3 [(0, .ref (ad (0))), (2, .int (v2_3)), (1, .int (j1_8))] → J49 j1_8 = some r0 → W p l e (headSpec (wsA yX7_worn cX7_worn 3 (some .int)) ({ frames := 1, cells := 0, slots := 0, locals := 22 } : Room)).room s m (([.ref (ad (0))] : List Value).toArray) below meth c H locs 0 0 (MQ below (va_Qi (fun (r : Int32) (u : (Nat → Nat → Int32)) => r = r0 ∧ u = M) (gI (x_Wd dC dI kI ad) (x_Kn dC dI kI ad)) (x_A ad)) (([.ref (ad (0))] : List Value).toArray) s 0 0 (x_A ad)) (F0 m 49 ls []) := by
          intro j1_8 H locs ls hP hS hl h
          have h := useK1 eJ49 h
          refine lv_iinc (v := (v2_3 + 1)) (lv' := [(2, .int ((v2_3 + 1))), (0, .ref (ad (0))), (1, .int (j1_8))]) hx hb dX7_worn_49 hl (k := 1) rfl rfl (Nat.le_of_ble_eq_true rfl) rfl (fun ls hl => ?_)
          refine lv_goto (tgt := 4) hx hb dX7_worn_52 (by decide) ?_
          exact ih4 j1_8 (v2_3 + 1) _ _ _ hP hS (lv_sub hl [1, 2, 0] rfl) h
        refine lv_if_ne (tgt := 49) hx hb dX7_worn_40 (by decide) (fun c_9 => ?_) (fun c_9 => ?_)
        · have h := ife_f c_9 h
          exact hJ49 v1_2 _ _ _ hP hS (lv_sub hl [0, 2, 1] rfl) h
        · have h := ife_t c_9 h
          refine lv_iload_n hx hb dX7_worn_43 rfl (lv_at hl 1 rfl) ?_
          refine lv_iconst (v := 1) hx hb dX7_worn_44 (by decide) ?_
          refine lv_iload_n hx hb dX7_worn_45 rfl (lv_at hl 2 rfl) ?_
          refine lv_ishl hx hb dX7_worn_46 ?_
          refine lv_ior hx hb dX7_worn_47 ?_
          refine lv_istore_n (lv' := [(1, .int ((v1_2 ||| (1 <<< (v2_3 &&& 31))))), (0, .ref (ad (0))), (2, .int (v2_3))]) hx hb dX7_worn_48 rfl hl (Nat.le_of_ble_eq_true rfl) rfl (fun ls hl => ?_)
          exact hJ49 (v1_2 ||| (1 <<< (v2_3 &&& 31))) _ _ _ hP hS (lv_sub hl [1, 2, 0] rfl) h
  exact hL4 fuelN 0 0 _ _ _ hP hS (lv_sub hl [2, 1, 0] rfl) h
noncomputable def FX7_write (a1 : Int32) (a2 : Int32) (M : (Nat → Nat → Int32)) : Option (Int32 × (Nat → Nat → Int32)) :=
  bd (FX7_noteIn 36 a1 a2 M) (fun (r_1 : Int32) (M_2 : (Nat → Nat → Int32)) => some (r_1, M_2))
set_option maxHeartbeats 4000000 in
set_option maxRecDepth 100000 in
theorem tX7_write (l : Launch) (dC : Nat → ClassId) (dI : Nat → Nat → Nat) (kI : ClassId) (ad : Nat → Nat) (a1 : Int32) (a2 : Int32) (M : (Nat → Nat → Int32))  {r0 : Int32} {M0 : (Nat → Nat → Int32)} (h : FX7_write a1 a2 M = some (r0, M0)) : Met l yX7_write (wsA yX7_write cX7_write 3 (some .int)) ({ frames := 3, cells := 0, slots := 0, locals := 67 } : Room) (va_Pc [.ref (ad (0)), .int (a1), .int (a2)] (gI (x_Wd dC dI kI ad) (x_Kn dC dI kI ad) M)) (va_Qi (fun (r : Int32) (u : (Nat → Nat → Int32)) => r = r0 ∧ u = M0) (gI (x_Wd dC dI kI ad) (x_Kn dC dI kI ad)) (x_A ad)) 0 0 (x_A ad) := by
  refine Met.ofW (cc := cX7_write) (maxL := 3) (ret := (some .int)) (by decide) rfl ?_
  intro p e s m args below meth c s₁ B hml hv
  obtain ⟨rfl, hP, hKn⟩ := hv
  have hx := B.exec
  have hb := B.bytes
  have hr := B.returns
  have hts := atoms_spec (ws := wsA yX7_write cX7_write 3 (some .int)) B.pre
  have hg : ∀ w ∈ lw_good, w.before _ s = true := fun w h => hts w (List.mem_cons_of_mem _ h)
  have hown : s.vm.findClass RX7 = some m.cls := findClass_of_methodNamed B.named
  have hlocks := B.notSynchronized
  have hS : va_S (x_A ad) s.heap s.heap [] := va_S.rf
  have hFx : gFix p c cX7_write 3 s m _ RX7 := ⟨hx, hb, hml, hown, hg⟩
  have hP : va_P (dC, dI) vwCl (x_w kI ad M) s.heap := hP
  have hl := lv_entry ([.ref (ad (0)), .int (a1), .int (a2)]) (n := 3) (Nat.le_of_ble_eq_true rfl)
  rw [lg_entry_eq]
  generalize (lg_sl ([.ref (ad (0)), .int (a1), .int (a2)]) ++ List.replicate (3 - (lg_sl ([.ref (ad (0)), .int (a1), .int (a2)])).length) Slot.unset).toArray = ls at hl ⊢
  have hl : lv_has ls 3 [(0, .ref (ad (0))), (1, .int (a1)), (2, .int (a2))] := hl
  unfold FX7_write at h
  refine lv_aload_n hx hb dX7_write_0 rfl (lv_at hl 0 rfl) ?_
  refine lv_aload_n hx hb dX7_write_1 rfl (lv_at hl 0 rfl) ?_
  refine va_get (D := (dC, dI)) (ci := 7) (v := .ref (ad (36))) (C := RX7) (T := TX7) (N := 14) hx hb hg inX7 hown hKn.1 hP (0) (x_at7 (c := 0) (by decide)) rfl 13 (Nat.le_of_ble_eq_true rfl) (hg _ lkF_X7_80) (fun _ h9 => h9) rfl dX7_write_2 ?_
  refine lv_iload_n hx hb dX7_write_5 rfl (lv_at hl 1 rfl) ?_
  refine lv_iload_n hx hb dX7_write_6 rfl (lv_at hl 2 rfl) ?_
  obtain ⟨r_1, M_2, e7, h⟩ := bd_use h
  refine gc_i (va_runV (As := [.ref (ad (36)), .int (a1), .int (a2)]) (rest := []) hFx (tX7_noteIn l dC dI kI ad 36 a1 a2 M (by decide) e7) ⟨(gc_B hFx ck_yX7_noteIn lkM_X7_249 ⟨Nat.le_of_ble_eq_true rfl, Nat.le_of_ble_eq_true rfl⟩ rfl rfl), hg _ vi_yX7_noteIn, hg _ vs_yX7_noteIn⟩ (gp_V x_KnB (x_KnW hKn) hP (x_rc7 (c := 0) (by decide) hKn hP)) rfl rfl hl.1 rfl (lv_room (Nat.le_of_ble_eq_true rfl)) dX7_write_7 ⟨Nat.zero_le _, Nat.zero_le _⟩) hS (fun H locs hP hS => ?_)
  have hP : va_P (dC, dI) vwCl (x_w kI ad M_2) H := hP
  exact W.iret (v := r_1) hx hb hr (fun t ht hW => ⟨⟨r_1, M_2, rfl, Prod.mk.inj (Option.some.inj h), by rw [ht]; exact hP, x_KnW hKn t hW⟩, hS.F ht⟩) hS.2.2 dX7_write_10
