noncomputable def FX8_in (a0 : Int64) (a2 : Int64) (a4 : Int64) : Option Int32 :=
  (if (lg_cmp a0 a2) < 0 then some 0 else (if 0 < (lg_cmp a0 a4) then some 0 else some 1))
set_option maxHeartbeats 4000000 in
set_option maxRecDepth 100000 in
theorem tX8_in (l : Launch) (dC : Nat → ClassId) (dI : Nat → Nat → Nat) (kI kZ : ClassId) (ad : Nat → Nat) (a0 : Int64) (a2 : Int64) (a4 : Int64) (M : MM)  {r0 : Int32} (h : FX8_in a0 a2 a4 = some r0) : Met l yX8_in (wsA yX8_in cX8_in 6 (some .boolean)) ({ frames := 0, cells := 0, slots := 0, locals := 0 } : Room) (va_Pc [.long (a0), .long (a2), .long (a4)] (gI (m_Wd dC dI kI kZ ad) (m_Kn dC dI kI kZ ad) M)) (va_Qi (fun (r : Int32) (u : MM) => r = r0 ∧ u = M) (gI (m_Wd dC dI kI kZ ad) (m_Kn dC dI kI kZ ad)) (m_A ad)) 0 0 (m_A ad) := by
  refine Met.ofW (cc := cX8_in) (maxL := 6) (ret := (some .boolean)) (by decide) rfl ?_
  intro p e s m args below meth c s₁ B hml hv
  obtain ⟨rfl, hP, hKn⟩ := hv
  have hx := B.exec
  have hb := B.bytes
  have hr := B.returns
  have hts := atoms_spec (ws := wsA yX8_in cX8_in 6 (some .boolean)) B.pre
  have hg : ∀ w ∈ lw_good, w.before _ s = true := fun w h => hts w (List.mem_cons_of_mem _ h)
  have hown : s.vm.findClass RX8 = some m.cls := findClass_of_methodNamed B.named
  have hlocks := B.notSynchronized
  have hS : va_S (m_A ad) s.heap s.heap [] := va_S.rf
  have hFx : gFix p c cX8_in 6 s m _ RX8 := ⟨hx, hb, hml, hown, hg⟩
  have hP : va_P (dC, dI) vwCl (m_w kI kZ ad M.1 M.2) s.heap := hP
  have hl := lv_entry ([.long (a0), .long (a2), .long (a4)]) (n := 6) (Nat.le_of_ble_eq_true rfl)
  rw [lg_entry_eq]
  generalize (lg_sl ([.long (a0), .long (a2), .long (a4)]) ++ List.replicate (6 - (lg_sl ([.long (a0), .long (a2), .long (a4)])).length) Slot.unset).toArray = ls at hl ⊢
  have hl : lv_has ls 6 [(0, .long (a0)), (2, .long (a2)), (4, .long (a4))] := hl
  unfold FX8_in at h
  refine lv_lload_n hx hb dX8_in_0 rfl (lv_at hl 0 rfl) ?_
  refine lv_lload_n hx hb dX8_in_1 rfl (lv_at hl 1 rfl) ?_
  refine W.lcmp hx hb dX8_in_2 ?_
  refine lv_if_lt (tgt := 17) hx hb dX8_in_3 (by decide) (fun c_1 => ?_) (fun c_1 => ?_)
  · have h := ife_t c_1 h
    refine lv_iconst (v := 0) hx hb dX8_in_17 (by decide) ?_
    exact W.zret (v := 0) hx hb hr rfl (fun t ht hW => ⟨⟨0, M, rfl, ⟨Option.some.inj h, rfl⟩, by rw [ht]; exact hP, m_KnW hKn t hW⟩, hS.F ht⟩) hS.2.2 dX8_in_18
  · have h := ife_f c_1 h
    refine lv_lload_n hx hb dX8_in_6 rfl (lv_at hl 0 rfl) ?_
    refine lv_lload hx hb dX8_in_7 (lv_at hl 2 rfl) ?_
    refine W.lcmp hx hb dX8_in_9 ?_
    refine lv_if_gt (tgt := 17) hx hb dX8_in_10 (by decide) (fun c_2 => ?_) (fun c_2 => ?_)
    · have h := ife_t c_2 h
      refine lv_iconst (v := 0) hx hb dX8_in_17 (by decide) ?_
      exact W.zret (v := 0) hx hb hr rfl (fun t ht hW => ⟨⟨0, M, rfl, ⟨Option.some.inj h, rfl⟩, by rw [ht]; exact hP, m_KnW hKn t hW⟩, hS.F ht⟩) hS.2.2 dX8_in_18
    · have h := ife_f c_2 h
      refine lv_iconst (v := 1) hx hb dX8_in_13 (by decide) ?_
      refine lv_goto (tgt := 18) hx hb dX8_in_14 (by decide) ?_
      exact W.zret (v := 1) hx hb hr rfl (fun t ht hW => ⟨⟨1, M, rfl, ⟨Option.some.inj h, rfl⟩, by rw [ht]; exact hP, m_KnW hKn t hW⟩, hS.F ht⟩) hS.2.2 dX8_in_18
noncomputable def FX8_areFacts (a1 : Int32) (M : MM) : Option Int32 :=
  bo (FX8_in ((a1).toInt64) 0 ((((1 <<< ((M.1 1 2) &&& 31)) - 1)).toInt64)) (fun (r_1 : Int32) => if bo01 r_1 then some r_1 else none)
set_option maxHeartbeats 4000000 in
set_option maxRecDepth 100000 in
theorem tX8_areFacts (l : Launch) (dC : Nat → ClassId) (dI : Nat → Nat → Nat) (kI kZ : ClassId) (ad : Nat → Nat) (a1 : Int32) (M : MM)  {r0 : Int32} (h : FX8_areFacts a1 M = some r0) : Met l yX8_areFacts (wsA yX8_areFacts cX8_areFacts 2 (some .boolean)) ({ frames := 1, cells := 0, slots := 0, locals := 25 } : Room) (va_Pc [.ref (ad (0)), .int (a1)] (gI (m_Wd dC dI kI kZ ad) (m_Kn dC dI kI kZ ad) M)) (va_Qi (fun (r : Int32) (u : MM) => r = r0 ∧ u = M) (gI (m_Wd dC dI kI kZ ad) (m_Kn dC dI kI kZ ad)) (m_A ad)) 0 0 (m_A ad) := by
  refine Met.ofW (cc := cX8_areFacts) (maxL := 2) (ret := (some .boolean)) (by decide) rfl ?_
  intro p e s m args below meth c s₁ B hml hv
  obtain ⟨rfl, hP, hKn⟩ := hv
  have hx := B.exec
  have hb := B.bytes
  have hr := B.returns
  have hts := atoms_spec (ws := wsA yX8_areFacts cX8_areFacts 2 (some .boolean)) B.pre
  have hg : ∀ w ∈ lw_good, w.before _ s = true := fun w h => hts w (List.mem_cons_of_mem _ h)
  have hown : s.vm.findClass RX8 = some m.cls := findClass_of_methodNamed B.named
  have hlocks := B.notSynchronized
  have hS : va_S (m_A ad) s.heap s.heap [] := va_S.rf
  have hFx : gFix p c cX8_areFacts 2 s m _ RX8 := ⟨hx, hb, hml, hown, hg⟩
  have hP : va_P (dC, dI) vwCl (m_w kI kZ ad M.1 M.2) s.heap := hP
  have hl := lv_entry ([.ref (ad (0)), .int (a1)]) (n := 2) (Nat.le_of_ble_eq_true rfl)
  rw [lg_entry_eq]
  generalize (lg_sl ([.ref (ad (0)), .int (a1)]) ++ List.replicate (2 - (lg_sl ([.ref (ad (0)), .int (a1)])).length) Slot.unset).toArray = ls at hl ⊢
  have hl : lv_has ls 2 [(0, .ref (ad (0))), (1, .int (a1))] := hl
  unfold FX8_areFacts at h
  refine lv_iload_n hx hb dX8_areFacts_0 rfl (lv_at hl 1 rfl) ?_
  refine lv_i2l (v := ((a1).toInt64)) hx hb dX8_areFacts_1 rfl ?_
  refine lv_lconst (v := 0) hx hb dX8_areFacts_2 (by decide) ?_
  refine lv_iconst (v := 1) hx hb dX8_areFacts_3 (by decide) ?_
  refine lv_aload_n hx hb dX8_areFacts_4 rfl (lv_at hl 0 rfl) ?_
  refine va_get (D := (dC, dI)) (ci := 8) (v := .ref (ad (1))) (C := RX8) (T := TX8) (N := 29) hx hb hg inX8 hown hKn.1 hP (0) (m_at8 (c := 0) (by decide)) rfl 0 (Nat.le_of_ble_eq_true rfl) (hg _ lkF_X8_7) (fun _ h9 => h9) rfl dX8_areFacts_5 ?_
  refine lv_iconst (v := 2) hx hb dX8_areFacts_8 (by decide) ?_
  refine m_iald (M := M) (a := 1) hx hb hKn hP (by decide) (j := 2) (by decide) (by decide) dX8_areFacts_9 ?_
  refine lv_ishl hx hb dX8_areFacts_10 ?_
  refine lv_iconst (v := 1) hx hb dX8_areFacts_11 (by decide) ?_
  refine lv_isub hx hb dX8_areFacts_12 ?_
  refine lv_i2l (v := ((((1 <<< ((M.1 1 2) &&& 31)) - 1)).toInt64)) hx hb dX8_areFacts_13 rfl ?_
  obtain ⟨r_1, e14, h⟩ := bo_use h
  refine gc_i (va_runS (As := [.long (((a1).toInt64)), .long (0), .long (((((1 <<< ((M.1 1 2) &&& 31)) - 1)).toInt64))]) (rest := []) hFx (tX8_in l dC dI kI kZ ad ((a1).toInt64) 0 ((((1 <<< ((M.1 1 2) &&& 31)) - 1)).toInt64) M  e14) ⟨(gc_B hFx ck_yX8_in lkM_X8_74 ⟨Nat.le_of_ble_eq_true rfl, Nat.le_of_ble_eq_true rfl⟩ rfl rfl), hg _ st_yX8_in⟩ (gp_S m_KnB (m_KnW hKn) hP) rfl rfl hl.1 rfl (lv_room (Nat.le_of_ble_eq_true rfl)) dX8_areFacts_14 ⟨Nat.zero_le _, Nat.zero_le _⟩) hS (fun H locs hP hS => ?_)
  have hP : va_P (dC, dI) vwCl (m_w kI kZ ad M.1 M.2) H := hP
  obtain ⟨hbo, h⟩ := if_use h
  exact W.zret (v := r_1) hx hb hr (narrow_b01 hbo) (fun t ht hW => ⟨⟨r_1, M, rfl, ⟨Option.some.inj h, rfl⟩, by rw [ht]; exact hP, m_KnW hKn t hW⟩, hS.F ht⟩) hS.2.2 dX8_areFacts_17
noncomputable def FX8_areOpinions (a1 : Int32) (M : MM) : Option Int32 :=
  bo (FX8_in ((a1).toInt64) 0 ((((1 <<< ((M.1 1 1) &&& 31)) - 1)).toInt64)) (fun (r_1 : Int32) => if bo01 r_1 then some r_1 else none)
set_option maxHeartbeats 4000000 in
set_option maxRecDepth 100000 in
theorem tX8_areOpinions (l : Launch) (dC : Nat → ClassId) (dI : Nat → Nat → Nat) (kI kZ : ClassId) (ad : Nat → Nat) (a1 : Int32) (M : MM)  {r0 : Int32} (h : FX8_areOpinions a1 M = some r0) : Met l yX8_areOpinions (wsA yX8_areOpinions cX8_areOpinions 2 (some .boolean)) ({ frames := 1, cells := 0, slots := 0, locals := 25 } : Room) (va_Pc [.ref (ad (0)), .int (a1)] (gI (m_Wd dC dI kI kZ ad) (m_Kn dC dI kI kZ ad) M)) (va_Qi (fun (r : Int32) (u : MM) => r = r0 ∧ u = M) (gI (m_Wd dC dI kI kZ ad) (m_Kn dC dI kI kZ ad)) (m_A ad)) 0 0 (m_A ad) := by
  refine Met.ofW (cc := cX8_areOpinions) (maxL := 2) (ret := (some .boolean)) (by decide) rfl ?_
  intro p e s m args below meth c s₁ B hml hv
  obtain ⟨rfl, hP, hKn⟩ := hv
  have hx := B.exec
  have hb := B.bytes
  have hr := B.returns
  have hts := atoms_spec (ws := wsA yX8_areOpinions cX8_areOpinions 2 (some .boolean)) B.pre
  have hg : ∀ w ∈ lw_good, w.before _ s = true := fun w h => hts w (List.mem_cons_of_mem _ h)
  have hown : s.vm.findClass RX8 = some m.cls := findClass_of_methodNamed B.named
  have hlocks := B.notSynchronized
  have hS : va_S (m_A ad) s.heap s.heap [] := va_S.rf
  have hFx : gFix p c cX8_areOpinions 2 s m _ RX8 := ⟨hx, hb, hml, hown, hg⟩
  have hP : va_P (dC, dI) vwCl (m_w kI kZ ad M.1 M.2) s.heap := hP
  have hl := lv_entry ([.ref (ad (0)), .int (a1)]) (n := 2) (Nat.le_of_ble_eq_true rfl)
  rw [lg_entry_eq]
  generalize (lg_sl ([.ref (ad (0)), .int (a1)]) ++ List.replicate (2 - (lg_sl ([.ref (ad (0)), .int (a1)])).length) Slot.unset).toArray = ls at hl ⊢
  have hl : lv_has ls 2 [(0, .ref (ad (0))), (1, .int (a1))] := hl
  unfold FX8_areOpinions at h
  refine lv_iload_n hx hb dX8_areOpinions_0 rfl (lv_at hl 1 rfl) ?_
  refine lv_i2l (v := ((a1).toInt64)) hx hb dX8_areOpinions_1 rfl ?_
  refine lv_lconst (v := 0) hx hb dX8_areOpinions_2 (by decide) ?_
  refine lv_iconst (v := 1) hx hb dX8_areOpinions_3 (by decide) ?_
  refine lv_aload_n hx hb dX8_areOpinions_4 rfl (lv_at hl 0 rfl) ?_
  refine va_get (D := (dC, dI)) (ci := 8) (v := .ref (ad (1))) (C := RX8) (T := TX8) (N := 29) hx hb hg inX8 hown hKn.1 hP (0) (m_at8 (c := 0) (by decide)) rfl 0 (Nat.le_of_ble_eq_true rfl) (hg _ lkF_X8_7) (fun _ h9 => h9) rfl dX8_areOpinions_5 ?_
  refine lv_iconst (v := 1) hx hb dX8_areOpinions_8 (by decide) ?_
  refine m_iald (M := M) (a := 1) hx hb hKn hP (by decide) (j := 1) (by decide) (by decide) dX8_areOpinions_9 ?_
  refine lv_ishl hx hb dX8_areOpinions_10 ?_
  refine lv_iconst (v := 1) hx hb dX8_areOpinions_11 (by decide) ?_
  refine lv_isub hx hb dX8_areOpinions_12 ?_
  refine lv_i2l (v := ((((1 <<< ((M.1 1 1) &&& 31)) - 1)).toInt64)) hx hb dX8_areOpinions_13 rfl ?_
  obtain ⟨r_1, e14, h⟩ := bo_use h
  refine gc_i (va_runS (As := [.long (((a1).toInt64)), .long (0), .long (((((1 <<< ((M.1 1 1) &&& 31)) - 1)).toInt64))]) (rest := []) hFx (tX8_in l dC dI kI kZ ad ((a1).toInt64) 0 ((((1 <<< ((M.1 1 1) &&& 31)) - 1)).toInt64) M  e14) ⟨(gc_B hFx ck_yX8_in lkM_X8_74 ⟨Nat.le_of_ble_eq_true rfl, Nat.le_of_ble_eq_true rfl⟩ rfl rfl), hg _ st_yX8_in⟩ (gp_S m_KnB (m_KnW hKn) hP) rfl rfl hl.1 rfl (lv_room (Nat.le_of_ble_eq_true rfl)) dX8_areOpinions_14 ⟨Nat.zero_le _, Nat.zero_le _⟩) hS (fun H locs hP hS => ?_)
  have hP : va_P (dC, dI) vwCl (m_w kI kZ ad M.1 M.2) H := hP
  obtain ⟨hbo, h⟩ := if_use h
  exact W.zret (v := r_1) hx hb hr (narrow_b01 hbo) (fun t ht hW => ⟨⟨r_1, M, rfl, ⟨Option.some.inj h, rfl⟩, by rw [ht]; exact hP, m_KnW hKn t hW⟩, hS.F ht⟩) hS.2.2 dX8_areOpinions_17
noncomputable def FX8_begins_L39 (K : MM → Option MM) (k : Nat) (v1_3 : Int32) (M_4 : MM) : Option MM := match k with
  | 0 => none
  | k + 1 => (if (M_4.1 1 2) ≤ v1_3 then K M_4 else (if inb (42 + v1_3) 50 then jn (α := Int32 → Option MM) (fun (s_6 : Int32) => FX8_begins_L39 K k (v1_3 + 1) (um M_4 3 13 ((M_4.1 3 13) ||| s_6))) (fun J76 => (if (M_4.1 1 (ix (42 + v1_3))) = 0 then J76 (1 <<< (v1_3 &&& 31)) else J76 0)) else none))
noncomputable def FX8_begins_L2 (K : MM → Option MM) (k : Nat) (v1_8 : Int32) (M_9 : MM) : Option MM := match k with
  | 0 => none
  | k + 1 => (if 17 ≤ v1_8 then K M_9 else jn (α := Int32 → Option MM) (fun (s_11 : Int32) => (if inb v1_8 17 then FX8_begins_L2 K k (v1_8 + 1) (um M_9 3 (ix v1_8) s_11) else none)) (fun J30 => (if 5 ≤ v1_8 then J30 0 else (if inb (5 + v1_8) 50 then J30 (M_9.1 1 (ix (5 + v1_8))) else none))))
noncomputable def FX8_begins  (M : MM) : Option MM :=
  FX8_begins_L2 (fun (M_1 : MM) => FX8_begins_L39 (fun (M_2 : MM) => some (um (um (um (um (um (um M_2 3 16 (-1)) 0 4 0) 0 12 0) 0 14 0) 6 0 0) 6 1 0)) fuelN 0 M_1) fuelN 0 M
set_option maxHeartbeats 4000000 in
set_option maxRecDepth 100000 in
theorem tX8_begins (l : Launch) (dC : Nat → ClassId) (dI : Nat → Nat → Nat) (kI kZ : ClassId) (ad : Nat → Nat)  (M : MM)  {M0 : MM} (h : FX8_begins  M = some M0) : Met l yX8_begins (wsA yX8_begins cX8_begins 2 none) ({ frames := 0, cells := 0, slots := 0, locals := 0 } : Room) (va_Pc [.ref (ad (0))] (gI (m_Wd dC dI kI kZ ad) (m_Kn dC dI kI kZ ad) M)) (va_Qv (fun (u : MM) => u = M0) (gI (m_Wd dC dI kI kZ ad) (m_Kn dC dI kI kZ ad)) (m_A ad)) 0 0 (m_A ad) := by
  refine Met.ofW (cc := cX8_begins) (maxL := 2) (ret := none) (by decide) rfl ?_
  intro p e s m args below meth c s₁ B hml hv
  obtain ⟨rfl, hP, hKn⟩ := hv
  have hx := B.exec
  have hb := B.bytes
  have hr := B.returns
  have hts := atoms_spec (ws := wsA yX8_begins cX8_begins 2 none) B.pre
  have hg : ∀ w ∈ lw_good, w.before _ s = true := fun w h => hts w (List.mem_cons_of_mem _ h)
  have hown : s.vm.findClass RX8 = some m.cls := findClass_of_methodNamed B.named
  have hlocks := B.notSynchronized
  have hS : va_S (m_A ad) s.heap s.heap [] := va_S.rf
  have hFx : gFix p c cX8_begins 2 s m _ RX8 := ⟨hx, hb, hml, hown, hg⟩
  have hP : va_P (dC, dI) vwCl (m_w kI kZ ad M.1 M.2) s.heap := hP
  have hl := lv_entry ([.ref (ad (0))]) (n := 2) (Nat.le_of_ble_eq_true rfl)
  rw [lg_entry_eq]
  generalize (lg_sl ([.ref (ad (0))]) ++ List.replicate (2 - (lg_sl ([.ref (ad (0))])).length) Slot.unset).toArray = ls at hl ⊢
  have hl : lv_has ls 2 [(0, .ref (ad (0)))] := hl
  unfold FX8_begins at h
  refine lv_iconst (v := 0) hx hb dX8_begins_0 (by decide) ?_
  refine lv_istore_n (lv' := [(1, .int (0)), (0, .ref (ad (0)))]) hx hb dX8_begins_1 rfl hl (Nat.le_of_ble_eq_true rfl) rfl (fun ls hl => ?_)
  obtain ⟨K2, eK2, h⟩ := exK (Lp := fun K => FX8_begins_L2 K fuelN 0 M) h
  have hK2 : ∀ (M_1 : MM) (H : Heap) (locs : List Loc) (ls : Array Slot), va_P (dC, dI) vwCl (m_w kI kZ ad M_1.1 M_1.2) H → va_S (m_A ad) s.heap H locs → lv_has ls 2 [(0, .ref (ad (0)))] → K2 M_1 = some M0 → W p l e (headSpec (wsA yX8_begins cX8_begins 2 none) ({ frames := 0, cells := 0, slots := 0, locals := 0 } : Room)).room s m (([.ref (ad (0))] : List Value).toArray) below meth c H locs 0 0 (MQ below (va_Qv (fun (u : MM) => u = M0) (gI (m_Wd dC dI kI kZ ad) (m_Kn dC dI kI kZ ad)) (m_A ad)) (([.ref (ad (0))] : List Value).toArray) s 0 0 (m_A ad)) (F0 m 37 ls []) := by
    intro M_1 H locs ls hP hS hl h
    have h := useK1 eK2 h
    refine lv_iconst (v := 0) hx hb dX8_begins_37 (by decide) ?_
    refine lv_istore_n (lv' := [(1, .int (0)), (0, .ref (ad (0)))]) hx hb dX8_begins_38 rfl hl (Nat.le_of_ble_eq_true rfl) rfl (fun ls hl => ?_)
    obtain ⟨K39, eK39, h⟩ := exK (Lp := fun K => FX8_begins_L39 K fuelN 0 M_1) h
    have hK39 : ∀ (M_2 : MM) (H : Heap) (locs : List Loc) (ls : Array Slot), va_P (dC, dI) vwCl (m_w kI kZ ad M_2.1 M_2.2) H → va_S (m_A ad) s.heap H locs → lv_has ls 2 [(0, .ref (ad (0)))] → K39 M_2 = some M0 → W p l e (headSpec (wsA yX8_begins cX8_begins 2 none) ({ frames := 0, cells := 0, slots := 0, locals := 0 } : Room)).room s m (([.ref (ad (0))] : List Value).toArray) below meth c H locs 0 0 (MQ below (va_Qv (fun (u : MM) => u = M0) (gI (m_Wd dC dI kI kZ ad) (m_Kn dC dI kI kZ ad)) (m_A ad)) (([.ref (ad (0))] : List Value).toArray) s 0 0 (m_A ad)) (F0 m 84 ls []) := by
      intro M_2 H locs ls hP hS hl h
      have h := useK1 eK39 h
      refine lv_aload_n hx hb dX8_begins_84 rfl (lv_at hl 0 rfl) ?_
      refine va_get (D := (dC, dI)) (ci := 8) (v := .ref (ad (3))) (C := RX8) (T := TX8) (N := 29) hx hb hg inX8 hown hKn.1 hP (0) (m_at8 (c := 0) (by decide)) rfl 2 (Nat.le_of_ble_eq_true rfl) (hg _ lkF_X8_16) (fun _ h9 => h9) rfl dX8_begins_85 ?_
      refine lv_bipush (v := 16) hx hb dX8_begins_88 (by decide) ?_
      refine lv_iconst (v := -1) hx hb dX8_begins_90 (by decide) ?_
      refine m_iast (M := M_2) (a := 3) hx hb hKn hP hS (by decide) (x := (-1)) (j := 16) (by decide) (by decide) dX8_begins_91 (fun H locs hP hS => ?_)
      have hP : va_P (dC, dI) vwCl (m_w kI kZ ad (um M_2 3 16 (-1)).1 (um M_2 3 16 (-1)).2) H := hP
      refine lv_aload_n hx hb dX8_begins_92 rfl (lv_at hl 0 rfl) ?_
      refine lv_iconst (v := 0) hx hb dX8_begins_93 (by decide) ?_
      refine va_put (D := (dC, dI)) (ci := 8) (v := .int (0)) (ty := .int) (C := RX8) (T := TX8) (N := 29) hx hb hg inX8 tyX8 tyX8_ok nmX8 hown hKn.1 hP (m_D hKn.2.1) hS (0) (m_at8 (c := 0) (by decide)) rfl 4 (Nat.le_of_ble_eq_true rfl) (hg _ lkF_X8_63) (fun _ h9 => h9) rfl (by decide +kernel) rfl rfl (Nat.le_of_ble_eq_true rfl) dX8_begins_94 (fun H locs hP _ hS => ?_)
      have hP : va_P (dC, dI) vwCl (m_w kI kZ ad (um (um M_2 3 16 (-1)) 0 4 0).1 (um (um M_2 3 16 (-1)) 0 4 0).2) H := vp_eq (m_put8_4 (by decide) _) hP
      refine lv_aload_n hx hb dX8_begins_97 rfl (lv_at hl 0 rfl) ?_
      refine lv_iconst (v := 0) hx hb dX8_begins_98 (by decide) ?_
      refine va_put (D := (dC, dI)) (ci := 8) (v := .int (0)) (ty := .int) (C := RX8) (T := TX8) (N := 29) hx hb hg inX8 tyX8 tyX8_ok nmX8 hown hKn.1 hP (m_D hKn.2.1) hS (0) (m_at8 (c := 0) (by decide)) rfl 12 (Nat.le_of_ble_eq_true rfl) (hg _ lkF_X8_66) (fun _ h9 => h9) rfl (by decide +kernel) rfl rfl (Nat.le_of_ble_eq_true rfl) dX8_begins_99 (fun H locs hP _ hS => ?_)
      have hP : va_P (dC, dI) vwCl (m_w kI kZ ad (um (um (um M_2 3 16 (-1)) 0 4 0) 0 12 0).1 (um (um (um M_2 3 16 (-1)) 0 4 0) 0 12 0).2) H := vp_eq (m_put8_12 (by decide) _) hP
      refine lv_aload_n hx hb dX8_begins_102 rfl (lv_at hl 0 rfl) ?_
      refine lv_iconst (v := 0) hx hb dX8_begins_103 (by decide) ?_
      refine va_put (D := (dC, dI)) (ci := 8) (v := .int (0)) (ty := .int) (C := RX8) (T := TX8) (N := 29) hx hb hg inX8 tyX8 tyX8_ok nmX8 hown hKn.1 hP (m_D hKn.2.1) hS (0) (m_at8 (c := 0) (by decide)) rfl 14 (Nat.le_of_ble_eq_true rfl) (hg _ lkF_X8_69) (fun _ h9 => h9) rfl (by decide +kernel) rfl rfl (Nat.le_of_ble_eq_true rfl) dX8_begins_104 (fun H locs hP _ hS => ?_)
      have hP : va_P (dC, dI) vwCl (m_w kI kZ ad (um (um (um (um M_2 3 16 (-1)) 0 4 0) 0 12 0) 0 14 0).1 (um (um (um (um M_2 3 16 (-1)) 0 4 0) 0 12 0) 0 14 0).2) H := vp_eq (m_put8_14 (by decide) _) hP
      refine lv_aload_n hx hb dX8_begins_107 rfl (lv_at hl 0 rfl) ?_
      refine va_get (D := (dC, dI)) (ci := 8) (v := .ref (ad (6))) (C := RX8) (T := TX8) (N := 29) hx hb hg inX8 hown hKn.1 hP (0) (m_at8 (c := 0) (by decide)) rfl 6 (Nat.le_of_ble_eq_true rfl) (hg _ lkF_X8_25) (fun _ h9 => h9) rfl dX8_begins_108 ?_
      refine lv_iconst (v := 0) hx hb dX8_begins_111 (by decide) ?_
      refine lv_iconst (v := 0) hx hb dX8_begins_112 (by decide) ?_
      refine m_zast (M := (um (um (um (um M_2 3 16 (-1)) 0 4 0) 0 12 0) 0 14 0)) hx hb hKn hP hS (x := 0) (by decide)  (j := 0) (by decide) (by decide) dX8_begins_113 (fun H locs hP hS => ?_)
      have hP : va_P (dC, dI) vwCl (m_w kI kZ ad (um (um (um (um (um M_2 3 16 (-1)) 0 4 0) 0 12 0) 0 14 0) 6 0 0).1 (um (um (um (um (um M_2 3 16 (-1)) 0 4 0) 0 12 0) 0 14 0) 6 0 0).2) H := hP
      refine lv_aload_n hx hb dX8_begins_114 rfl (lv_at hl 0 rfl) ?_
      refine va_get (D := (dC, dI)) (ci := 8) (v := .ref (ad (6))) (C := RX8) (T := TX8) (N := 29) hx hb hg inX8 hown hKn.1 hP (0) (m_at8 (c := 0) (by decide)) rfl 6 (Nat.le_of_ble_eq_true rfl) (hg _ lkF_X8_25) (fun _ h9 => h9) rfl dX8_begins_115 ?_
      refine lv_iconst (v := 1) hx hb dX8_begins_118 (by decide) ?_
      refine lv_iconst (v := 0) hx hb dX8_begins_119 (by decide) ?_
      refine m_zast (M := (um (um (um (um (um M_2 3 16 (-1)) 0 4 0) 0 12 0) 0 14 0) 6 0 0)) hx hb hKn hP hS (x := 0) (by decide)  (j := 1) (by decide) (by decide) dX8_begins_120 (fun H locs hP hS => ?_)
      have hP : va_P (dC, dI) vwCl (m_w kI kZ ad (um (um (um (um (um (um M_2 3 16 (-1)) 0 4 0) 0 12 0) 0 14 0) 6 0 0) 6 1 0).1 (um (um (um (um (um (um M_2 3 16 (-1)) 0 4 0) 0 12 0) 0 14 0) 6 0 0) 6 1 0).2) H := hP
      exact W.vret hx hb hr (fun t ht hW => ⟨⟨um (um (um (um (um (um M_2 3 16 (-1)) 0 4 0) 0 12 0) 0 14 0) 6 0 0) 6 1 0, rfl, Option.some.inj h, by rw [ht]; exact hP, m_KnW hKn t hW⟩, hS.F ht⟩) hS.2.2 dX8_begins_121
    have hL39 : ∀ (k : Nat) (v1_3 : Int32) (M_4 : MM) (H : Heap) (locs : List Loc) (ls : Array Slot), va_P (dC, dI) vwCl (m_w kI kZ ad M_4.1 M_4.2) H → va_S (m_A ad) s.heap H locs → lv_has ls 2 [(0, .ref (ad (0))), (1, .int (v1_3))] → FX8_begins_L39 K39 k v1_3 M_4 = some M0 → W p l e (headSpec (wsA yX8_begins cX8_begins 2 none) ({ frames := 0, cells := 0, slots := 0, locals := 0 } : Room)).room s m (([.ref (ad (0))] : List Value).toArray) below meth c H locs 0 0 (MQ below (va_Qv (fun (u : MM) => u = M0) (gI (m_Wd dC dI kI kZ ad) (m_Kn dC dI kI kZ ad)) (m_A ad)) (([.ref (ad (0))] : List Value).toArray) s 0 0 (m_A ad)) (F0 m 39 ls []) := by
      intro k
      induction k with
      | zero => intro v1_3 M_4 H locs ls hP hS hl h; cases h
      | succ k ih39 =>
        intro v1_3 M_4 H locs ls hP hS hl h
        unfold FX8_begins_L39 at h
        refine lv_iload_n hx hb dX8_begins_39 rfl (lv_at hl 1 rfl) ?_
        refine lv_aload_n hx hb dX8_begins_40 rfl (lv_at hl 0 rfl) ?_
        refine va_get (D := (dC, dI)) (ci := 8) (v := .ref (ad (1))) (C := RX8) (T := TX8) (N := 29) hx hb hg inX8 hown hKn.1 hP (0) (m_at8 (c := 0) (by decide)) rfl 0 (Nat.le_of_ble_eq_true rfl) (hg _ lkF_X8_7) (fun _ h9 => h9) rfl dX8_begins_41 ?_
        refine lv_iconst (v := 2) hx hb dX8_begins_44 (by decide) ?_
        refine m_iald (M := M_4) (a := 1) hx hb hKn hP (by decide) (j := 2) (by decide) (by decide) dX8_begins_45 ?_
        refine lv_icmp_ge (tgt := 84) hx hb dX8_begins_46 (by decide) (fun c_5 => ?_) (fun c_5 => ?_)
        · have h := ife_t c_5 h
          exact hK39 M_4 _ _ _ hP hS (lv_sub hl [0] rfl) h
        · have h := ife_f c_5 h
          refine lv_aload_n hx hb dX8_begins_49 rfl (lv_at hl 0 rfl) ?_
          refine va_get (D := (dC, dI)) (ci := 8) (v := .ref (ad (3))) (C := RX8) (T := TX8) (N := 29) hx hb hg inX8 hown hKn.1 hP (0) (m_at8 (c := 0) (by decide)) rfl 2 (Nat.le_of_ble_eq_true rfl) (hg _ lkF_X8_16) (fun _ h9 => h9) rfl dX8_begins_50 ?_
          refine lv_bipush (v := 13) hx hb dX8_begins_53 (by decide) ?_
          refine lv_dup2_11 hx hb dX8_begins_55 rfl rfl ?_
          refine m_iald (M := M_4) (a := 3) hx hb hKn hP (by decide) (j := 13) (by decide) (by decide) dX8_begins_56 ?_
          refine lv_aload_n hx hb dX8_begins_57 rfl (lv_at hl 0 rfl) ?_
          refine va_get (D := (dC, dI)) (ci := 8) (v := .ref (ad (1))) (C := RX8) (T := TX8) (N := 29) hx hb hg inX8 hown hKn.1 hP (0) (m_at8 (c := 0) (by decide)) rfl 0 (Nat.le_of_ble_eq_true rfl) (hg _ lkF_X8_7) (fun _ h9 => h9) rfl dX8_begins_58 ?_
          refine lv_bipush (v := 42) hx hb dX8_begins_61 (by decide) ?_
          refine lv_iload_n hx hb dX8_begins_63 rfl (lv_at hl 1 rfl) ?_
          refine lv_iadd hx hb dX8_begins_64 ?_
          obtain ⟨hi65, h⟩ := if_use h
          refine m_iald (M := M_4) (a := 1) hx hb hKn hP (by decide) (j := (ix (42 + v1_3))) rfl hi65 dX8_begins_65 ?_
          obtain ⟨J76, eJ76, h⟩ := jn_use h
          have hJ76 : ∀ (s_6 : Int32) (H : Heap) (locs : List Loc) (ls : Array Slot), va_P (dC, dI) vwCl (m_w kI kZ ad M_4.1 M_4.2) H → va_S (m_A ad) s.heap H locs → lv_has ls 2 [(0, .ref (ad (0))), (1, .int (v1_3))] → J76 s_6 = some M0 → W p l e (headSpec (wsA yX8_begins cX8_begins 2 none) ({ frames := 0, cells := 0, slots := 0, locals := 0 } : Room)).room s m (([.ref (ad (0))] : List Value).toArray) below meth c H locs 0 0 (MQ below (va_Qv (fun (u : MM) => u = M0) (gI (m_Wd dC dI kI kZ ad) (m_Kn dC dI kI kZ ad)) (m_A ad)) (([.ref (ad (0))] : List Value).toArray) s 0 0 (m_A ad)) (F0 m 76 ls [.int (s_6), .int ((M_4.1 3 13)), .int (13), .ref (ad (3))]) := by
            intro s_6 H locs ls hP hS hl h
            have h := useK1 eJ76 h
            refine lv_ior hx hb dX8_begins_76 ?_
            refine m_iast (M := M_4) (a := 3) hx hb hKn hP hS (by decide) (x := ((M_4.1 3 13) ||| s_6)) (j := 13) (by decide) (by decide) dX8_begins_77 (fun H locs hP hS => ?_)
            have hP : va_P (dC, dI) vwCl (m_w kI kZ ad (um M_4 3 13 ((M_4.1 3 13) ||| s_6)).1 (um M_4 3 13 ((M_4.1 3 13) ||| s_6)).2) H := hP
            refine lv_iinc (v := (v1_3 + 1)) (lv' := [(1, .int ((v1_3 + 1))), (0, .ref (ad (0)))]) hx hb dX8_begins_78 hl (k := 1) rfl rfl (Nat.le_of_ble_eq_true rfl) rfl (fun ls hl => ?_)
            refine lv_goto (tgt := 39) hx hb dX8_begins_81 (by decide) ?_
            exact ih39 (v1_3 + 1) (um M_4 3 13 ((M_4.1 3 13) ||| s_6)) _ _ _ hP hS (lv_sub hl [1, 0] rfl) h
          refine lv_if_ne (tgt := 75) hx hb dX8_begins_66 (by decide) (fun c_7 => ?_) (fun c_7 => ?_)
          · have h := ife_f c_7 h
            refine lv_iconst (v := 0) hx hb dX8_begins_75 (by decide) ?_
            exact hJ76 0 _ _ _ hP hS (lv_sub hl [0, 1] rfl) h
          · have h := ife_t c_7 h
            refine lv_iconst (v := 1) hx hb dX8_begins_69 (by decide) ?_
            refine lv_iload_n hx hb dX8_begins_70 rfl (lv_at hl 1 rfl) ?_
            refine lv_ishl hx hb dX8_begins_71 ?_
            refine lv_goto (tgt := 76) hx hb dX8_begins_72 (by decide) ?_
            exact hJ76 (1 <<< (v1_3 &&& 31)) _ _ _ hP hS (lv_sub hl [0, 1] rfl) h
    exact hL39 fuelN 0 M_1 _ _ _ hP hS (lv_sub hl [1, 0] rfl) h
  have hL2 : ∀ (k : Nat) (v1_8 : Int32) (M_9 : MM) (H : Heap) (locs : List Loc) (ls : Array Slot), va_P (dC, dI) vwCl (m_w kI kZ ad M_9.1 M_9.2) H → va_S (m_A ad) s.heap H locs → lv_has ls 2 [(0, .ref (ad (0))), (1, .int (v1_8))] → FX8_begins_L2 K2 k v1_8 M_9 = some M0 → W p l e (headSpec (wsA yX8_begins cX8_begins 2 none) ({ frames := 0, cells := 0, slots := 0, locals := 0 } : Room)).room s m (([.ref (ad (0))] : List Value).toArray) below meth c H locs 0 0 (MQ below (va_Qv (fun (u : MM) => u = M0) (gI (m_Wd dC dI kI kZ ad) (m_Kn dC dI kI kZ ad)) (m_A ad)) (([.ref (ad (0))] : List Value).toArray) s 0 0 (m_A ad)) (F0 m 2 ls []) := by
    intro k
    induction k with
    | zero => intro v1_8 M_9 H locs ls hP hS hl h; cases h
    | succ k ih2 =>
      intro v1_8 M_9 H locs ls hP hS hl h
      unfold FX8_begins_L2 at h
      refine lv_iload_n hx hb dX8_begins_2 rfl (lv_at hl 1 rfl) ?_
      refine lv_bipush (v := 17) hx hb dX8_begins_3 (by decide) ?_
      refine lv_icmp_ge (tgt := 37) hx hb dX8_begins_5 (by decide) (fun c_10 => ?_) (fun c_10 => ?_)
      · have h := ife_t c_10 h
        exact hK2 M_9 _ _ _ hP hS (lv_sub hl [0] rfl) h
      · have h := ife_f c_10 h
        refine lv_aload_n hx hb dX8_begins_8 rfl (lv_at hl 0 rfl) ?_
        refine va_get (D := (dC, dI)) (ci := 8) (v := .ref (ad (3))) (C := RX8) (T := TX8) (N := 29) hx hb hg inX8 hown hKn.1 hP (0) (m_at8 (c := 0) (by decide)) rfl 2 (Nat.le_of_ble_eq_true rfl) (hg _ lkF_X8_16) (fun _ h9 => h9) rfl dX8_begins_9 ?_
        refine lv_iload_n hx hb dX8_begins_12 rfl (lv_at hl 1 rfl) ?_
        refine lv_iload_n hx hb dX8_begins_13 rfl (lv_at hl 1 rfl) ?_
        refine lv_iconst (v := 5) hx hb dX8_begins_14 (by decide) ?_
        obtain ⟨J30, eJ30, h⟩ := jn_use h
        have hJ30 : ∀ (s_11 : Int32) (H : Heap) (locs : List Loc) (ls : Array Slot), va_P (dC, dI) vwCl (m_w kI kZ ad M_9.1 M_9.2) H → va_S (m_A ad) s.heap H locs → lv_has ls 2 [(0, .ref (ad (0))), (1, .int (v1_8))] → J30 s_11 = some M0 → W p l e (headSpec (wsA yX8_begins cX8_begins 2 none) ({ frames := 0, cells := 0, slots := 0, locals := 0 } : Room)).room s m (([.ref (ad (0))] : List Value).toArray) below meth c H locs 0 0 (MQ below (va_Qv (fun (u : MM) => u = M0) (gI (m_Wd dC dI kI kZ ad) (m_Kn dC dI kI kZ ad)) (m_A ad)) (([.ref (ad (0))] : List Value).toArray) s 0 0 (m_A ad)) (F0 m 30 ls [.int (s_11), .int (v1_8), .ref (ad (3))]) := by
          intro s_11 H locs ls hP hS hl h
          have h := useK1 eJ30 h
          obtain ⟨hi30, h⟩ := if_use h
          refine m_iast (M := M_9) (a := 3) hx hb hKn hP hS (by decide) (x := s_11) (j := (ix v1_8)) rfl hi30 dX8_begins_30 (fun H locs hP hS => ?_)
          have hP : va_P (dC, dI) vwCl (m_w kI kZ ad (um M_9 3 (ix v1_8) s_11).1 (um M_9 3 (ix v1_8) s_11).2) H := hP
          refine lv_iinc (v := (v1_8 + 1)) (lv' := [(1, .int ((v1_8 + 1))), (0, .ref (ad (0)))]) hx hb dX8_begins_31 hl (k := 1) rfl rfl (Nat.le_of_ble_eq_true rfl) rfl (fun ls hl => ?_)
          refine lv_goto (tgt := 2) hx hb dX8_begins_34 (by decide) ?_
          exact ih2 (v1_8 + 1) (um M_9 3 (ix v1_8) s_11) _ _ _ hP hS (lv_sub hl [1, 0] rfl) h
        refine lv_icmp_ge (tgt := 29) hx hb dX8_begins_15 (by decide) (fun c_12 => ?_) (fun c_12 => ?_)
        · have h := ife_t c_12 h
          refine lv_iconst (v := 0) hx hb dX8_begins_29 (by decide) ?_
          exact hJ30 0 _ _ _ hP hS (lv_sub hl [0, 1] rfl) h
        · have h := ife_f c_12 h
          refine lv_aload_n hx hb dX8_begins_18 rfl (lv_at hl 0 rfl) ?_
          refine va_get (D := (dC, dI)) (ci := 8) (v := .ref (ad (1))) (C := RX8) (T := TX8) (N := 29) hx hb hg inX8 hown hKn.1 hP (0) (m_at8 (c := 0) (by decide)) rfl 0 (Nat.le_of_ble_eq_true rfl) (hg _ lkF_X8_7) (fun _ h9 => h9) rfl dX8_begins_19 ?_
          refine lv_iconst (v := 5) hx hb dX8_begins_22 (by decide) ?_
          refine lv_iload_n hx hb dX8_begins_23 rfl (lv_at hl 1 rfl) ?_
          refine lv_iadd hx hb dX8_begins_24 ?_
          obtain ⟨hi25, h⟩ := if_use h
          refine m_iald (M := M_9) (a := 1) hx hb hKn hP (by decide) (j := (ix (5 + v1_8))) rfl hi25 dX8_begins_25 ?_
          refine lv_goto (tgt := 30) hx hb dX8_begins_26 (by decide) ?_
          exact hJ30 (M_9.1 1 (ix (5 + v1_8))) _ _ _ hP hS (lv_sub hl [0, 1] rfl) h
  exact hL2 fuelN 0 M _ _ _ hP hS (lv_sub hl [1, 0] rfl) h
noncomputable def FX8_beginsStep (a1 : Int32) (M : MM) : Option MM :=
  (if inb a1 5 then (if inb a1 5 then some (um (um M 14 (ix a1) (-1)) 15 (ix a1) (-1)) else none) else none)
set_option maxHeartbeats 4000000 in
set_option maxRecDepth 100000 in
theorem tX8_beginsStep (l : Launch) (dC : Nat → ClassId) (dI : Nat → Nat → Nat) (kI kZ : ClassId) (ad : Nat → Nat) (a1 : Int32) (M : MM)  {M0 : MM} (h : FX8_beginsStep a1 M = some M0) : Met l yX8_beginsStep (wsA yX8_beginsStep cX8_beginsStep 2 none) ({ frames := 0, cells := 0, slots := 0, locals := 0 } : Room) (va_Pc [.ref (ad (0)), .int (a1)] (gI (m_Wd dC dI kI kZ ad) (m_Kn dC dI kI kZ ad) M)) (va_Qv (fun (u : MM) => u = M0) (gI (m_Wd dC dI kI kZ ad) (m_Kn dC dI kI kZ ad)) (m_A ad)) 0 0 (m_A ad) := by
  refine Met.ofW (cc := cX8_beginsStep) (maxL := 2) (ret := none) (by decide) rfl ?_
  intro p e s m args below meth c s₁ B hml hv
  obtain ⟨rfl, hP, hKn⟩ := hv
  have hx := B.exec
  have hb := B.bytes
  have hr := B.returns
  have hts := atoms_spec (ws := wsA yX8_beginsStep cX8_beginsStep 2 none) B.pre
  have hg : ∀ w ∈ lw_good, w.before _ s = true := fun w h => hts w (List.mem_cons_of_mem _ h)
  have hown : s.vm.findClass RX8 = some m.cls := findClass_of_methodNamed B.named
  have hlocks := B.notSynchronized
  have hS : va_S (m_A ad) s.heap s.heap [] := va_S.rf
  have hFx : gFix p c cX8_beginsStep 2 s m _ RX8 := ⟨hx, hb, hml, hown, hg⟩
  have hP : va_P (dC, dI) vwCl (m_w kI kZ ad M.1 M.2) s.heap := hP
  have hl := lv_entry ([.ref (ad (0)), .int (a1)]) (n := 2) (Nat.le_of_ble_eq_true rfl)
  rw [lg_entry_eq]
  generalize (lg_sl ([.ref (ad (0)), .int (a1)]) ++ List.replicate (2 - (lg_sl ([.ref (ad (0)), .int (a1)])).length) Slot.unset).toArray = ls at hl ⊢
  have hl : lv_has ls 2 [(0, .ref (ad (0))), (1, .int (a1))] := hl
  unfold FX8_beginsStep at h
  refine lv_aload_n hx hb dX8_beginsStep_0 rfl (lv_at hl 0 rfl) ?_
  refine va_get (D := (dC, dI)) (ci := 8) (v := .ref (ad (14))) (C := RX8) (T := TX8) (N := 29) hx hb hg inX8 hown hKn.1 hP (0) (m_at8 (c := 0) (by decide)) rfl 27 (Nat.le_of_ble_eq_true rfl) (hg _ lkF_X8_54) (fun _ h9 => h9) rfl dX8_beginsStep_1 ?_
  refine lv_iload_n hx hb dX8_beginsStep_4 rfl (lv_at hl 1 rfl) ?_
  refine lv_iconst (v := -1) hx hb dX8_beginsStep_5 (by decide) ?_
  obtain ⟨hi6, h⟩ := if_use h
  refine m_iast (M := M) (a := 14) hx hb hKn hP hS (by decide) (x := (-1)) (j := (ix a1)) rfl hi6 dX8_beginsStep_6 (fun H locs hP hS => ?_)
  have hP : va_P (dC, dI) vwCl (m_w kI kZ ad (um M 14 (ix a1) (-1)).1 (um M 14 (ix a1) (-1)).2) H := hP
  refine lv_aload_n hx hb dX8_beginsStep_7 rfl (lv_at hl 0 rfl) ?_
  refine va_get (D := (dC, dI)) (ci := 8) (v := .ref (ad (15))) (C := RX8) (T := TX8) (N := 29) hx hb hg inX8 hown hKn.1 hP (0) (m_at8 (c := 0) (by decide)) rfl 28 (Nat.le_of_ble_eq_true rfl) (hg _ lkF_X8_57) (fun _ h9 => h9) rfl dX8_beginsStep_8 ?_
  refine lv_iload_n hx hb dX8_beginsStep_11 rfl (lv_at hl 1 rfl) ?_
  refine lv_iconst (v := -1) hx hb dX8_beginsStep_12 (by decide) ?_
  obtain ⟨hi13, h⟩ := if_use h
  refine m_iast (M := (um M 14 (ix a1) (-1))) (a := 15) hx hb hKn hP hS (by decide) (x := (-1)) (j := (ix a1)) rfl hi13 dX8_beginsStep_13 (fun H locs hP hS => ?_)
  have hP : va_P (dC, dI) vwCl (m_w kI kZ ad (um (um M 14 (ix a1) (-1)) 15 (ix a1) (-1)).1 (um (um M 14 (ix a1) (-1)) 15 (ix a1) (-1)).2) H := hP
  exact W.vret hx hb hr (fun t ht hW => ⟨⟨um (um M 14 (ix a1) (-1)) 15 (ix a1) (-1), rfl, Option.some.inj h, by rw [ht]; exact hP, m_KnW hKn t hW⟩, hS.F ht⟩) hS.2.2 dX8_beginsStep_14
noncomputable def FX8_isOpinion (a1 : Int32) (M : MM) : Option Int32 :=
  bo (FX8_in ((a1).toInt64) 0 ((((M.1 1 1) - 1)).toInt64)) (fun (r_1 : Int32) => if bo01 r_1 then some r_1 else none)
set_option maxHeartbeats 4000000 in
set_option maxRecDepth 100000 in
theorem tX8_isOpinion (l : Launch) (dC : Nat → ClassId) (dI : Nat → Nat → Nat) (kI kZ : ClassId) (ad : Nat → Nat) (a1 : Int32) (M : MM)  {r0 : Int32} (h : FX8_isOpinion a1 M = some r0) : Met l yX8_isOpinion (wsA yX8_isOpinion cX8_isOpinion 2 (some .boolean)) ({ frames := 1, cells := 0, slots := 0, locals := 25 } : Room) (va_Pc [.ref (ad (0)), .int (a1)] (gI (m_Wd dC dI kI kZ ad) (m_Kn dC dI kI kZ ad) M)) (va_Qi (fun (r : Int32) (u : MM) => r = r0 ∧ u = M) (gI (m_Wd dC dI kI kZ ad) (m_Kn dC dI kI kZ ad)) (m_A ad)) 0 0 (m_A ad) := by
  refine Met.ofW (cc := cX8_isOpinion) (maxL := 2) (ret := (some .boolean)) (by decide) rfl ?_
  intro p e s m args below meth c s₁ B hml hv
  obtain ⟨rfl, hP, hKn⟩ := hv
  have hx := B.exec
  have hb := B.bytes
  have hr := B.returns
  have hts := atoms_spec (ws := wsA yX8_isOpinion cX8_isOpinion 2 (some .boolean)) B.pre
  have hg : ∀ w ∈ lw_good, w.before _ s = true := fun w h => hts w (List.mem_cons_of_mem _ h)
  have hown : s.vm.findClass RX8 = some m.cls := findClass_of_methodNamed B.named
  have hlocks := B.notSynchronized
  have hS : va_S (m_A ad) s.heap s.heap [] := va_S.rf
  have hFx : gFix p c cX8_isOpinion 2 s m _ RX8 := ⟨hx, hb, hml, hown, hg⟩
  have hP : va_P (dC, dI) vwCl (m_w kI kZ ad M.1 M.2) s.heap := hP
  have hl := lv_entry ([.ref (ad (0)), .int (a1)]) (n := 2) (Nat.le_of_ble_eq_true rfl)
  rw [lg_entry_eq]
  generalize (lg_sl ([.ref (ad (0)), .int (a1)]) ++ List.replicate (2 - (lg_sl ([.ref (ad (0)), .int (a1)])).length) Slot.unset).toArray = ls at hl ⊢
  have hl : lv_has ls 2 [(0, .ref (ad (0))), (1, .int (a1))] := hl
  unfold FX8_isOpinion at h
  refine lv_iload_n hx hb dX8_isOpinion_0 rfl (lv_at hl 1 rfl) ?_
  refine lv_i2l (v := ((a1).toInt64)) hx hb dX8_isOpinion_1 rfl ?_
  refine lv_lconst (v := 0) hx hb dX8_isOpinion_2 (by decide) ?_
  refine lv_aload_n hx hb dX8_isOpinion_3 rfl (lv_at hl 0 rfl) ?_
  refine va_get (D := (dC, dI)) (ci := 8) (v := .ref (ad (1))) (C := RX8) (T := TX8) (N := 29) hx hb hg inX8 hown hKn.1 hP (0) (m_at8 (c := 0) (by decide)) rfl 0 (Nat.le_of_ble_eq_true rfl) (hg _ lkF_X8_7) (fun _ h9 => h9) rfl dX8_isOpinion_4 ?_
  refine lv_iconst (v := 1) hx hb dX8_isOpinion_7 (by decide) ?_
  refine m_iald (M := M) (a := 1) hx hb hKn hP (by decide) (j := 1) (by decide) (by decide) dX8_isOpinion_8 ?_
  refine lv_iconst (v := 1) hx hb dX8_isOpinion_9 (by decide) ?_
  refine lv_isub hx hb dX8_isOpinion_10 ?_
  refine lv_i2l (v := ((((M.1 1 1) - 1)).toInt64)) hx hb dX8_isOpinion_11 rfl ?_
  obtain ⟨r_1, e12, h⟩ := bo_use h
  refine gc_i (va_runS (As := [.long (((a1).toInt64)), .long (0), .long (((((M.1 1 1) - 1)).toInt64))]) (rest := []) hFx (tX8_in l dC dI kI kZ ad ((a1).toInt64) 0 ((((M.1 1 1) - 1)).toInt64) M  e12) ⟨(gc_B hFx ck_yX8_in lkM_X8_74 ⟨Nat.le_of_ble_eq_true rfl, Nat.le_of_ble_eq_true rfl⟩ rfl rfl), hg _ st_yX8_in⟩ (gp_S m_KnB (m_KnW hKn) hP) rfl rfl hl.1 rfl (lv_room (Nat.le_of_ble_eq_true rfl)) dX8_isOpinion_12 ⟨Nat.zero_le _, Nat.zero_le _⟩) hS (fun H locs hP hS => ?_)
  have hP : va_P (dC, dI) vwCl (m_w kI kZ ad M.1 M.2) H := hP
  obtain ⟨hbo, h⟩ := if_use h
  exact W.zret (v := r_1) hx hb hr (narrow_b01 hbo) (fun t ht hW => ⟨⟨r_1, M, rfl, ⟨Option.some.inj h, rfl⟩, by rw [ht]; exact hP, m_KnW hKn t hW⟩, hS.F ht⟩) hS.2.2 dX8_isOpinion_15
noncomputable def FX8_belief (a1 : Int32) (M : MM) : Option Int32 :=
  bo (FX8_isOpinion a1 M) (fun (r_1 : Int32) => (if r_1 = 0 then some (-1000000001) else (if inb a1 17 then some (M.1 3 (ix a1)) else none)))
set_option maxHeartbeats 4000000 in
set_option maxRecDepth 100000 in
theorem tX8_belief (l : Launch) (dC : Nat → ClassId) (dI : Nat → Nat → Nat) (kI kZ : ClassId) (ad : Nat → Nat) (a1 : Int32) (M : MM)  {r0 : Int32} (h : FX8_belief a1 M = some r0) : Met l yX8_belief (wsA yX8_belief cX8_belief 2 (some .int)) ({ frames := 2, cells := 0, slots := 0, locals := 46 } : Room) (va_Pc [.ref (ad (0)), .int (a1)] (gI (m_Wd dC dI kI kZ ad) (m_Kn dC dI kI kZ ad) M)) (va_Qi (fun (r : Int32) (u : MM) => r = r0 ∧ u = M) (gI (m_Wd dC dI kI kZ ad) (m_Kn dC dI kI kZ ad)) (m_A ad)) 0 0 (m_A ad) := by
  refine Met.ofW (cc := cX8_belief) (maxL := 2) (ret := (some .int)) (by decide) rfl ?_
  intro p e s m args below meth c s₁ B hml hv
  obtain ⟨rfl, hP, hKn⟩ := hv
  have hx := B.exec
  have hb := B.bytes
  have hr := B.returns
  have hts := atoms_spec (ws := wsA yX8_belief cX8_belief 2 (some .int)) B.pre
  have hg : ∀ w ∈ lw_good, w.before _ s = true := fun w h => hts w (List.mem_cons_of_mem _ h)
  have hown : s.vm.findClass RX8 = some m.cls := findClass_of_methodNamed B.named
  have hlocks := B.notSynchronized
  have hS : va_S (m_A ad) s.heap s.heap [] := va_S.rf
  have hFx : gFix p c cX8_belief 2 s m _ RX8 := ⟨hx, hb, hml, hown, hg⟩
  have hP : va_P (dC, dI) vwCl (m_w kI kZ ad M.1 M.2) s.heap := hP
  have hl := lv_entry ([.ref (ad (0)), .int (a1)]) (n := 2) (Nat.le_of_ble_eq_true rfl)
  rw [lg_entry_eq]
  generalize (lg_sl ([.ref (ad (0)), .int (a1)]) ++ List.replicate (2 - (lg_sl ([.ref (ad (0)), .int (a1)])).length) Slot.unset).toArray = ls at hl ⊢
  have hl : lv_has ls 2 [(0, .ref (ad (0))), (1, .int (a1))] := hl
  unfold FX8_belief at h
  refine lv_aload_n hx hb dX8_belief_0 rfl (lv_at hl 0 rfl) ?_
  refine lv_iload_n hx hb dX8_belief_1 rfl (lv_at hl 1 rfl) ?_
  obtain ⟨r_1, e2, h⟩ := bo_use h
  refine gc_i (va_runV (As := [.int (a1)]) (rest := []) hFx (tX8_isOpinion l dC dI kI kZ ad a1 M  e2) ⟨(gc_B hFx ck_yX8_isOpinion lkM_X8_140 ⟨Nat.le_of_ble_eq_true rfl, Nat.le_of_ble_eq_true rfl⟩ rfl rfl), hg _ vi_yX8_isOpinion, hg _ vs_yX8_isOpinion⟩ (gp_V m_KnB (m_KnW hKn) hP (m_rc8 (c := 0) (by decide) hKn hP)) rfl rfl hl.1 rfl (lv_room (Nat.le_of_ble_eq_true rfl)) dX8_belief_2 ⟨Nat.zero_le _, Nat.zero_le _⟩) hS (fun H locs hP hS => ?_)
  have hP : va_P (dC, dI) vwCl (m_w kI kZ ad M.1 M.2) H := hP
  refine lv_if_eq (tgt := 17) hx hb dX8_belief_5 (by decide) (fun c_2 => ?_) (fun c_2 => ?_)
  · have h := ife_t c_2 h
    refine lv_ldc hx hb hown (hg _ kc_X8_143) dX8_belief_17 ?_
    exact W.iret (v := (-1000000001)) hx hb hr (fun t ht hW => ⟨⟨(-1000000001), M, rfl, ⟨Option.some.inj h, rfl⟩, by rw [ht]; exact hP, m_KnW hKn t hW⟩, hS.F ht⟩) hS.2.2 dX8_belief_19
  · have h := ife_f c_2 h
    refine lv_aload_n hx hb dX8_belief_8 rfl (lv_at hl 0 rfl) ?_
    refine va_get (D := (dC, dI)) (ci := 8) (v := .ref (ad (3))) (C := RX8) (T := TX8) (N := 29) hx hb hg inX8 hown hKn.1 hP (0) (m_at8 (c := 0) (by decide)) rfl 2 (Nat.le_of_ble_eq_true rfl) (hg _ lkF_X8_16) (fun _ h9 => h9) rfl dX8_belief_9 ?_
    refine lv_iload_n hx hb dX8_belief_12 rfl (lv_at hl 1 rfl) ?_
    obtain ⟨hi13, h⟩ := if_use h
    refine m_iald (M := M) (a := 3) hx hb hKn hP (by decide) (j := (ix a1)) rfl hi13 dX8_belief_13 ?_
    refine lv_goto (tgt := 19) hx hb dX8_belief_14 (by decide) ?_
    exact W.iret (v := (M.1 3 (ix a1))) hx hb hr (fun t ht hW => ⟨⟨(M.1 3 (ix a1)), M, rfl, ⟨Option.some.inj h, rfl⟩, by rw [ht]; exact hP, m_KnW hKn t hW⟩, hS.F ht⟩) hS.2.2 dX8_belief_19
noncomputable def FX8_bits_L4 (K : Int32 → Option Int32) (k : Nat) (v1_2 : Int32) (v2_3 : Int32) : Option Int32 := match k with
  | 0 => none
  | k + 1 => (if v2_3 = 0 then K v1_2 else FX8_bits_L4 K k (v1_2 + 1) (v2_3 &&& (v2_3 - 1)))
noncomputable def FX8_bits (a0 : Int32) : Option Int32 :=
  FX8_bits_L4 (fun (k1_1 : Int32) => some k1_1) fuelN 0 a0
set_option maxHeartbeats 4000000 in
set_option maxRecDepth 100000 in
theorem tX8_bits (l : Launch) (dC : Nat → ClassId) (dI : Nat → Nat → Nat) (kI kZ : ClassId) (ad : Nat → Nat) (a0 : Int32) (M : MM)  {r0 : Int32} (h : FX8_bits a0 = some r0) : Met l yX8_bits (wsA yX8_bits cX8_bits 3 (some .int)) ({ frames := 0, cells := 0, slots := 0, locals := 0 } : Room) (va_Pc [.int (a0)] (gI (m_Wd dC dI kI kZ ad) (m_Kn dC dI kI kZ ad) M)) (va_Qi (fun (r : Int32) (u : MM) => r = r0 ∧ u = M) (gI (m_Wd dC dI kI kZ ad) (m_Kn dC dI kI kZ ad)) (m_A ad)) 0 0 (m_A ad) := by
  refine Met.ofW (cc := cX8_bits) (maxL := 3) (ret := (some .int)) (by decide) rfl ?_
  intro p e s m args below meth c s₁ B hml hv
  obtain ⟨rfl, hP, hKn⟩ := hv
  have hx := B.exec
  have hb := B.bytes
  have hr := B.returns
  have hts := atoms_spec (ws := wsA yX8_bits cX8_bits 3 (some .int)) B.pre
  have hg : ∀ w ∈ lw_good, w.before _ s = true := fun w h => hts w (List.mem_cons_of_mem _ h)
  have hown : s.vm.findClass RX8 = some m.cls := findClass_of_methodNamed B.named
  have hlocks := B.notSynchronized
  have hS : va_S (m_A ad) s.heap s.heap [] := va_S.rf
  have hFx : gFix p c cX8_bits 3 s m _ RX8 := ⟨hx, hb, hml, hown, hg⟩
  have hP : va_P (dC, dI) vwCl (m_w kI kZ ad M.1 M.2) s.heap := hP
  have hl := lv_entry ([.int (a0)]) (n := 3) (Nat.le_of_ble_eq_true rfl)
  rw [lg_entry_eq]
  generalize (lg_sl ([.int (a0)]) ++ List.replicate (3 - (lg_sl ([.int (a0)])).length) Slot.unset).toArray = ls at hl ⊢
  have hl : lv_has ls 3 [(0, .int (a0))] := hl
  unfold FX8_bits at h
  refine lv_iconst (v := 0) hx hb dX8_bits_0 (by decide) ?_
  refine lv_istore_n (lv' := [(1, .int (0)), (0, .int (a0))]) hx hb dX8_bits_1 rfl hl (Nat.le_of_ble_eq_true rfl) rfl (fun ls hl => ?_)
  refine lv_iload_n hx hb dX8_bits_2 rfl (lv_at hl 1 rfl) ?_
  refine lv_istore_n (lv' := [(2, .int (a0)), (1, .int (0)), (0, .int (a0))]) hx hb dX8_bits_3 rfl hl (Nat.le_of_ble_eq_true rfl) rfl (fun ls hl => ?_)
  obtain ⟨K4, eK4, h⟩ := exK (Lp := fun K => FX8_bits_L4 K fuelN 0 a0) h
  have hK4 : ∀ (k1_1 : Int32) (H : Heap) (locs : List Loc) (ls : Array Slot), va_P (dC, dI) vwCl (m_w kI kZ ad M.1 M.2) H → va_S (m_A ad) s.heap H locs → lv_has ls 3 [(1, .int (k1_1))] → K4 k1_1 = some r0 → W p l e (headSpec (wsA yX8_bits cX8_bits 3 (some .int)) ({ frames := 0, cells := 0, slots := 0, locals := 0 } : Room)).room s m (([.int (a0)] : List Value).toArray) below meth c H locs 0 0 (MQ below (va_Qi (fun (r : Int32) (u : MM) => r = r0 ∧ u = M) (gI (m_Wd dC dI kI kZ ad) (m_Kn dC dI kI kZ ad)) (m_A ad)) (([.int (a0)] : List Value).toArray) s 0 0 (m_A ad)) (F0 m 20 ls []) := by
    intro k1_1 H locs ls hP hS hl h
    have h := useK1 eK4 h
    refine lv_iload_n hx hb dX8_bits_20 rfl (lv_at hl 0 rfl) ?_
    exact W.iret (v := k1_1) hx hb hr (fun t ht hW => ⟨⟨k1_1, M, rfl, ⟨Option.some.inj h, rfl⟩, by rw [ht]; exact hP, m_KnW hKn t hW⟩, hS.F ht⟩) hS.2.2 dX8_bits_21
  have hL4 : ∀ (k : Nat) (v1_2 : Int32) (v2_3 : Int32) (H : Heap) (locs : List Loc) (ls : Array Slot), va_P (dC, dI) vwCl (m_w kI kZ ad M.1 M.2) H → va_S (m_A ad) s.heap H locs → lv_has ls 3 [(1, .int (v1_2)), (2, .int (v2_3))] → FX8_bits_L4 K4 k v1_2 v2_3 = some r0 → W p l e (headSpec (wsA yX8_bits cX8_bits 3 (some .int)) ({ frames := 0, cells := 0, slots := 0, locals := 0 } : Room)).room s m (([.int (a0)] : List Value).toArray) below meth c H locs 0 0 (MQ below (va_Qi (fun (r : Int32) (u : MM) => r = r0 ∧ u = M) (gI (m_Wd dC dI kI kZ ad) (m_Kn dC dI kI kZ ad)) (m_A ad)) (([.int (a0)] : List Value).toArray) s 0 0 (m_A ad)) (F0 m 4 ls []) := by
    intro k
    induction k with
    | zero => intro v1_2 v2_3 H locs ls hP hS hl h; cases h
    | succ k ih4 =>
      intro v1_2 v2_3 H locs ls hP hS hl h
      unfold FX8_bits_L4 at h
      refine lv_iload_n hx hb dX8_bits_4 rfl (lv_at hl 1 rfl) ?_
      refine lv_if_eq (tgt := 20) hx hb dX8_bits_5 (by decide) (fun c_4 => ?_) (fun c_4 => ?_)
      · have h := ife_t c_4 h
        exact hK4 v1_2 _ _ _ hP hS (lv_sub hl [0] rfl) h
      · have h := ife_f c_4 h
        refine lv_iinc (v := (v1_2 + 1)) (lv' := [(1, .int ((v1_2 + 1))), (2, .int (v2_3))]) hx hb dX8_bits_8 hl (k := 0) rfl rfl (Nat.le_of_ble_eq_true rfl) rfl (fun ls hl => ?_)
        refine lv_iload_n hx hb dX8_bits_11 rfl (lv_at hl 1 rfl) ?_
        refine lv_iload_n hx hb dX8_bits_12 rfl (lv_at hl 1 rfl) ?_
        refine lv_iconst (v := 1) hx hb dX8_bits_13 (by decide) ?_
        refine lv_isub hx hb dX8_bits_14 ?_
        refine lv_iand hx hb dX8_bits_15 ?_
        refine lv_istore_n (lv' := [(2, .int ((v2_3 &&& (v2_3 - 1)))), (1, .int ((v1_2 + 1)))]) hx hb dX8_bits_16 rfl hl (Nat.le_of_ble_eq_true rfl) rfl (fun ls hl => ?_)
        refine lv_goto (tgt := 4) hx hb dX8_bits_17 (by decide) ?_
        exact ih4 (v1_2 + 1) (v2_3 &&& (v2_3 - 1)) _ _ _ hP hS (lv_sub hl [1, 0] rfl) h
  exact hL4 fuelN 0 a0 _ _ _ hP hS (lv_sub hl [1, 0] rfl) h
noncomputable def FX8_bound (a0 : Int32) : Option Int32 :=
  (if 0 ≤ a0 then (if a0 ≤ 20 then some a0 else some 20) else some 0)
set_option maxHeartbeats 4000000 in
set_option maxRecDepth 100000 in
theorem tX8_bound (l : Launch) (dC : Nat → ClassId) (dI : Nat → Nat → Nat) (kI kZ : ClassId) (ad : Nat → Nat) (a0 : Int32) (M : MM)  {r0 : Int32} (h : FX8_bound a0 = some r0) : Met l yX8_bound (wsA yX8_bound cX8_bound 1 (some .int)) ({ frames := 0, cells := 0, slots := 0, locals := 0 } : Room) (va_Pc [.int (a0)] (gI (m_Wd dC dI kI kZ ad) (m_Kn dC dI kI kZ ad) M)) (va_Qi (fun (r : Int32) (u : MM) => r = r0 ∧ u = M) (gI (m_Wd dC dI kI kZ ad) (m_Kn dC dI kI kZ ad)) (m_A ad)) 0 0 (m_A ad) := by
  refine Met.ofW (cc := cX8_bound) (maxL := 1) (ret := (some .int)) (by decide) rfl ?_
  intro p e s m args below meth c s₁ B hml hv
  obtain ⟨rfl, hP, hKn⟩ := hv
  have hx := B.exec
  have hb := B.bytes
  have hr := B.returns
  have hts := atoms_spec (ws := wsA yX8_bound cX8_bound 1 (some .int)) B.pre
  have hg : ∀ w ∈ lw_good, w.before _ s = true := fun w h => hts w (List.mem_cons_of_mem _ h)
  have hown : s.vm.findClass RX8 = some m.cls := findClass_of_methodNamed B.named
  have hlocks := B.notSynchronized
  have hS : va_S (m_A ad) s.heap s.heap [] := va_S.rf
  have hFx : gFix p c cX8_bound 1 s m _ RX8 := ⟨hx, hb, hml, hown, hg⟩
  have hP : va_P (dC, dI) vwCl (m_w kI kZ ad M.1 M.2) s.heap := hP
  have hl := lv_entry ([.int (a0)]) (n := 1) (Nat.le_of_ble_eq_true rfl)
  rw [lg_entry_eq]
  generalize (lg_sl ([.int (a0)]) ++ List.replicate (1 - (lg_sl ([.int (a0)])).length) Slot.unset).toArray = ls at hl ⊢
  have hl : lv_has ls 1 [(0, .int (a0))] := hl
  unfold FX8_bound at h
  refine lv_iload_n hx hb dX8_bound_0 rfl (lv_at hl 0 rfl) ?_
  refine lv_if_ge (tgt := 8) hx hb dX8_bound_1 (by decide) (fun c_1 => ?_) (fun c_1 => ?_)
  · have h := ife_t c_1 h
    refine lv_iload_n hx hb dX8_bound_8 rfl (lv_at hl 0 rfl) ?_
    refine lv_bipush (v := 20) hx hb dX8_bound_9 (by decide) ?_
    refine lv_icmp_le (tgt := 19) hx hb dX8_bound_11 (by decide) (fun c_2 => ?_) (fun c_2 => ?_)
    · have h := ife_t c_2 h
      refine lv_iload_n hx hb dX8_bound_19 rfl (lv_at hl 0 rfl) ?_
      exact W.iret (v := a0) hx hb hr (fun t ht hW => ⟨⟨a0, M, rfl, ⟨Option.some.inj h, rfl⟩, by rw [ht]; exact hP, m_KnW hKn t hW⟩, hS.F ht⟩) hS.2.2 dX8_bound_20
    · have h := ife_f c_2 h
      refine lv_bipush (v := 20) hx hb dX8_bound_14 (by decide) ?_
      refine lv_goto (tgt := 20) hx hb dX8_bound_16 (by decide) ?_
      exact W.iret (v := 20) hx hb hr (fun t ht hW => ⟨⟨20, M, rfl, ⟨Option.some.inj h, rfl⟩, by rw [ht]; exact hP, m_KnW hKn t hW⟩, hS.F ht⟩) hS.2.2 dX8_bound_20
  · have h := ife_f c_1 h
    refine lv_iconst (v := 0) hx hb dX8_bound_4 (by decide) ?_
    refine lv_goto (tgt := 20) hx hb dX8_bound_5 (by decide) ?_
    exact W.iret (v := 0) hx hb hr (fun t ht hW => ⟨⟨0, M, rfl, ⟨Option.some.inj h, rfl⟩, by rw [ht]; exact hP, m_KnW hKn t hW⟩, hS.F ht⟩) hS.2.2 dX8_bound_20
noncomputable def FX8_byOf (a1 : Int32) (M : MM) : Option Int32 :=
  (if inb (18 + a1) 50 then some ((M.1 1 (ix (18 + a1))) - 9) else none)
set_option maxHeartbeats 4000000 in
set_option maxRecDepth 100000 in
theorem tX8_byOf (l : Launch) (dC : Nat → ClassId) (dI : Nat → Nat → Nat) (kI kZ : ClassId) (ad : Nat → Nat) (a1 : Int32) (M : MM)  {r0 : Int32} (h : FX8_byOf a1 M = some r0) : Met l yX8_byOf (wsA yX8_byOf cX8_byOf 2 (some .int)) ({ frames := 0, cells := 0, slots := 0, locals := 0 } : Room) (va_Pc [.ref (ad (0)), .int (a1)] (gI (m_Wd dC dI kI kZ ad) (m_Kn dC dI kI kZ ad) M)) (va_Qi (fun (r : Int32) (u : MM) => r = r0 ∧ u = M) (gI (m_Wd dC dI kI kZ ad) (m_Kn dC dI kI kZ ad)) (m_A ad)) 0 0 (m_A ad) := by
  refine Met.ofW (cc := cX8_byOf) (maxL := 2) (ret := (some .int)) (by decide) rfl ?_
  intro p e s m args below meth c s₁ B hml hv
  obtain ⟨rfl, hP, hKn⟩ := hv
  have hx := B.exec
  have hb := B.bytes
  have hr := B.returns
  have hts := atoms_spec (ws := wsA yX8_byOf cX8_byOf 2 (some .int)) B.pre
  have hg : ∀ w ∈ lw_good, w.before _ s = true := fun w h => hts w (List.mem_cons_of_mem _ h)
  have hown : s.vm.findClass RX8 = some m.cls := findClass_of_methodNamed B.named
  have hlocks := B.notSynchronized
  have hS : va_S (m_A ad) s.heap s.heap [] := va_S.rf
  have hFx : gFix p c cX8_byOf 2 s m _ RX8 := ⟨hx, hb, hml, hown, hg⟩
  have hP : va_P (dC, dI) vwCl (m_w kI kZ ad M.1 M.2) s.heap := hP
  have hl := lv_entry ([.ref (ad (0)), .int (a1)]) (n := 2) (Nat.le_of_ble_eq_true rfl)
  rw [lg_entry_eq]
  generalize (lg_sl ([.ref (ad (0)), .int (a1)]) ++ List.replicate (2 - (lg_sl ([.ref (ad (0)), .int (a1)])).length) Slot.unset).toArray = ls at hl ⊢
  have hl : lv_has ls 2 [(0, .ref (ad (0))), (1, .int (a1))] := hl
  unfold FX8_byOf at h
  refine lv_aload_n hx hb dX8_byOf_0 rfl (lv_at hl 0 rfl) ?_
  refine va_get (D := (dC, dI)) (ci := 8) (v := .ref (ad (1))) (C := RX8) (T := TX8) (N := 29) hx hb hg inX8 hown hKn.1 hP (0) (m_at8 (c := 0) (by decide)) rfl 0 (Nat.le_of_ble_eq_true rfl) (hg _ lkF_X8_7) (fun _ h9 => h9) rfl dX8_byOf_1 ?_
  refine lv_bipush (v := 18) hx hb dX8_byOf_4 (by decide) ?_
  refine lv_iload_n hx hb dX8_byOf_6 rfl (lv_at hl 1 rfl) ?_
  refine lv_iadd hx hb dX8_byOf_7 ?_
  obtain ⟨hi8, h⟩ := if_use h
  refine m_iald (M := M) (a := 1) hx hb hKn hP (by decide) (j := (ix (18 + a1))) rfl hi8 dX8_byOf_8 ?_
  refine lv_bipush (v := 9) hx hb dX8_byOf_9 (by decide) ?_
  refine lv_isub hx hb dX8_byOf_11 ?_
  exact W.iret (v := ((M.1 1 (ix (18 + a1))) - 9)) hx hb hr (fun t ht hW => ⟨⟨((M.1 1 (ix (18 + a1))) - 9), M, rfl, ⟨Option.some.inj h, rfl⟩, by rw [ht]; exact hP, m_KnW hKn t hW⟩, hS.F ht⟩) hS.2.2 dX8_byOf_12
noncomputable def FX8_convinced_L4 (c1 : Nat) (M : MM) (K : Int32 → Option Int32) (k : Nat) (v2_2 : Int32) (v3_3 : Int32) : Option Int32 := match k with
  | 0 => none
  | k + 1 => (if (M.1 1 1) ≤ v3_3 then K v2_2 else (if inb v3_3 (m_len c1) then jn (α := Int32 → Option Int32) (fun (s_5 : Int32) => FX8_convinced_L4 c1 M K k (v2_2 ||| s_5) (v3_3 + 1)) (fun J34 => (if (M.1 c1 (ix v3_3)) < (M.1 1 3) then J34 0 else J34 (1 <<< (v3_3 &&& 31)))) else none))
noncomputable def FX8_convinced (c1 : Nat) (M : MM) : Option Int32 :=
  FX8_convinced_L4 c1 M (fun (k2_1 : Int32) => some k2_1) fuelN 0 0
set_option maxHeartbeats 4000000 in
set_option maxRecDepth 100000 in
theorem tX8_convinced (l : Launch) (dC : Nat → ClassId) (dI : Nat → Nat → Nat) (kI kZ : ClassId) (ad : Nat → Nat) (c1 : Nat) (M : MM) (h1 : m_arr c1) {r0 : Int32} (h : FX8_convinced c1 M = some r0) : Met l yX8_convinced (wsA yX8_convinced cX8_convinced 4 (some .int)) ({ frames := 0, cells := 0, slots := 0, locals := 0 } : Room) (va_Pc [.ref (ad (0)), .ref (ad (c1))] (gI (m_Wd dC dI kI kZ ad) (m_Kn dC dI kI kZ ad) M)) (va_Qi (fun (r : Int32) (u : MM) => r = r0 ∧ u = M) (gI (m_Wd dC dI kI kZ ad) (m_Kn dC dI kI kZ ad)) (m_A ad)) 0 0 (m_A ad) := by
  refine Met.ofW (cc := cX8_convinced) (maxL := 4) (ret := (some .int)) (by decide) rfl ?_
  intro p e s m args below meth c s₁ B hml hv
  obtain ⟨rfl, hP, hKn⟩ := hv
  have hx := B.exec
  have hb := B.bytes
  have hr := B.returns
  have hts := atoms_spec (ws := wsA yX8_convinced cX8_convinced 4 (some .int)) B.pre
  have hg : ∀ w ∈ lw_good, w.before _ s = true := fun w h => hts w (List.mem_cons_of_mem _ h)
  have hown : s.vm.findClass RX8 = some m.cls := findClass_of_methodNamed B.named
  have hlocks := B.notSynchronized
  have hS : va_S (m_A ad) s.heap s.heap [] := va_S.rf
  have hFx : gFix p c cX8_convinced 4 s m _ RX8 := ⟨hx, hb, hml, hown, hg⟩
  have hP : va_P (dC, dI) vwCl (m_w kI kZ ad M.1 M.2) s.heap := hP
  have hl := lv_entry ([.ref (ad (0)), .ref (ad (c1))]) (n := 4) (Nat.le_of_ble_eq_true rfl)
  rw [lg_entry_eq]
  generalize (lg_sl ([.ref (ad (0)), .ref (ad (c1))]) ++ List.replicate (4 - (lg_sl ([.ref (ad (0)), .ref (ad (c1))])).length) Slot.unset).toArray = ls at hl ⊢
  have hl : lv_has ls 4 [(0, .ref (ad (0))), (1, .ref (ad (c1)))] := hl
  unfold FX8_convinced at h
  refine lv_iconst (v := 0) hx hb dX8_convinced_0 (by decide) ?_
  refine lv_istore_n (lv' := [(2, .int (0)), (0, .ref (ad (0))), (1, .ref (ad (c1)))]) hx hb dX8_convinced_1 rfl hl (Nat.le_of_ble_eq_true rfl) rfl (fun ls hl => ?_)
  refine lv_iconst (v := 0) hx hb dX8_convinced_2 (by decide) ?_
  refine lv_istore_n (lv' := [(3, .int (0)), (2, .int (0)), (0, .ref (ad (0))), (1, .ref (ad (c1)))]) hx hb dX8_convinced_3 rfl hl (Nat.le_of_ble_eq_true rfl) rfl (fun ls hl => ?_)
  obtain ⟨K4, eK4, h⟩ := exK (Lp := fun K => FX8_convinced_L4 c1 M K fuelN 0 0) h
  have hK4 : ∀ (k2_1 : Int32) (H : Heap) (locs : List Loc) (ls : Array Slot), va_P (dC, dI) vwCl (m_w kI kZ ad M.1 M.2) H → va_S (m_A ad) s.heap H locs → lv_has ls 4 [(2, .int (k2_1))] → K4 k2_1 = some r0 → W p l e (headSpec (wsA yX8_convinced cX8_convinced 4 (some .int)) ({ frames := 0, cells := 0, slots := 0, locals := 0 } : Room)).room s m (([.ref (ad (0)), .ref (ad (c1))] : List Value).toArray) below meth c H locs 0 0 (MQ below (va_Qi (fun (r : Int32) (u : MM) => r = r0 ∧ u = M) (gI (m_Wd dC dI kI kZ ad) (m_Kn dC dI kI kZ ad)) (m_A ad)) (([.ref (ad (0)), .ref (ad (c1))] : List Value).toArray) s 0 0 (m_A ad)) (F0 m 42 ls []) := by
    intro k2_1 H locs ls hP hS hl h
    have h := useK1 eK4 h
    refine lv_iload_n hx hb dX8_convinced_42 rfl (lv_at hl 0 rfl) ?_
    exact W.iret (v := k2_1) hx hb hr (fun t ht hW => ⟨⟨k2_1, M, rfl, ⟨Option.some.inj h, rfl⟩, by rw [ht]; exact hP, m_KnW hKn t hW⟩, hS.F ht⟩) hS.2.2 dX8_convinced_43
  have hL4 : ∀ (k : Nat) (v2_2 : Int32) (v3_3 : Int32) (H : Heap) (locs : List Loc) (ls : Array Slot), va_P (dC, dI) vwCl (m_w kI kZ ad M.1 M.2) H → va_S (m_A ad) s.heap H locs → lv_has ls 4 [(0, .ref (ad (0))), (1, .ref (ad (c1))), (2, .int (v2_2)), (3, .int (v3_3))] → FX8_convinced_L4 c1 M K4 k v2_2 v3_3 = some r0 → W p l e (headSpec (wsA yX8_convinced cX8_convinced 4 (some .int)) ({ frames := 0, cells := 0, slots := 0, locals := 0 } : Room)).room s m (([.ref (ad (0)), .ref (ad (c1))] : List Value).toArray) below meth c H locs 0 0 (MQ below (va_Qi (fun (r : Int32) (u : MM) => r = r0 ∧ u = M) (gI (m_Wd dC dI kI kZ ad) (m_Kn dC dI kI kZ ad)) (m_A ad)) (([.ref (ad (0)), .ref (ad (c1))] : List Value).toArray) s 0 0 (m_A ad)) (F0 m 4 ls []) := by
    intro k
    induction k with
    | zero => intro v2_2 v3_3 H locs ls hP hS hl h; cases h
    | succ k ih4 =>
      intro v2_2 v3_3 H locs ls hP hS hl h
      unfold FX8_convinced_L4 at h
      refine lv_iload_n hx hb dX8_convinced_4 rfl (lv_at hl 3 rfl) ?_
      refine lv_aload_n hx hb dX8_convinced_5 rfl (lv_at hl 0 rfl) ?_
      refine va_get (D := (dC, dI)) (ci := 8) (v := .ref (ad (1))) (C := RX8) (T := TX8) (N := 29) hx hb hg inX8 hown hKn.1 hP (0) (m_at8 (c := 0) (by decide)) rfl 0 (Nat.le_of_ble_eq_true rfl) (hg _ lkF_X8_7) (fun _ h9 => h9) rfl dX8_convinced_6 ?_
      refine lv_iconst (v := 1) hx hb dX8_convinced_9 (by decide) ?_
      refine m_iald (M := M) (a := 1) hx hb hKn hP (by decide) (j := 1) (by decide) (by decide) dX8_convinced_10 ?_
      refine lv_icmp_ge (tgt := 42) hx hb dX8_convinced_11 (by decide) (fun c_4 => ?_) (fun c_4 => ?_)
      · have h := ife_t c_4 h
        exact hK4 v2_2 _ _ _ hP hS (lv_sub hl [2] rfl) h
      · have h := ife_f c_4 h
        refine lv_iload_n hx hb dX8_convinced_14 rfl (lv_at hl 2 rfl) ?_
        refine lv_aload_n hx hb dX8_convinced_15 rfl (lv_at hl 1 rfl) ?_
        refine lv_iload_n hx hb dX8_convinced_16 rfl (lv_at hl 3 rfl) ?_
        obtain ⟨hi17, h⟩ := if_use h
        refine m_iald (M := M) (a := c1) hx hb hKn hP h1 (j := (ix v3_3)) rfl hi17 dX8_convinced_17 ?_
        refine lv_aload_n hx hb dX8_convinced_18 rfl (lv_at hl 0 rfl) ?_
        refine va_get (D := (dC, dI)) (ci := 8) (v := .ref (ad (1))) (C := RX8) (T := TX8) (N := 29) hx hb hg inX8 hown hKn.1 hP (0) (m_at8 (c := 0) (by decide)) rfl 0 (Nat.le_of_ble_eq_true rfl) (hg _ lkF_X8_7) (fun _ h9 => h9) rfl dX8_convinced_19 ?_
        refine lv_iconst (v := 3) hx hb dX8_convinced_22 (by decide) ?_
        refine m_iald (M := M) (a := 1) hx hb hKn hP (by decide) (j := 3) (by decide) (by decide) dX8_convinced_23 ?_
        obtain ⟨J34, eJ34, h⟩ := jn_use h
        have hJ34 : ∀ (s_5 : Int32) (H : Heap) (locs : List Loc) (ls : Array Slot), va_P (dC, dI) vwCl (m_w kI kZ ad M.1 M.2) H → va_S (m_A ad) s.heap H locs → lv_has ls 4 [(0, .ref (ad (0))), (1, .ref (ad (c1))), (3, .int (v3_3))] → J34 s_5 = some r0 → W p l e (headSpec (wsA yX8_convinced cX8_convinced 4 (some .int)) ({ frames := 0, cells := 0, slots := 0, locals := 0 } : Room)).room s m (([.ref (ad (0)), .ref (ad (c1))] : List Value).toArray) below meth c H locs 0 0 (MQ below (va_Qi (fun (r : Int32) (u : MM) => r = r0 ∧ u = M) (gI (m_Wd dC dI kI kZ ad) (m_Kn dC dI kI kZ ad)) (m_A ad)) (([.ref (ad (0)), .ref (ad (c1))] : List Value).toArray) s 0 0 (m_A ad)) (F0 m 34 ls [.int (s_5), .int (v2_2)]) := by
          intro s_5 H locs ls hP hS hl h
          have h := useK1 eJ34 h
          refine lv_ior hx hb dX8_convinced_34 ?_
          refine lv_istore_n (lv' := [(2, .int ((v2_2 ||| s_5))), (0, .ref (ad (0))), (1, .ref (ad (c1))), (3, .int (v3_3))]) hx hb dX8_convinced_35 rfl hl (Nat.le_of_ble_eq_true rfl) rfl (fun ls hl => ?_)
          refine lv_iinc (v := (v3_3 + 1)) (lv' := [(3, .int ((v3_3 + 1))), (2, .int ((v2_2 ||| s_5))), (0, .ref (ad (0))), (1, .ref (ad (c1)))]) hx hb dX8_convinced_36 hl (k := 3) rfl rfl (Nat.le_of_ble_eq_true rfl) rfl (fun ls hl => ?_)
          refine lv_goto (tgt := 4) hx hb dX8_convinced_39 (by decide) ?_
          exact ih4 (v2_2 ||| s_5) (v3_3 + 1) _ _ _ hP hS (lv_sub hl [2, 3, 1, 0] rfl) h
        refine lv_icmp_lt (tgt := 33) hx hb dX8_convinced_24 (by decide) (fun c_6 => ?_) (fun c_6 => ?_)
        · have h := ife_t c_6 h
          refine lv_iconst (v := 0) hx hb dX8_convinced_33 (by decide) ?_
          exact hJ34 0 _ _ _ hP hS (lv_sub hl [0, 1, 3] rfl) h
        · have h := ife_f c_6 h
          refine lv_iconst (v := 1) hx hb dX8_convinced_27 (by decide) ?_
          refine lv_iload_n hx hb dX8_convinced_28 rfl (lv_at hl 3 rfl) ?_
          refine lv_ishl hx hb dX8_convinced_29 ?_
          refine lv_goto (tgt := 34) hx hb dX8_convinced_30 (by decide) ?_
          exact hJ34 (1 <<< (v3_3 &&& 31)) _ _ _ hP hS (lv_sub hl [0, 1, 3] rfl) h
  exact hL4 fuelN 0 0 _ _ _ hP hS (lv_sub hl [2, 3, 1, 0] rfl) h
noncomputable def FX8_maySheet (a1 : Int32) (a2 : Int32) (M : MM) : Option Int32 :=
  (if (M.1 1 1) ≤ 0 then some 0 else (if (a1 &&& (a2 ^^^ (-1))) = 0 then bo (FX8_bits a1) (fun (r_3 : Int32) => (if (M.1 1 0) < r_3 then some 0 else some 1)) else some 0))
set_option maxHeartbeats 4000000 in
set_option maxRecDepth 100000 in
theorem tX8_maySheet (l : Launch) (dC : Nat → ClassId) (dI : Nat → Nat → Nat) (kI kZ : ClassId) (ad : Nat → Nat) (a1 : Int32) (a2 : Int32) (M : MM)  {r0 : Int32} (h : FX8_maySheet a1 a2 M = some r0) : Met l yX8_maySheet (wsA yX8_maySheet cX8_maySheet 3 (some .boolean)) ({ frames := 1, cells := 0, slots := 0, locals := 22 } : Room) (va_Pc [.ref (ad (0)), .int (a1), .int (a2)] (gI (m_Wd dC dI kI kZ ad) (m_Kn dC dI kI kZ ad) M)) (va_Qi (fun (r : Int32) (u : MM) => r = r0 ∧ u = M) (gI (m_Wd dC dI kI kZ ad) (m_Kn dC dI kI kZ ad)) (m_A ad)) 0 0 (m_A ad) := by
  refine Met.ofW (cc := cX8_maySheet) (maxL := 3) (ret := (some .boolean)) (by decide) rfl ?_
  intro p e s m args below meth c s₁ B hml hv
  obtain ⟨rfl, hP, hKn⟩ := hv
  have hx := B.exec
  have hb := B.bytes
  have hr := B.returns
  have hts := atoms_spec (ws := wsA yX8_maySheet cX8_maySheet 3 (some .boolean)) B.pre
  have hg : ∀ w ∈ lw_good, w.before _ s = true := fun w h => hts w (List.mem_cons_of_mem _ h)
  have hown : s.vm.findClass RX8 = some m.cls := findClass_of_methodNamed B.named
  have hlocks := B.notSynchronized
  have hS : va_S (m_A ad) s.heap s.heap [] := va_S.rf
  have hFx : gFix p c cX8_maySheet 3 s m _ RX8 := ⟨hx, hb, hml, hown, hg⟩
  have hP : va_P (dC, dI) vwCl (m_w kI kZ ad M.1 M.2) s.heap := hP
  have hl := lv_entry ([.ref (ad (0)), .int (a1), .int (a2)]) (n := 3) (Nat.le_of_ble_eq_true rfl)
  rw [lg_entry_eq]
  generalize (lg_sl ([.ref (ad (0)), .int (a1), .int (a2)]) ++ List.replicate (3 - (lg_sl ([.ref (ad (0)), .int (a1), .int (a2)])).length) Slot.unset).toArray = ls at hl ⊢
  have hl : lv_has ls 3 [(0, .ref (ad (0))), (1, .int (a1)), (2, .int (a2))] := hl
  unfold FX8_maySheet at h
  refine lv_aload_n hx hb dX8_maySheet_0 rfl (lv_at hl 0 rfl) ?_
  refine va_get (D := (dC, dI)) (ci := 8) (v := .ref (ad (1))) (C := RX8) (T := TX8) (N := 29) hx hb hg inX8 hown hKn.1 hP (0) (m_at8 (c := 0) (by decide)) rfl 0 (Nat.le_of_ble_eq_true rfl) (hg _ lkF_X8_7) (fun _ h9 => h9) rfl dX8_maySheet_1 ?_
  refine lv_iconst (v := 1) hx hb dX8_maySheet_4 (by decide) ?_
  refine m_iald (M := M) (a := 1) hx hb hKn hP (by decide) (j := 1) (by decide) (by decide) dX8_maySheet_5 ?_
  refine lv_if_le (tgt := 34) hx hb dX8_maySheet_6 (by decide) (fun c_1 => ?_) (fun c_1 => ?_)
  · have h := ife_t c_1 h
    refine lv_iconst (v := 0) hx hb dX8_maySheet_34 (by decide) ?_
    exact W.zret (v := 0) hx hb hr rfl (fun t ht hW => ⟨⟨0, M, rfl, ⟨Option.some.inj h, rfl⟩, by rw [ht]; exact hP, m_KnW hKn t hW⟩, hS.F ht⟩) hS.2.2 dX8_maySheet_35
  · have h := ife_f c_1 h
    refine lv_iload_n hx hb dX8_maySheet_9 rfl (lv_at hl 1 rfl) ?_
    refine lv_iload_n hx hb dX8_maySheet_10 rfl (lv_at hl 2 rfl) ?_
    refine lv_iconst (v := -1) hx hb dX8_maySheet_11 (by decide) ?_
    refine lv_ixor hx hb dX8_maySheet_12 ?_
    refine lv_iand hx hb dX8_maySheet_13 ?_
    refine lv_if_ne (tgt := 34) hx hb dX8_maySheet_14 (by decide) (fun c_2 => ?_) (fun c_2 => ?_)
    · have h := ife_f c_2 h
      refine lv_iconst (v := 0) hx hb dX8_maySheet_34 (by decide) ?_
      exact W.zret (v := 0) hx hb hr rfl (fun t ht hW => ⟨⟨0, M, rfl, ⟨Option.some.inj h, rfl⟩, by rw [ht]; exact hP, m_KnW hKn t hW⟩, hS.F ht⟩) hS.2.2 dX8_maySheet_35
    · have h := ife_t c_2 h
      refine lv_iload_n hx hb dX8_maySheet_17 rfl (lv_at hl 1 rfl) ?_
      obtain ⟨r_3, e18, h⟩ := bo_use h
      refine gc_i (va_runS (As := [.int (a1)]) (rest := []) hFx (tX8_bits l dC dI kI kZ ad a1 M  e18) ⟨(gc_B hFx ck_yX8_bits lkM_X8_162 ⟨Nat.le_of_ble_eq_true rfl, Nat.le_of_ble_eq_true rfl⟩ rfl rfl), hg _ st_yX8_bits⟩ (gp_S m_KnB (m_KnW hKn) hP) rfl rfl hl.1 rfl (lv_room (Nat.le_of_ble_eq_true rfl)) dX8_maySheet_18 ⟨Nat.zero_le _, Nat.zero_le _⟩) hS (fun H locs hP hS => ?_)
      have hP : va_P (dC, dI) vwCl (m_w kI kZ ad M.1 M.2) H := hP
      refine lv_aload_n hx hb dX8_maySheet_21 rfl (lv_at hl 0 rfl) ?_
      refine va_get (D := (dC, dI)) (ci := 8) (v := .ref (ad (1))) (C := RX8) (T := TX8) (N := 29) hx hb hg inX8 hown hKn.1 hP (0) (m_at8 (c := 0) (by decide)) rfl 0 (Nat.le_of_ble_eq_true rfl) (hg _ lkF_X8_7) (fun _ h9 => h9) rfl dX8_maySheet_22 ?_
      refine lv_iconst (v := 0) hx hb dX8_maySheet_25 (by decide) ?_
      refine m_iald (M := M) (a := 1) hx hb hKn hP (by decide) (j := 0) (by decide) (by decide) dX8_maySheet_26 ?_
      refine lv_icmp_gt (tgt := 34) hx hb dX8_maySheet_27 (by decide) (fun c_4 => ?_) (fun c_4 => ?_)
      · have h := ife_t c_4 h
        refine lv_iconst (v := 0) hx hb dX8_maySheet_34 (by decide) ?_
        exact W.zret (v := 0) hx hb hr rfl (fun t ht hW => ⟨⟨0, M, rfl, ⟨Option.some.inj h, rfl⟩, by rw [ht]; exact hP, m_KnW hKn t hW⟩, hS.F ht⟩) hS.2.2 dX8_maySheet_35
      · have h := ife_f c_4 h
        refine lv_iconst (v := 1) hx hb dX8_maySheet_30 (by decide) ?_
        refine lv_goto (tgt := 35) hx hb dX8_maySheet_31 (by decide) ?_
        exact W.zret (v := 1) hx hb hr rfl (fun t ht hW => ⟨⟨1, M, rfl, ⟨Option.some.inj h, rfl⟩, by rw [ht]; exact hP, m_KnW hKn t hW⟩, hS.F ht⟩) hS.2.2 dX8_maySheet_35
noncomputable def FX8_copies_L3 (c0 : Nat) (b1 : Int32) (c2 : Nat) (b3 : Int32) (b4 : Int32) (K : MM → Option MM) (k : Nat) (v5_2 : Int32) (M_3 : MM) : Option MM := match k with
  | 0 => none
  | k + 1 => (if b4 ≤ v5_2 then K M_3 else (if inb (b1 + v5_2) (m_len c0) then (if inb (b3 + v5_2) (m_len c2) then FX8_copies_L3 c0 b1 c2 b3 b4 K k (v5_2 + 1) (um M_3 c2 (ix (b3 + v5_2)) (M_3.1 c0 (ix (b1 + v5_2)))) else none) else none))
noncomputable def FX8_copies (c0 : Nat) (a1 : Int32) (c2 : Nat) (a3 : Int32) (a4 : Int32) (M : MM) : Option MM :=
  FX8_copies_L3 c0 a1 c2 a3 a4 (fun (M_1 : MM) => some M_1) fuelN 0 M
set_option maxHeartbeats 4000000 in
set_option maxRecDepth 100000 in
theorem tX8_copies (l : Launch) (dC : Nat → ClassId) (dI : Nat → Nat → Nat) (kI kZ : ClassId) (ad : Nat → Nat) (c0 : Nat) (a1 : Int32) (c2 : Nat) (a3 : Int32) (a4 : Int32) (M : MM) (h0 : m_arr c0) (h2 : m_arr c2) {M0 : MM} (h : FX8_copies c0 a1 c2 a3 a4 M = some M0) : Met l yX8_copies (wsA yX8_copies cX8_copies 6 none) ({ frames := 0, cells := 0, slots := 0, locals := 0 } : Room) (va_Pc [.ref (ad (c0)), .int (a1), .ref (ad (c2)), .int (a3), .int (a4)] (gI (m_Wd dC dI kI kZ ad) (m_Kn dC dI kI kZ ad) M)) (va_Qv (fun (u : MM) => u = M0) (gI (m_Wd dC dI kI kZ ad) (m_Kn dC dI kI kZ ad)) (m_A ad)) 0 0 (m_A ad) := by
  refine Met.ofW (cc := cX8_copies) (maxL := 6) (ret := none) (by decide) rfl ?_
  intro p e s m args below meth c s₁ B hml hv
  obtain ⟨rfl, hP, hKn⟩ := hv
  have hx := B.exec
  have hb := B.bytes
  have hr := B.returns
  have hts := atoms_spec (ws := wsA yX8_copies cX8_copies 6 none) B.pre
  have hg : ∀ w ∈ lw_good, w.before _ s = true := fun w h => hts w (List.mem_cons_of_mem _ h)
  have hown : s.vm.findClass RX8 = some m.cls := findClass_of_methodNamed B.named
  have hlocks := B.notSynchronized
  have hS : va_S (m_A ad) s.heap s.heap [] := va_S.rf
  have hFx : gFix p c cX8_copies 6 s m _ RX8 := ⟨hx, hb, hml, hown, hg⟩
  have hP : va_P (dC, dI) vwCl (m_w kI kZ ad M.1 M.2) s.heap := hP
  have hl := lv_entry ([.ref (ad (c0)), .int (a1), .ref (ad (c2)), .int (a3), .int (a4)]) (n := 6) (Nat.le_of_ble_eq_true rfl)
  rw [lg_entry_eq]
  generalize (lg_sl ([.ref (ad (c0)), .int (a1), .ref (ad (c2)), .int (a3), .int (a4)]) ++ List.replicate (6 - (lg_sl ([.ref (ad (c0)), .int (a1), .ref (ad (c2)), .int (a3), .int (a4)])).length) Slot.unset).toArray = ls at hl ⊢
  have hl : lv_has ls 6 [(0, .ref (ad (c0))), (1, .int (a1)), (2, .ref (ad (c2))), (3, .int (a3)), (4, .int (a4))] := hl
  unfold FX8_copies at h
  refine lv_iconst (v := 0) hx hb dX8_copies_0 (by decide) ?_
  refine lv_istore (lv' := [(5, .int (0)), (0, .ref (ad (c0))), (1, .int (a1)), (2, .ref (ad (c2))), (3, .int (a3)), (4, .int (a4))]) hx hb dX8_copies_1 hl (Nat.le_of_ble_eq_true rfl) rfl (fun ls hl => ?_)
  obtain ⟨K3, eK3, h⟩ := exK (Lp := fun K => FX8_copies_L3 c0 a1 c2 a3 a4 K fuelN 0 M) h
  have hK3 : ∀ (M_1 : MM) (H : Heap) (locs : List Loc) (ls : Array Slot), va_P (dC, dI) vwCl (m_w kI kZ ad M_1.1 M_1.2) H → va_S (m_A ad) s.heap H locs → lv_has ls 6 [] → K3 M_1 = some M0 → W p l e (headSpec (wsA yX8_copies cX8_copies 6 none) ({ frames := 0, cells := 0, slots := 0, locals := 0 } : Room)).room s m (([.ref (ad (c0)), .int (a1), .ref (ad (c2)), .int (a3), .int (a4)] : List Value).toArray) below meth c H locs 0 0 (MQ below (va_Qv (fun (u : MM) => u = M0) (gI (m_Wd dC dI kI kZ ad) (m_Kn dC dI kI kZ ad)) (m_A ad)) (([.ref (ad (c0)), .int (a1), .ref (ad (c2)), .int (a3), .int (a4)] : List Value).toArray) s 0 0 (m_A ad)) (F0 m 28 ls []) := by
    intro M_1 H locs ls hP hS hl h
    have h := useK1 eK3 h
    exact W.vret hx hb hr (fun t ht hW => ⟨⟨M_1, rfl, Option.some.inj h, by rw [ht]; exact hP, m_KnW hKn t hW⟩, hS.F ht⟩) hS.2.2 dX8_copies_28
  have hL3 : ∀ (k : Nat) (v5_2 : Int32) (M_3 : MM) (H : Heap) (locs : List Loc) (ls : Array Slot), va_P (dC, dI) vwCl (m_w kI kZ ad M_3.1 M_3.2) H → va_S (m_A ad) s.heap H locs → lv_has ls 6 [(0, .ref (ad (c0))), (1, .int (a1)), (2, .ref (ad (c2))), (3, .int (a3)), (4, .int (a4)), (5, .int (v5_2))] → FX8_copies_L3 c0 a1 c2 a3 a4 K3 k v5_2 M_3 = some M0 → W p l e (headSpec (wsA yX8_copies cX8_copies 6 none) ({ frames := 0, cells := 0, slots := 0, locals := 0 } : Room)).room s m (([.ref (ad (c0)), .int (a1), .ref (ad (c2)), .int (a3), .int (a4)] : List Value).toArray) below meth c H locs 0 0 (MQ below (va_Qv (fun (u : MM) => u = M0) (gI (m_Wd dC dI kI kZ ad) (m_Kn dC dI kI kZ ad)) (m_A ad)) (([.ref (ad (c0)), .int (a1), .ref (ad (c2)), .int (a3), .int (a4)] : List Value).toArray) s 0 0 (m_A ad)) (F0 m 3 ls []) := by
    intro k
    induction k with
    | zero => intro v5_2 M_3 H locs ls hP hS hl h; cases h
    | succ k ih3 =>
      intro v5_2 M_3 H locs ls hP hS hl h
      unfold FX8_copies_L3 at h
      refine lv_iload hx hb dX8_copies_3 (lv_at hl 5 rfl) ?_
      refine lv_iload hx hb dX8_copies_5 (lv_at hl 4 rfl) ?_
      refine lv_icmp_ge (tgt := 28) hx hb dX8_copies_7 (by decide) (fun c_4 => ?_) (fun c_4 => ?_)
      · have h := ife_t c_4 h
        exact hK3 M_3 _ _ _ hP hS (lv_sub hl [] rfl) h
      · have h := ife_f c_4 h
        refine lv_aload_n hx hb dX8_copies_10 rfl (lv_at hl 2 rfl) ?_
        refine lv_iload_n hx hb dX8_copies_11 rfl (lv_at hl 3 rfl) ?_
        refine lv_iload hx hb dX8_copies_12 (lv_at hl 5 rfl) ?_
        refine lv_iadd hx hb dX8_copies_14 ?_
        refine lv_aload_n hx hb dX8_copies_15 rfl (lv_at hl 0 rfl) ?_
        refine lv_iload_n hx hb dX8_copies_16 rfl (lv_at hl 1 rfl) ?_
        refine lv_iload hx hb dX8_copies_17 (lv_at hl 5 rfl) ?_
        refine lv_iadd hx hb dX8_copies_19 ?_
        obtain ⟨hi20, h⟩ := if_use h
        refine m_iald (M := M_3) (a := c0) hx hb hKn hP h0 (j := (ix (a1 + v5_2))) rfl hi20 dX8_copies_20 ?_
        obtain ⟨hi21, h⟩ := if_use h
        refine m_iast (M := M_3) (a := c2) hx hb hKn hP hS h2 (x := (M_3.1 c0 (ix (a1 + v5_2)))) (j := (ix (a3 + v5_2))) rfl hi21 dX8_copies_21 (fun H locs hP hS => ?_)
        have hP : va_P (dC, dI) vwCl (m_w kI kZ ad (um M_3 c2 (ix (a3 + v5_2)) (M_3.1 c0 (ix (a1 + v5_2)))).1 (um M_3 c2 (ix (a3 + v5_2)) (M_3.1 c0 (ix (a1 + v5_2)))).2) H := hP
        refine lv_iinc (v := (v5_2 + 1)) (lv' := [(5, .int ((v5_2 + 1))), (0, .ref (ad (c0))), (1, .int (a1)), (2, .ref (ad (c2))), (3, .int (a3)), (4, .int (a4))]) hx hb dX8_copies_22 hl (k := 5) rfl rfl (Nat.le_of_ble_eq_true rfl) rfl (fun ls hl => ?_)
        refine lv_goto (tgt := 3) hx hb dX8_copies_25 (by decide) ?_
        exact ih3 (v5_2 + 1) (um M_3 c2 (ix (a3 + v5_2)) (M_3.1 c0 (ix (a1 + v5_2)))) _ _ _ hP hS (lv_sub hl [1, 2, 3, 4, 5, 0] rfl) h
  exact hL3 fuelN 0 M _ _ _ hP hS (lv_sub hl [1, 2, 3, 4, 5, 0] rfl) h
noncomputable def FX8_has (a0 : Int32) (a1 : Int32) : Option Int32 :=
  (if ((a0 >>> (a1 &&& 31)) &&& 1) = 1 then some 1 else some 0)
set_option maxHeartbeats 4000000 in
set_option maxRecDepth 100000 in
theorem tX8_has (l : Launch) (dC : Nat → ClassId) (dI : Nat → Nat → Nat) (kI kZ : ClassId) (ad : Nat → Nat) (a0 : Int32) (a1 : Int32) (M : MM)  {r0 : Int32} (h : FX8_has a0 a1 = some r0) : Met l yX8_has (wsA yX8_has cX8_has 2 (some .boolean)) ({ frames := 0, cells := 0, slots := 0, locals := 0 } : Room) (va_Pc [.int (a0), .int (a1)] (gI (m_Wd dC dI kI kZ ad) (m_Kn dC dI kI kZ ad) M)) (va_Qi (fun (r : Int32) (u : MM) => r = r0 ∧ u = M) (gI (m_Wd dC dI kI kZ ad) (m_Kn dC dI kI kZ ad)) (m_A ad)) 0 0 (m_A ad) := by
  refine Met.ofW (cc := cX8_has) (maxL := 2) (ret := (some .boolean)) (by decide) rfl ?_
  intro p e s m args below meth c s₁ B hml hv
  obtain ⟨rfl, hP, hKn⟩ := hv
  have hx := B.exec
  have hb := B.bytes
  have hr := B.returns
  have hts := atoms_spec (ws := wsA yX8_has cX8_has 2 (some .boolean)) B.pre
  have hg : ∀ w ∈ lw_good, w.before _ s = true := fun w h => hts w (List.mem_cons_of_mem _ h)
  have hown : s.vm.findClass RX8 = some m.cls := findClass_of_methodNamed B.named
  have hlocks := B.notSynchronized
  have hS : va_S (m_A ad) s.heap s.heap [] := va_S.rf
  have hFx : gFix p c cX8_has 2 s m _ RX8 := ⟨hx, hb, hml, hown, hg⟩
  have hP : va_P (dC, dI) vwCl (m_w kI kZ ad M.1 M.2) s.heap := hP
  have hl := lv_entry ([.int (a0), .int (a1)]) (n := 2) (Nat.le_of_ble_eq_true rfl)
  rw [lg_entry_eq]
  generalize (lg_sl ([.int (a0), .int (a1)]) ++ List.replicate (2 - (lg_sl ([.int (a0), .int (a1)])).length) Slot.unset).toArray = ls at hl ⊢
  have hl : lv_has ls 2 [(0, .int (a0)), (1, .int (a1))] := hl
  unfold FX8_has at h
  refine lv_iload_n hx hb dX8_has_0 rfl (lv_at hl 0 rfl) ?_
  refine lv_iload_n hx hb dX8_has_1 rfl (lv_at hl 1 rfl) ?_
  refine lv_ishr hx hb dX8_has_2 ?_
  refine lv_iconst (v := 1) hx hb dX8_has_3 (by decide) ?_
  refine lv_iand hx hb dX8_has_4 ?_
  refine lv_iconst (v := 1) hx hb dX8_has_5 (by decide) ?_
  refine lv_icmp_ne (tgt := 13) hx hb dX8_has_6 (by decide) (fun c_1 => ?_) (fun c_1 => ?_)
  · have h := ife_f c_1 h
    refine lv_iconst (v := 0) hx hb dX8_has_13 (by decide) ?_
    exact W.zret (v := 0) hx hb hr rfl (fun t ht hW => ⟨⟨0, M, rfl, ⟨Option.some.inj h, rfl⟩, by rw [ht]; exact hP, m_KnW hKn t hW⟩, hS.F ht⟩) hS.2.2 dX8_has_14
  · have h := ife_t c_1 h
    refine lv_iconst (v := 1) hx hb dX8_has_9 (by decide) ?_
    refine lv_goto (tgt := 14) hx hb dX8_has_10 (by decide) ?_
    exact W.zret (v := 1) hx hb hr rfl (fun t ht hW => ⟨⟨1, M, rfl, ⟨Option.some.inj h, rfl⟩, by rw [ht]; exact hP, m_KnW hKn t hW⟩, hS.F ht⟩) hS.2.2 dX8_has_14
noncomputable def FX8_reads (c1 : Nat) (a2 : Int32) (a3 : Int32) (M : MM) : Option (Int32 × MM) :=
  (if inb (10 + a2) 50 then (if inb (26 + a2) 50 then (if inb (M.1 1 (ix (10 + a2))) (m_len c1) then jn (α := MM → Option (Int32 × MM)) (fun (M_1 : MM) => (if inb (5 + a2) (m_len c1) then (if inb (5 + a2) (m_len c1) then (if ((um M_1 c1 (ix (5 + a2)) ((M_1.1 c1 (ix (5 + a2))) + 1)).1 1 3) ≤ (M.1 c1 (ix (M.1 1 (ix (10 + a2))))) then some (0, um M_1 c1 (ix (5 + a2)) ((M_1.1 c1 (ix (5 + a2))) + 1)) else (if inb (M.1 1 (ix (10 + a2))) (m_len c1) then (if ((um M_1 c1 (ix (5 + a2)) ((M_1.1 c1 (ix (5 + a2))) + 1)).1 c1 (ix (M.1 1 (ix (10 + a2))))) < ((um M_1 c1 (ix (5 + a2)) ((M_1.1 c1 (ix (5 + a2))) + 1)).1 1 3) then some (0, um M_1 c1 (ix (5 + a2)) ((M_1.1 c1 (ix (5 + a2))) + 1)) else some (1, um M_1 c1 (ix (5 + a2)) ((M_1.1 c1 (ix (5 + a2))) + 1))) else none)) else none) else none)) (fun J72 => jn (α := Option (Int32 × MM)) ((if inb (M.1 1 (ix (10 + a2))) (m_len c1) then (if inb (5 + a2) (m_len c1) then (if (1 + (M.1 c1 (ix (5 + a2)))) = 0 then none else bo (FX8_bound ((M.1 c1 (ix (M.1 1 (ix (10 + a2))))) + (a3 / (1 + (M.1 c1 (ix (5 + a2))))))) (fun (r_4 : Int32) => (if inb (M.1 1 (ix (10 + a2))) (m_len c1) then J72 (um M c1 (ix (M.1 1 (ix (10 + a2)))) r_4) else none))) else none) else none)) (fun J51 => (if (M.1 1 (ix (26 + a2))) = 9 then J51 else (if inb (M.1 1 (ix (26 + a2))) (m_len c1) then (if inb (34 + a2) 50 then (if (M.1 c1 (ix (M.1 1 (ix (26 + a2))))) < (M.1 1 (ix (34 + a2))) then J72 M else J51) else none) else none)))) else none) else none) else none)
set_option maxHeartbeats 4000000 in
set_option maxRecDepth 100000 in
theorem tX8_reads (l : Launch) (dC : Nat → ClassId) (dI : Nat → Nat → Nat) (kI kZ : ClassId) (ad : Nat → Nat) (c1 : Nat) (a2 : Int32) (a3 : Int32) (M : MM) (h1 : m_arr c1) {r0 : Int32} {M0 : MM} (h : FX8_reads c1 a2 a3 M = some (r0, M0)) : Met l yX8_reads (wsA yX8_reads cX8_reads 7 (some .boolean)) ({ frames := 1, cells := 0, slots := 0, locals := 20 } : Room) (va_Pc [.ref (ad (0)), .ref (ad (c1)), .int (a2), .int (a3)] (gI (m_Wd dC dI kI kZ ad) (m_Kn dC dI kI kZ ad) M)) (va_Qi (fun (r : Int32) (u : MM) => r = r0 ∧ u = M0) (gI (m_Wd dC dI kI kZ ad) (m_Kn dC dI kI kZ ad)) (m_A ad)) 0 0 (m_A ad) := by
  refine Met.ofW (cc := cX8_reads) (maxL := 7) (ret := (some .boolean)) (by decide) rfl ?_
  intro p e s m args below meth c s₁ B hml hv
  obtain ⟨rfl, hP, hKn⟩ := hv
  have hx := B.exec
  have hb := B.bytes
  have hr := B.returns
  have hts := atoms_spec (ws := wsA yX8_reads cX8_reads 7 (some .boolean)) B.pre
  have hg : ∀ w ∈ lw_good, w.before _ s = true := fun w h => hts w (List.mem_cons_of_mem _ h)
  have hown : s.vm.findClass RX8 = some m.cls := findClass_of_methodNamed B.named
  have hlocks := B.notSynchronized
  have hS : va_S (m_A ad) s.heap s.heap [] := va_S.rf
  have hFx : gFix p c cX8_reads 7 s m _ RX8 := ⟨hx, hb, hml, hown, hg⟩
  have hP : va_P (dC, dI) vwCl (m_w kI kZ ad M.1 M.2) s.heap := hP
  have hl := lv_entry ([.ref (ad (0)), .ref (ad (c1)), .int (a2), .int (a3)]) (n := 7) (Nat.le_of_ble_eq_true rfl)
  rw [lg_entry_eq]
  generalize (lg_sl ([.ref (ad (0)), .ref (ad (c1)), .int (a2), .int (a3)]) ++ List.replicate (7 - (lg_sl ([.ref (ad (0)), .ref (ad (c1)), .int (a2), .int (a3)])).length) Slot.unset).toArray = ls at hl ⊢
  have hl : lv_has ls 7 [(0, .ref (ad (0))), (1, .ref (ad (c1))), (2, .int (a2)), (3, .int (a3))] := hl
  unfold FX8_reads at h
  refine lv_aload_n hx hb dX8_reads_0 rfl (lv_at hl 0 rfl) ?_
  refine va_get (D := (dC, dI)) (ci := 8) (v := .ref (ad (1))) (C := RX8) (T := TX8) (N := 29) hx hb hg inX8 hown hKn.1 hP (0) (m_at8 (c := 0) (by decide)) rfl 0 (Nat.le_of_ble_eq_true rfl) (hg _ lkF_X8_7) (fun _ h9 => h9) rfl dX8_reads_1 ?_
  refine lv_bipush (v := 10) hx hb dX8_reads_4 (by decide) ?_
  refine lv_iload_n hx hb dX8_reads_6 rfl (lv_at hl 2 rfl) ?_
  refine lv_iadd hx hb dX8_reads_7 ?_
  obtain ⟨hi8, h⟩ := if_use h
  refine m_iald (M := M) (a := 1) hx hb hKn hP (by decide) (j := (ix (10 + a2))) rfl hi8 dX8_reads_8 ?_
  refine lv_istore (lv' := [(4, .int ((M.1 1 (ix (10 + a2))))), (0, .ref (ad (0))), (1, .ref (ad (c1))), (2, .int (a2)), (3, .int (a3))]) hx hb dX8_reads_9 hl (Nat.le_of_ble_eq_true rfl) rfl (fun ls hl => ?_)
  refine lv_aload_n hx hb dX8_reads_11 rfl (lv_at hl 1 rfl) ?_
  refine va_get (D := (dC, dI)) (ci := 8) (v := .ref (ad (1))) (C := RX8) (T := TX8) (N := 29) hx hb hg inX8 hown hKn.1 hP (0) (m_at8 (c := 0) (by decide)) rfl 0 (Nat.le_of_ble_eq_true rfl) (hg _ lkF_X8_7) (fun _ h9 => h9) rfl dX8_reads_12 ?_
  refine lv_bipush (v := 26) hx hb dX8_reads_15 (by decide) ?_
  refine lv_iload_n hx hb dX8_reads_17 rfl (lv_at hl 3 rfl) ?_
  refine lv_iadd hx hb dX8_reads_18 ?_
  obtain ⟨hi19, h⟩ := if_use h
  refine m_iald (M := M) (a := 1) hx hb hKn hP (by decide) (j := (ix (26 + a2))) rfl hi19 dX8_reads_19 ?_
  refine lv_istore (lv' := [(5, .int ((M.1 1 (ix (26 + a2))))), (4, .int ((M.1 1 (ix (10 + a2))))), (0, .ref (ad (0))), (1, .ref (ad (c1))), (2, .int (a2)), (3, .int (a3))]) hx hb dX8_reads_20 hl (Nat.le_of_ble_eq_true rfl) rfl (fun ls hl => ?_)
  refine lv_aload_n hx hb dX8_reads_22 rfl (lv_at hl 3 rfl) ?_
  refine lv_iload hx hb dX8_reads_23 (lv_at hl 1 rfl) ?_
  obtain ⟨hi25, h⟩ := if_use h
  refine m_iald (M := M) (a := c1) hx hb hKn hP h1 (j := (ix (M.1 1 (ix (10 + a2))))) rfl hi25 dX8_reads_25 ?_
  refine lv_istore (lv' := [(6, .int ((M.1 c1 (ix (M.1 1 (ix (10 + a2))))))), (5, .int ((M.1 1 (ix (26 + a2))))), (4, .int ((M.1 1 (ix (10 + a2))))), (0, .ref (ad (0))), (1, .ref (ad (c1))), (2, .int (a2)), (3, .int (a3))]) hx hb dX8_reads_26 hl (Nat.le_of_ble_eq_true rfl) rfl (fun ls hl => ?_)
  refine lv_iload hx hb dX8_reads_28 (lv_at hl 1 rfl) ?_
  refine lv_bipush (v := 9) hx hb dX8_reads_30 (by decide) ?_
  obtain ⟨J72, eJ72, h⟩ := jn_use h
  have hJ72 : ∀ (M_1 : MM) (H : Heap) (locs : List Loc) (ls : Array Slot), va_P (dC, dI) vwCl (m_w kI kZ ad M_1.1 M_1.2) H → va_S (m_A ad) s.heap H locs → lv_has ls 7 [(6, .int ((M.1 c1 (ix (M.1 1 (ix (10 + a2))))))), (4, .int ((M.1 1 (ix (10 + a2))))), (0, .ref (ad (0))), (1, .ref (ad (c1))), (2, .int (a2))] → J72 M_1 = some (r0, M0) → W p l e (headSpec (wsA yX8_reads cX8_reads 7 (some .boolean)) ({ frames := 1, cells := 0, slots := 0, locals := 20 } : Room)).room s m (([.ref (ad (0)), .ref (ad (c1)), .int (a2), .int (a3)] : List Value).toArray) below meth c H locs 0 0 (MQ below (va_Qi (fun (r : Int32) (u : MM) => r = r0 ∧ u = M0) (gI (m_Wd dC dI kI kZ ad) (m_Kn dC dI kI kZ ad)) (m_A ad)) (([.ref (ad (0)), .ref (ad (c1)), .int (a2), .int (a3)] : List Value).toArray) s 0 0 (m_A ad)) (F0 m 72 ls []) := by
    intro M_1 H locs ls hP hS hl h
    have h := useK1 eJ72 h
    refine lv_aload_n hx hb dX8_reads_72 rfl (lv_at hl 3 rfl) ?_
    refine lv_iconst (v := 5) hx hb dX8_reads_73 (by decide) ?_
    refine lv_iload_n hx hb dX8_reads_74 rfl (lv_at hl 4 rfl) ?_
    refine lv_iadd hx hb dX8_reads_75 ?_
    refine lv_dup2_11 hx hb dX8_reads_76 rfl rfl ?_
    obtain ⟨hi77, h⟩ := if_use h
    refine m_iald (M := M_1) (a := c1) hx hb hKn hP h1 (j := (ix (5 + a2))) rfl hi77 dX8_reads_77 ?_
    refine lv_iconst (v := 1) hx hb dX8_reads_78 (by decide) ?_
    refine lv_iadd hx hb dX8_reads_79 ?_
    obtain ⟨hi80, h⟩ := if_use h
    refine m_iast (M := M_1) (a := c1) hx hb hKn hP hS h1 (x := ((M_1.1 c1 (ix (5 + a2))) + 1)) (j := (ix (5 + a2))) rfl hi80 dX8_reads_80 (fun H locs hP hS => ?_)
    have hP : va_P (dC, dI) vwCl (m_w kI kZ ad (um M_1 c1 (ix (5 + a2)) ((M_1.1 c1 (ix (5 + a2))) + 1)).1 (um M_1 c1 (ix (5 + a2)) ((M_1.1 c1 (ix (5 + a2))) + 1)).2) H := hP
    refine lv_iload hx hb dX8_reads_81 (lv_at hl 0 rfl) ?_
    refine lv_aload_n hx hb dX8_reads_83 rfl (lv_at hl 2 rfl) ?_
    refine va_get (D := (dC, dI)) (ci := 8) (v := .ref (ad (1))) (C := RX8) (T := TX8) (N := 29) hx hb hg inX8 hown hKn.1 hP (0) (m_at8 (c := 0) (by decide)) rfl 0 (Nat.le_of_ble_eq_true rfl) (hg _ lkF_X8_7) (fun _ h9 => h9) rfl dX8_reads_84 ?_
    refine lv_iconst (v := 3) hx hb dX8_reads_87 (by decide) ?_
    refine m_iald (M := (um M_1 c1 (ix (5 + a2)) ((M_1.1 c1 (ix (5 + a2))) + 1))) (a := 1) hx hb hKn hP (by decide) (j := 3) (by decide) (by decide) dX8_reads_88 ?_
    refine lv_icmp_ge (tgt := 109) hx hb dX8_reads_89 (by decide) (fun c_2 => ?_) (fun c_2 => ?_)
    · have h := ife_t c_2 h
      refine lv_iconst (v := 0) hx hb dX8_reads_109 (by decide) ?_
      exact W.zret (v := 0) hx hb hr rfl (fun t ht hW => ⟨⟨0, um M_1 c1 (ix (5 + a2)) ((M_1.1 c1 (ix (5 + a2))) + 1), rfl, Prod.mk.inj (Option.some.inj h), by rw [ht]; exact hP, m_KnW hKn t hW⟩, hS.F ht⟩) hS.2.2 dX8_reads_110
    · have h := ife_f c_2 h
      refine lv_aload_n hx hb dX8_reads_92 rfl (lv_at hl 3 rfl) ?_
      refine lv_iload hx hb dX8_reads_93 (lv_at hl 1 rfl) ?_
      obtain ⟨hi95, h⟩ := if_use h
      refine m_iald (M := (um M_1 c1 (ix (5 + a2)) ((M_1.1 c1 (ix (5 + a2))) + 1))) (a := c1) hx hb hKn hP h1 (j := (ix (M.1 1 (ix (10 + a2))))) rfl hi95 dX8_reads_95 ?_
      refine lv_aload_n hx hb dX8_reads_96 rfl (lv_at hl 2 rfl) ?_
      refine va_get (D := (dC, dI)) (ci := 8) (v := .ref (ad (1))) (C := RX8) (T := TX8) (N := 29) hx hb hg inX8 hown hKn.1 hP (0) (m_at8 (c := 0) (by decide)) rfl 0 (Nat.le_of_ble_eq_true rfl) (hg _ lkF_X8_7) (fun _ h9 => h9) rfl dX8_reads_97 ?_
      refine lv_iconst (v := 3) hx hb dX8_reads_100 (by decide) ?_
      refine m_iald (M := (um M_1 c1 (ix (5 + a2)) ((M_1.1 c1 (ix (5 + a2))) + 1))) (a := 1) hx hb hKn hP (by decide) (j := 3) (by decide) (by decide) dX8_reads_101 ?_
      refine lv_icmp_lt (tgt := 109) hx hb dX8_reads_102 (by decide) (fun c_3 => ?_) (fun c_3 => ?_)
      · have h := ife_t c_3 h
        refine lv_iconst (v := 0) hx hb dX8_reads_109 (by decide) ?_
        exact W.zret (v := 0) hx hb hr rfl (fun t ht hW => ⟨⟨0, um M_1 c1 (ix (5 + a2)) ((M_1.1 c1 (ix (5 + a2))) + 1), rfl, Prod.mk.inj (Option.some.inj h), by rw [ht]; exact hP, m_KnW hKn t hW⟩, hS.F ht⟩) hS.2.2 dX8_reads_110
      · have h := ife_f c_3 h
        refine lv_iconst (v := 1) hx hb dX8_reads_105 (by decide) ?_
        refine lv_goto (tgt := 110) hx hb dX8_reads_106 (by decide) ?_
        exact W.zret (v := 1) hx hb hr rfl (fun t ht hW => ⟨⟨1, um M_1 c1 (ix (5 + a2)) ((M_1.1 c1 (ix (5 + a2))) + 1), rfl, Prod.mk.inj (Option.some.inj h), by rw [ht]; exact hP, m_KnW hKn t hW⟩, hS.F ht⟩) hS.2.2 dX8_reads_110
  obtain ⟨J51, eJ51, h⟩ := jn_use h
  have hJ51 : ∀  (H : Heap) (locs : List Loc) (ls : Array Slot), va_P (dC, dI) vwCl (m_w kI kZ ad M.1 M.2) H → va_S (m_A ad) s.heap H locs → lv_has ls 7 [(6, .int ((M.1 c1 (ix (M.1 1 (ix (10 + a2))))))), (4, .int ((M.1 1 (ix (10 + a2))))), (0, .ref (ad (0))), (1, .ref (ad (c1))), (2, .int (a2)), (3, .int (a3))] → J51  = some (r0, M0) → W p l e (headSpec (wsA yX8_reads cX8_reads 7 (some .boolean)) ({ frames := 1, cells := 0, slots := 0, locals := 20 } : Room)).room s m (([.ref (ad (0)), .ref (ad (c1)), .int (a2), .int (a3)] : List Value).toArray) below meth c H locs 0 0 (MQ below (va_Qi (fun (r : Int32) (u : MM) => r = r0 ∧ u = M0) (gI (m_Wd dC dI kI kZ ad) (m_Kn dC dI kI kZ ad)) (m_A ad)) (([.ref (ad (0)), .ref (ad (c1)), .int (a2), .int (a3)] : List Value).toArray) s 0 0 (m_A ad)) (F0 m 51 ls []) := by
    intro  H locs ls hP hS hl h
    have h := useK0 eJ51 h
    refine lv_aload_n hx hb dX8_reads_51 rfl (lv_at hl 3 rfl) ?_
    refine lv_iload hx hb dX8_reads_52 (lv_at hl 1 rfl) ?_
    refine lv_aload_n hx hb dX8_reads_54 rfl (lv_at hl 3 rfl) ?_
    refine lv_iload hx hb dX8_reads_55 (lv_at hl 1 rfl) ?_
    obtain ⟨hi57, h⟩ := if_use h
    refine m_iald (M := M) (a := c1) hx hb hKn hP h1 (j := (ix (M.1 1 (ix (10 + a2))))) rfl hi57 dX8_reads_57 ?_
    refine lv_iload_n hx hb dX8_reads_58 rfl (lv_at hl 5 rfl) ?_
    refine lv_iconst (v := 1) hx hb dX8_reads_59 (by decide) ?_
    refine lv_aload_n hx hb dX8_reads_60 rfl (lv_at hl 3 rfl) ?_
    refine lv_iconst (v := 5) hx hb dX8_reads_61 (by decide) ?_
    refine lv_iload_n hx hb dX8_reads_62 rfl (lv_at hl 4 rfl) ?_
    refine lv_iadd hx hb dX8_reads_63 ?_
    obtain ⟨hi64, h⟩ := if_use h
    refine m_iald (M := M) (a := c1) hx hb hKn hP h1 (j := (ix (5 + a2))) rfl hi64 dX8_reads_64 ?_
    refine lv_iadd hx hb dX8_reads_65 ?_
    obtain ⟨hd66, h⟩ := ifn_use h
    refine lv_idiv hx hb dX8_reads_66 hd66 ?_
    refine lv_iadd hx hb dX8_reads_67 ?_
    obtain ⟨r_4, e68, h⟩ := bo_use h
    refine gc_i (va_runS (As := [.int (((M.1 c1 (ix (M.1 1 (ix (10 + a2))))) + (a3 / (1 + (M.1 c1 (ix (5 + a2)))))))]) (rest := [.int ((M.1 1 (ix (10 + a2)))), .ref (ad (c1))]) hFx (tX8_bound l dC dI kI kZ ad ((M.1 c1 (ix (M.1 1 (ix (10 + a2))))) + (a3 / (1 + (M.1 c1 (ix (5 + a2)))))) M  e68) ⟨(gc_B hFx ck_yX8_bound lkM_X8_151 ⟨Nat.le_of_ble_eq_true rfl, Nat.le_of_ble_eq_true rfl⟩ rfl rfl), hg _ st_yX8_bound⟩ (gp_S m_KnB (m_KnW hKn) hP) rfl rfl hl.1 rfl (lv_room (Nat.le_of_ble_eq_true rfl)) dX8_reads_68 ⟨Nat.zero_le _, Nat.zero_le _⟩) hS (fun H locs hP hS => ?_)
    have hP : va_P (dC, dI) vwCl (m_w kI kZ ad M.1 M.2) H := hP
    obtain ⟨hi71, h⟩ := if_use h
    refine m_iast (M := M) (a := c1) hx hb hKn hP hS h1 (x := r_4) (j := (ix (M.1 1 (ix (10 + a2))))) rfl hi71 dX8_reads_71 (fun H locs hP hS => ?_)
    have hP : va_P (dC, dI) vwCl (m_w kI kZ ad (um M c1 (ix (M.1 1 (ix (10 + a2)))) r_4).1 (um M c1 (ix (M.1 1 (ix (10 + a2)))) r_4).2) H := hP
    exact hJ72 (um M c1 (ix (M.1 1 (ix (10 + a2)))) r_4) _ _ _ hP hS (lv_sub hl [0, 1, 2, 3, 4] rfl) h
  refine lv_icmp_eq (tgt := 51) hx hb dX8_reads_32 (by decide) (fun c_5 => ?_) (fun c_5 => ?_)
  · have h := ife_t c_5 h
    exact hJ51 _ _ _ hP hS (lv_sub hl [0, 2, 3, 4, 5, 6] rfl) h
  · have h := ife_f c_5 h
    refine lv_aload_n hx hb dX8_reads_35 rfl (lv_at hl 4 rfl) ?_
    refine lv_iload hx hb dX8_reads_36 (lv_at hl 1 rfl) ?_
    obtain ⟨hi38, h⟩ := if_use h
    refine m_iald (M := M) (a := c1) hx hb hKn hP h1 (j := (ix (M.1 1 (ix (26 + a2))))) rfl hi38 dX8_reads_38 ?_
    refine lv_aload_n hx hb dX8_reads_39 rfl (lv_at hl 3 rfl) ?_
    refine va_get (D := (dC, dI)) (ci := 8) (v := .ref (ad (1))) (C := RX8) (T := TX8) (N := 29) hx hb hg inX8 hown hKn.1 hP (0) (m_at8 (c := 0) (by decide)) rfl 0 (Nat.le_of_ble_eq_true rfl) (hg _ lkF_X8_7) (fun _ h9 => h9) rfl dX8_reads_40 ?_
    refine lv_bipush (v := 34) hx hb dX8_reads_43 (by decide) ?_
    refine lv_iload_n hx hb dX8_reads_45 rfl (lv_at hl 5 rfl) ?_
    refine lv_iadd hx hb dX8_reads_46 ?_
    obtain ⟨hi47, h⟩ := if_use h
    refine m_iald (M := M) (a := 1) hx hb hKn hP (by decide) (j := (ix (34 + a2))) rfl hi47 dX8_reads_47 ?_
    refine lv_icmp_lt (tgt := 72) hx hb dX8_reads_48 (by decide) (fun c_6 => ?_) (fun c_6 => ?_)
    · have h := ife_t c_6 h
      exact hJ72 M _ _ _ hP hS (lv_sub hl [0, 2, 3, 4, 5] rfl) h
    · have h := ife_f c_6 h
      exact hJ51 _ _ _ hP hS (lv_sub hl [0, 2, 3, 4, 5, 6] rfl) h
noncomputable def FX8_readsSheet_L5 (c1 : Nat) (b2 : Int32) (K : Int32 → MM → Option (Int32 × MM)) (k : Nat) (v3_3 : Int32) (v4_4 : Int32) (M_5 : MM) : Option (Int32 × MM) := match k with
  | 0 => none
  | k + 1 => (if (M_5.1 1 2) ≤ v4_4 then K v3_3 M_5 else bo (FX8_has b2 v4_4) (fun (r_7 : Int32) => jn (α := Int32 → MM → Option (Int32 × MM)) (fun (j3_8 : Int32) (M_9 : MM) => FX8_readsSheet_L5 c1 b2 K k j3_8 (v4_4 + 1) M_9) (fun J57 => (if r_7 = 0 then J57 v3_3 M_5 else bo (FX8_byOf v4_4 M_5) (fun (r_11 : Int32) => bd (FX8_reads c1 v4_4 r_11 M_5) (fun (r_12 : Int32) (M_13 : MM) => jn (α := Int32 → Option (Int32 × MM)) (fun (s_14 : Int32) => J57 s_14 M_13) (fun J56 => jn (α := Option (Int32 × MM)) (J56 v3_3) (fun J55 => (if r_12 = 0 then J55 else (if v3_3 = (-1) then J56 v4_4 else J55))))))))))
noncomputable def FX8_readsSheet (c1 : Nat) (a2 : Int32) (M : MM) : Option (Int32 × MM) :=
  FX8_readsSheet_L5 c1 a2 (fun (k3_1 : Int32) (M_2 : MM) => some (k3_1, M_2)) fuelN (-1) 0 M
set_option maxHeartbeats 4000000 in
set_option maxRecDepth 100000 in
theorem tX8_readsSheet (l : Launch) (dC : Nat → ClassId) (dI : Nat → Nat → Nat) (kI kZ : ClassId) (ad : Nat → Nat) (c1 : Nat) (a2 : Int32) (M : MM) (h1 : m_arr c1) {r0 : Int32} {M0 : MM} (h : FX8_readsSheet c1 a2 M = some (r0, M0)) : Met l yX8_readsSheet (wsA yX8_readsSheet cX8_readsSheet 6 (some .int)) ({ frames := 2, cells := 0, slots := 0, locals := 46 } : Room) (va_Pc [.ref (ad (0)), .ref (ad (c1)), .int (a2)] (gI (m_Wd dC dI kI kZ ad) (m_Kn dC dI kI kZ ad) M)) (va_Qi (fun (r : Int32) (u : MM) => r = r0 ∧ u = M0) (gI (m_Wd dC dI kI kZ ad) (m_Kn dC dI kI kZ ad)) (m_A ad)) 0 0 (m_A ad) := by
  refine Met.ofW (cc := cX8_readsSheet) (maxL := 6) (ret := (some .int)) (by decide) rfl ?_
  intro p e s m args below meth c s₁ B hml hv
  obtain ⟨rfl, hP, hKn⟩ := hv
  have hx := B.exec
  have hb := B.bytes
  have hr := B.returns
  have hts := atoms_spec (ws := wsA yX8_readsSheet cX8_readsSheet 6 (some .int)) B.pre
  have hg : ∀ w ∈ lw_good, w.before _ s = true := fun w h => hts w (List.mem_cons_of_mem _ h)
  have hown : s.vm.findClass RX8 = some m.cls := findClass_of_methodNamed B.named
  have hlocks := B.notSynchronized
  have hS : va_S (m_A ad) s.heap s.heap [] := va_S.rf
  have hFx : gFix p c cX8_readsSheet 6 s m _ RX8 := ⟨hx, hb, hml, hown, hg⟩
  have hP : va_P (dC, dI) vwCl (m_w kI kZ ad M.1 M.2) s.heap := hP
  have hl := lv_entry ([.ref (ad (0)), .ref (ad (c1)), .int (a2)]) (n := 6) (Nat.le_of_ble_eq_true rfl)
  rw [lg_entry_eq]
  generalize (lg_sl ([.ref (ad (0)), .ref (ad (c1)), .int (a2)]) ++ List.replicate (6 - (lg_sl ([.ref (ad (0)), .ref (ad (c1)), .int (a2)])).length) Slot.unset).toArray = ls at hl ⊢
  have hl : lv_has ls 6 [(0, .ref (ad (0))), (1, .ref (ad (c1))), (2, .int (a2))] := hl
  unfold FX8_readsSheet at h
  refine lv_iconst (v := -1) hx hb dX8_readsSheet_0 (by decide) ?_
  refine lv_istore_n (lv' := [(3, .int ((-1))), (0, .ref (ad (0))), (1, .ref (ad (c1))), (2, .int (a2))]) hx hb dX8_readsSheet_1 rfl hl (Nat.le_of_ble_eq_true rfl) rfl (fun ls hl => ?_)
  refine lv_iconst (v := 0) hx hb dX8_readsSheet_2 (by decide) ?_
  refine lv_istore (lv' := [(4, .int (0)), (3, .int ((-1))), (0, .ref (ad (0))), (1, .ref (ad (c1))), (2, .int (a2))]) hx hb dX8_readsSheet_3 hl (Nat.le_of_ble_eq_true rfl) rfl (fun ls hl => ?_)
  obtain ⟨K5, eK5, h⟩ := exK (Lp := fun K => FX8_readsSheet_L5 c1 a2 K fuelN (-1) 0 M) h
  have hK5 : ∀ (k3_1 : Int32) (M_2 : MM) (H : Heap) (locs : List Loc) (ls : Array Slot), va_P (dC, dI) vwCl (m_w kI kZ ad M_2.1 M_2.2) H → va_S (m_A ad) s.heap H locs → lv_has ls 6 [(3, .int (k3_1))] → K5 k3_1 M_2 = some (r0, M0) → W p l e (headSpec (wsA yX8_readsSheet cX8_readsSheet 6 (some .int)) ({ frames := 2, cells := 0, slots := 0, locals := 46 } : Room)).room s m (([.ref (ad (0)), .ref (ad (c1)), .int (a2)] : List Value).toArray) below meth c H locs 0 0 (MQ below (va_Qi (fun (r : Int32) (u : MM) => r = r0 ∧ u = M0) (gI (m_Wd dC dI kI kZ ad) (m_Kn dC dI kI kZ ad)) (m_A ad)) (([.ref (ad (0)), .ref (ad (c1)), .int (a2)] : List Value).toArray) s 0 0 (m_A ad)) (F0 m 63 ls []) := by
    intro k3_1 M_2 H locs ls hP hS hl h
    have h := useK2 eK5 h
    refine lv_iload_n hx hb dX8_readsSheet_63 rfl (lv_at hl 0 rfl) ?_
    exact W.iret (v := k3_1) hx hb hr (fun t ht hW => ⟨⟨k3_1, M_2, rfl, Prod.mk.inj (Option.some.inj h), by rw [ht]; exact hP, m_KnW hKn t hW⟩, hS.F ht⟩) hS.2.2 dX8_readsSheet_64
  have hL5 : ∀ (k : Nat) (v3_3 : Int32) (v4_4 : Int32) (M_5 : MM) (H : Heap) (locs : List Loc) (ls : Array Slot), va_P (dC, dI) vwCl (m_w kI kZ ad M_5.1 M_5.2) H → va_S (m_A ad) s.heap H locs → lv_has ls 6 [(0, .ref (ad (0))), (1, .ref (ad (c1))), (2, .int (a2)), (3, .int (v3_3)), (4, .int (v4_4))] → FX8_readsSheet_L5 c1 a2 K5 k v3_3 v4_4 M_5 = some (r0, M0) → W p l e (headSpec (wsA yX8_readsSheet cX8_readsSheet 6 (some .int)) ({ frames := 2, cells := 0, slots := 0, locals := 46 } : Room)).room s m (([.ref (ad (0)), .ref (ad (c1)), .int (a2)] : List Value).toArray) below meth c H locs 0 0 (MQ below (va_Qi (fun (r : Int32) (u : MM) => r = r0 ∧ u = M0) (gI (m_Wd dC dI kI kZ ad) (m_Kn dC dI kI kZ ad)) (m_A ad)) (([.ref (ad (0)), .ref (ad (c1)), .int (a2)] : List Value).toArray) s 0 0 (m_A ad)) (F0 m 5 ls []) := by
    intro k
    induction k with
    | zero => intro v3_3 v4_4 M_5 H locs ls hP hS hl h; cases h
    | succ k ih5 =>
      intro v3_3 v4_4 M_5 H locs ls hP hS hl h
      unfold FX8_readsSheet_L5 at h
      refine lv_iload hx hb dX8_readsSheet_5 (lv_at hl 4 rfl) ?_
      refine lv_aload_n hx hb dX8_readsSheet_7 rfl (lv_at hl 0 rfl) ?_
      refine va_get (D := (dC, dI)) (ci := 8) (v := .ref (ad (1))) (C := RX8) (T := TX8) (N := 29) hx hb hg inX8 hown hKn.1 hP (0) (m_at8 (c := 0) (by decide)) rfl 0 (Nat.le_of_ble_eq_true rfl) (hg _ lkF_X8_7) (fun _ h9 => h9) rfl dX8_readsSheet_8 ?_
      refine lv_iconst (v := 2) hx hb dX8_readsSheet_11 (by decide) ?_
      refine m_iald (M := M_5) (a := 1) hx hb hKn hP (by decide) (j := 2) (by decide) (by decide) dX8_readsSheet_12 ?_
      refine lv_icmp_ge (tgt := 63) hx hb dX8_readsSheet_13 (by decide) (fun c_6 => ?_) (fun c_6 => ?_)
      · have h := ife_t c_6 h
        exact hK5 v3_3 M_5 _ _ _ hP hS (lv_sub hl [3] rfl) h
      · have h := ife_f c_6 h
        refine lv_iload_n hx hb dX8_readsSheet_16 rfl (lv_at hl 2 rfl) ?_
        refine lv_iload hx hb dX8_readsSheet_17 (lv_at hl 4 rfl) ?_
        obtain ⟨r_7, e19, h⟩ := bo_use h
        refine gc_i (va_runS (As := [.int (a2), .int (v4_4)]) (rest := []) hFx (tX8_has l dC dI kI kZ ad a2 v4_4 M_5  e19) ⟨(gc_B hFx ck_yX8_has lkM_X8_147 ⟨Nat.le_of_ble_eq_true rfl, Nat.le_of_ble_eq_true rfl⟩ rfl rfl), hg _ st_yX8_has⟩ (gp_S m_KnB (m_KnW hKn) hP) rfl rfl hl.1 rfl (lv_room (Nat.le_of_ble_eq_true rfl)) dX8_readsSheet_19 ⟨Nat.zero_le _, Nat.zero_le _⟩) hS (fun H locs hP hS => ?_)
        have hP : va_P (dC, dI) vwCl (m_w kI kZ ad M_5.1 M_5.2) H := hP
        obtain ⟨J57, eJ57, h⟩ := jn_use h
        have hJ57 : ∀ (j3_8 : Int32) (M_9 : MM) (H : Heap) (locs : List Loc) (ls : Array Slot), va_P (dC, dI) vwCl (m_w kI kZ ad M_9.1 M_9.2) H → va_S (m_A ad) s.heap H locs → lv_has ls 6 [(0, .ref (ad (0))), (1, .ref (ad (c1))), (2, .int (a2)), (4, .int (v4_4)), (3, .int (j3_8))] → J57 j3_8 M_9 = some (r0, M0) → W p l e (headSpec (wsA yX8_readsSheet cX8_readsSheet 6 (some .int)) ({ frames := 2, cells := 0, slots := 0, locals := 46 } : Room)).room s m (([.ref (ad (0)), .ref (ad (c1)), .int (a2)] : List Value).toArray) below meth c H locs 0 0 (MQ below (va_Qi (fun (r : Int32) (u : MM) => r = r0 ∧ u = M0) (gI (m_Wd dC dI kI kZ ad) (m_Kn dC dI kI kZ ad)) (m_A ad)) (([.ref (ad (0)), .ref (ad (c1)), .int (a2)] : List Value).toArray) s 0 0 (m_A ad)) (F0 m 57 ls []) := by
          intro j3_8 M_9 H locs ls hP hS hl h
          have h := useK2 eJ57 h
          refine lv_iinc (v := (v4_4 + 1)) (lv' := [(4, .int ((v4_4 + 1))), (0, .ref (ad (0))), (1, .ref (ad (c1))), (2, .int (a2)), (3, .int (j3_8))]) hx hb dX8_readsSheet_57 hl (k := 3) rfl rfl (Nat.le_of_ble_eq_true rfl) rfl (fun ls hl => ?_)
          refine lv_goto (tgt := 5) hx hb dX8_readsSheet_60 (by decide) ?_
          exact ih5 j3_8 (v4_4 + 1) M_9 _ _ _ hP hS (lv_sub hl [1, 2, 3, 4, 0] rfl) h
        refine lv_if_eq (tgt := 57) hx hb dX8_readsSheet_22 (by decide) (fun c_10 => ?_) (fun c_10 => ?_)
        · have h := ife_t c_10 h
          exact hJ57 v3_3 M_5 _ _ _ hP hS (lv_sub hl [0, 1, 2, 4, 3] rfl) h
        · have h := ife_f c_10 h
          refine lv_aload_n hx hb dX8_readsSheet_25 rfl (lv_at hl 0 rfl) ?_
          refine lv_aload_n hx hb dX8_readsSheet_26 rfl (lv_at hl 1 rfl) ?_
          refine lv_iload hx hb dX8_readsSheet_27 (lv_at hl 4 rfl) ?_
          refine lv_aload_n hx hb dX8_readsSheet_29 rfl (lv_at hl 0 rfl) ?_
          refine lv_iload hx hb dX8_readsSheet_30 (lv_at hl 4 rfl) ?_
          obtain ⟨r_11, e32, h⟩ := bo_use h
          refine gc_i (va_runV (As := [.int (v4_4)]) (rest := [.int (v4_4), .ref (ad (c1)), .ref (ad (0))]) hFx (tX8_byOf l dC dI kI kZ ad v4_4 M_5  e32) ⟨(gc_B hFx ck_yX8_byOf lkM_X8_155 ⟨Nat.le_of_ble_eq_true rfl, Nat.le_of_ble_eq_true rfl⟩ rfl rfl), hg _ vi_yX8_byOf, hg _ vs_yX8_byOf⟩ (gp_V m_KnB (m_KnW hKn) hP (m_rc8 (c := 0) (by decide) hKn hP)) rfl rfl hl.1 rfl (lv_room (Nat.le_of_ble_eq_true rfl)) dX8_readsSheet_32 ⟨Nat.zero_le _, Nat.zero_le _⟩) hS (fun H locs hP hS => ?_)
          have hP : va_P (dC, dI) vwCl (m_w kI kZ ad M_5.1 M_5.2) H := hP
          obtain ⟨r_12, M_13, e35, h⟩ := bd_use h
          refine gc_i (va_runV (As := [.ref (ad (c1)), .int (v4_4), .int (r_11)]) (rest := []) hFx (tX8_reads l dC dI kI kZ ad c1 v4_4 r_11 M_5 h1 e35) ⟨(gc_B hFx ck_yX8_reads lkM_X8_158 ⟨Nat.le_of_ble_eq_true rfl, Nat.le_of_ble_eq_true rfl⟩ rfl rfl), hg _ vi_yX8_reads, hg _ vs_yX8_reads⟩ (gp_V m_KnB (m_KnW hKn) hP (m_rc8 (c := 0) (by decide) hKn hP)) rfl rfl hl.1 rfl (lv_room (Nat.le_of_ble_eq_true rfl)) dX8_readsSheet_35 ⟨Nat.zero_le _, Nat.zero_le _⟩) hS (fun H locs hP hS => ?_)
          have hP : va_P (dC, dI) vwCl (m_w kI kZ ad M_13.1 M_13.2) H := hP
          refine lv_istore (lv' := [(5, .int (r_12)), (0, .ref (ad (0))), (1, .ref (ad (c1))), (2, .int (a2)), (3, .int (v3_3)), (4, .int (v4_4))]) hx hb dX8_readsSheet_38 hl (Nat.le_of_ble_eq_true rfl) rfl (fun ls hl => ?_)
          refine lv_iload hx hb dX8_readsSheet_40 (lv_at hl 0 rfl) ?_
          obtain ⟨J56, eJ56, h⟩ := jn_use h
          have hJ56 : ∀ (s_14 : Int32) (H : Heap) (locs : List Loc) (ls : Array Slot), va_P (dC, dI) vwCl (m_w kI kZ ad M_13.1 M_13.2) H → va_S (m_A ad) s.heap H locs → lv_has ls 6 [(0, .ref (ad (0))), (1, .ref (ad (c1))), (2, .int (a2)), (4, .int (v4_4))] → J56 s_14 = some (r0, M0) → W p l e (headSpec (wsA yX8_readsSheet cX8_readsSheet 6 (some .int)) ({ frames := 2, cells := 0, slots := 0, locals := 46 } : Room)).room s m (([.ref (ad (0)), .ref (ad (c1)), .int (a2)] : List Value).toArray) below meth c H locs 0 0 (MQ below (va_Qi (fun (r : Int32) (u : MM) => r = r0 ∧ u = M0) (gI (m_Wd dC dI kI kZ ad) (m_Kn dC dI kI kZ ad)) (m_A ad)) (([.ref (ad (0)), .ref (ad (c1)), .int (a2)] : List Value).toArray) s 0 0 (m_A ad)) (F0 m 56 ls [.int (s_14)]) := by
            intro s_14 H locs ls hP hS hl h
            have h := useK1 eJ56 h
            refine lv_istore_n (lv' := [(3, .int (s_14)), (0, .ref (ad (0))), (1, .ref (ad (c1))), (2, .int (a2)), (4, .int (v4_4))]) hx hb dX8_readsSheet_56 rfl hl (Nat.le_of_ble_eq_true rfl) rfl (fun ls hl => ?_)
            exact hJ57 s_14 M_13 _ _ _ hP hS (lv_sub hl [1, 2, 3, 4, 0] rfl) h
          obtain ⟨J55, eJ55, h⟩ := jn_use h
          have hJ55 : ∀  (H : Heap) (locs : List Loc) (ls : Array Slot), va_P (dC, dI) vwCl (m_w kI kZ ad M_13.1 M_13.2) H → va_S (m_A ad) s.heap H locs → lv_has ls 6 [(0, .ref (ad (0))), (1, .ref (ad (c1))), (2, .int (a2)), (3, .int (v3_3)), (4, .int (v4_4))] → J55  = some (r0, M0) → W p l e (headSpec (wsA yX8_readsSheet cX8_readsSheet 6 (some .int)) ({ frames := 2, cells := 0, slots := 0, locals := 46 } : Room)).room s m (([.ref (ad (0)), .ref (ad (c1)), .int (a2)] : List Value).toArray) below meth c H locs 0 0 (MQ below (va_Qi (fun (r : Int32) (u : MM) => r = r0 ∧ u = M0) (gI (m_Wd dC dI kI kZ ad) (m_Kn dC dI kI kZ ad)) (m_A ad)) (([.ref (ad (0)), .ref (ad (c1)), .int (a2)] : List Value).toArray) s 0 0 (m_A ad)) (F0 m 55 ls []) := by
            intro  H locs ls hP hS hl h
            have h := useK0 eJ55 h
            refine lv_iload_n hx hb dX8_readsSheet_55 rfl (lv_at hl 3 rfl) ?_
            exact hJ56 v3_3 _ _ _ hP hS (lv_sub hl [0, 1, 2, 4] rfl) h
          refine lv_if_eq (tgt := 55) hx hb dX8_readsSheet_42 (by decide) (fun c_15 => ?_) (fun c_15 => ?_)
          · have h := ife_t c_15 h
            exact hJ55 _ _ _ hP hS (lv_sub hl [1, 2, 3, 4, 5] rfl) h
          · have h := ife_f c_15 h
            refine lv_iload_n hx hb dX8_readsSheet_45 rfl (lv_at hl 4 rfl) ?_
            refine lv_iconst (v := -1) hx hb dX8_readsSheet_46 (by decide) ?_
            refine lv_icmp_ne (tgt := 55) hx hb dX8_readsSheet_47 (by decide) (fun c_16 => ?_) (fun c_16 => ?_)
            · have h := ife_f c_16 h
              exact hJ55 _ _ _ hP hS (lv_sub hl [1, 2, 3, 4, 5] rfl) h
            · have h := ife_t c_16 h
              refine lv_iload hx hb dX8_readsSheet_50 (lv_at hl 5 rfl) ?_
              refine lv_goto (tgt := 56) hx hb dX8_readsSheet_52 (by decide) ?_
              exact hJ56 v4_4 _ _ _ hP hS (lv_sub hl [1, 2, 3, 5] rfl) h
  exact hL5 fuelN (-1) 0 M _ _ _ hP hS (lv_sub hl [2, 3, 4, 1, 0] rfl) h
noncomputable def FX8_triesTonight (a1 : Int32) (M : MM) : Option (Int32 × MM) :=
  bo (FX8_copies 3 0 10 0 17 M) (fun (M_1 : MM) => bd (FX8_readsSheet 10 a1 M_1) (fun (r_2 : Int32) (M_3 : MM) => some (r_2, M_3)))
set_option maxHeartbeats 4000000 in
set_option maxRecDepth 100000 in
theorem tX8_triesTonight (l : Launch) (dC : Nat → ClassId) (dI : Nat → Nat → Nat) (kI kZ : ClassId) (ad : Nat → Nat) (a1 : Int32) (M : MM)  {r0 : Int32} {M0 : MM} (h : FX8_triesTonight a1 M = some (r0, M0)) : Met l yX8_triesTonight (wsA yX8_triesTonight cX8_triesTonight 2 (some .int)) ({ frames := 3, cells := 0, slots := 0, locals := 71 } : Room) (va_Pc [.ref (ad (0)), .int (a1)] (gI (m_Wd dC dI kI kZ ad) (m_Kn dC dI kI kZ ad) M)) (va_Qi (fun (r : Int32) (u : MM) => r = r0 ∧ u = M0) (gI (m_Wd dC dI kI kZ ad) (m_Kn dC dI kI kZ ad)) (m_A ad)) 0 0 (m_A ad) := by
  refine Met.ofW (cc := cX8_triesTonight) (maxL := 2) (ret := (some .int)) (by decide) rfl ?_
  intro p e s m args below meth c s₁ B hml hv
  obtain ⟨rfl, hP, hKn⟩ := hv
  have hx := B.exec
  have hb := B.bytes
  have hr := B.returns
  have hts := atoms_spec (ws := wsA yX8_triesTonight cX8_triesTonight 2 (some .int)) B.pre
  have hg : ∀ w ∈ lw_good, w.before _ s = true := fun w h => hts w (List.mem_cons_of_mem _ h)
  have hown : s.vm.findClass RX8 = some m.cls := findClass_of_methodNamed B.named
  have hlocks := B.notSynchronized
  have hS : va_S (m_A ad) s.heap s.heap [] := va_S.rf
  have hFx : gFix p c cX8_triesTonight 2 s m _ RX8 := ⟨hx, hb, hml, hown, hg⟩
  have hP : va_P (dC, dI) vwCl (m_w kI kZ ad M.1 M.2) s.heap := hP
  have hl := lv_entry ([.ref (ad (0)), .int (a1)]) (n := 2) (Nat.le_of_ble_eq_true rfl)
  rw [lg_entry_eq]
  generalize (lg_sl ([.ref (ad (0)), .int (a1)]) ++ List.replicate (2 - (lg_sl ([.ref (ad (0)), .int (a1)])).length) Slot.unset).toArray = ls at hl ⊢
  have hl : lv_has ls 2 [(0, .ref (ad (0))), (1, .int (a1))] := hl
  unfold FX8_triesTonight at h
  refine lv_aload_n hx hb dX8_triesTonight_0 rfl (lv_at hl 0 rfl) ?_
  refine va_get (D := (dC, dI)) (ci := 8) (v := .ref (ad (3))) (C := RX8) (T := TX8) (N := 29) hx hb hg inX8 hown hKn.1 hP (0) (m_at8 (c := 0) (by decide)) rfl 2 (Nat.le_of_ble_eq_true rfl) (hg _ lkF_X8_16) (fun _ h9 => h9) rfl dX8_triesTonight_1 ?_
  refine lv_iconst (v := 0) hx hb dX8_triesTonight_4 (by decide) ?_
  refine lv_aload_n hx hb dX8_triesTonight_5 rfl (lv_at hl 0 rfl) ?_
  refine va_get (D := (dC, dI)) (ci := 8) (v := .ref (ad (10))) (C := RX8) (T := TX8) (N := 29) hx hb hg inX8 hown hKn.1 hP (0) (m_at8 (c := 0) (by decide)) rfl 21 (Nat.le_of_ble_eq_true rfl) (hg _ lkF_X8_42) (fun _ h9 => h9) rfl dX8_triesTonight_6 ?_
  refine lv_iconst (v := 0) hx hb dX8_triesTonight_9 (by decide) ?_
  refine lv_bipush (v := 17) hx hb dX8_triesTonight_10 (by decide) ?_
  obtain ⟨M_1, e12, h⟩ := bo_use h
  refine gc_v (va_runS (As := [.ref (ad (3)), .int (0), .ref (ad (10)), .int (0), .int (17)]) (rest := []) hFx (tX8_copies l dC dI kI kZ ad 3 0 10 0 17 M (by decide) (by decide) e12) ⟨(gc_B hFx ck_yX8_copies lkM_X8_165 ⟨Nat.le_of_ble_eq_true rfl, Nat.le_of_ble_eq_true rfl⟩ rfl rfl), hg _ st_yX8_copies⟩ (gp_S m_KnB (m_KnW hKn) hP) rfl rfl hl.1 rfl (lv_room (Nat.le_of_ble_eq_true rfl)) dX8_triesTonight_12 ⟨Nat.zero_le _, Nat.zero_le _⟩) hS (fun H locs hP hS => ?_)
  have hP : va_P (dC, dI) vwCl (m_w kI kZ ad M_1.1 M_1.2) H := hP
  refine lv_aload_n hx hb dX8_triesTonight_15 rfl (lv_at hl 0 rfl) ?_
  refine lv_aload_n hx hb dX8_triesTonight_16 rfl (lv_at hl 0 rfl) ?_
  refine va_get (D := (dC, dI)) (ci := 8) (v := .ref (ad (10))) (C := RX8) (T := TX8) (N := 29) hx hb hg inX8 hown hKn.1 hP (0) (m_at8 (c := 0) (by decide)) rfl 21 (Nat.le_of_ble_eq_true rfl) (hg _ lkF_X8_42) (fun _ h9 => h9) rfl dX8_triesTonight_17 ?_
  refine lv_iload_n hx hb dX8_triesTonight_20 rfl (lv_at hl 1 rfl) ?_
  obtain ⟨r_2, M_3, e21, h⟩ := bd_use h
  refine gc_i (va_runV (As := [.ref (ad (10)), .int (a1)]) (rest := []) hFx (tX8_readsSheet l dC dI kI kZ ad 10 a1 M_1 (by decide) e21) ⟨(gc_B hFx ck_yX8_readsSheet lkM_X8_169 ⟨Nat.le_of_ble_eq_true rfl, Nat.le_of_ble_eq_true rfl⟩ rfl rfl), hg _ vi_yX8_readsSheet, hg _ vs_yX8_readsSheet⟩ (gp_V m_KnB (m_KnW hKn) hP (m_rc8 (c := 0) (by decide) hKn hP)) rfl rfl hl.1 rfl (lv_room (Nat.le_of_ble_eq_true rfl)) dX8_triesTonight_21 ⟨Nat.zero_le _, Nat.zero_le _⟩) hS (fun H locs hP hS => ?_)
  have hP : va_P (dC, dI) vwCl (m_w kI kZ ad M_3.1 M_3.2) H := hP
  exact W.iret (v := r_2) hx hb hr (fun t ht hW => ⟨⟨r_2, M_3, rfl, Prod.mk.inj (Option.some.inj h), by rw [ht]; exact hP, m_KnW hKn t hW⟩, hS.F ht⟩) hS.2.2 dX8_triesTonight_24
noncomputable def FX8_cannot_L61 (b2 : Int32) (b3 : Int32) (K : Int32 → MM → Option (Int32 × MM)) (k : Nat) (v1_17 : Int32) (v5_18 : Int32) (M_19 : MM) : Option (Int32 × MM) := match k with
  | 0 => none
  | k + 1 => (if b2 ≤ v5_18 then K v1_17 M_19 else bo (FX8_maySheet v5_18 (M_19.1 3 13) M_19) (fun (r_21 : Int32) => jn (α := Int32 → MM → Option (Int32 × MM)) (fun (j1_22 : Int32) (M_23 : MM) => FX8_cannot_L61 b2 b3 K k j1_22 (v5_18 + 1) M_23) (fun J121 => (if r_21 = 0 then J121 v1_17 M_19 else bo (FX8_copies 10 0 11 0 17 M_19) (fun (M_25 : MM) => bd (FX8_readsSheet 11 v5_18 M_25) (fun (r_26 : Int32) (M_27 : MM) => bo (FX8_convinced 11 M_27) (fun (r_28 : Int32) => J121 (v1_17 ||| r_28) M_27)))))))
noncomputable def FX8_cannot_L20 (b2 : Int32) (K : Int32 → MM → Option (Int32 × MM)) (k : Nat) (v1_4 : Int32) (v3_5 : Int32) (M_6 : MM) : Option (Int32 × MM) := match k with
  | 0 => none
  | k + 1 => (if b2 ≤ v3_5 then K v1_4 M_6 else bo (FX8_maySheet v3_5 (M_6.1 3 13) M_6) (fun (r_8 : Int32) => jn (α := Int32 → MM → Option (Int32 × MM)) (fun (j1_9 : Int32) (M_10 : MM) => FX8_cannot_L20 b2 K k j1_9 (v3_5 + 1) M_10) (fun J127 => (if r_8 = 0 then J127 v1_4 M_6 else bd (FX8_triesTonight v3_5 M_6) (fun (r_12 : Int32) (M_13 : MM) => bo (FX8_convinced 10 M_13) (fun (r_14 : Int32) => FX8_cannot_L61 b2 v3_5 (fun (k1_15 : Int32) (M_16 : MM) => J127 k1_15 M_16) fuelN (v1_4 ||| r_14) 0 M_13))))))
noncomputable def FX8_cannot  (M : MM) : Option (Int32 × MM) :=
  bo (FX8_convinced 3 M) (fun (r_1 : Int32) => FX8_cannot_L20 (1 <<< ((M.1 1 2) &&& 31)) (fun (k1_2 : Int32) (M_3 : MM) => some ((((1 <<< ((M_3.1 1 1) &&& 31)) - 1) &&& (k1_2 ^^^ (-1))), M_3)) fuelN r_1 0 M)
set_option maxHeartbeats 4000000 in
set_option maxRecDepth 100000 in
theorem tX8_cannot (l : Launch) (dC : Nat → ClassId) (dI : Nat → Nat → Nat) (kI kZ : ClassId) (ad : Nat → Nat)  (M : MM)  {r0 : Int32} {M0 : MM} (h : FX8_cannot  M = some (r0, M0)) : Met l yX8_cannot (wsA yX8_cannot cX8_cannot 7 (some .int)) ({ frames := 4, cells := 0, slots := 0, locals := 92 } : Room) (va_Pc [.ref (ad (0))] (gI (m_Wd dC dI kI kZ ad) (m_Kn dC dI kI kZ ad) M)) (va_Qi (fun (r : Int32) (u : MM) => r = r0 ∧ u = M0) (gI (m_Wd dC dI kI kZ ad) (m_Kn dC dI kI kZ ad)) (m_A ad)) 0 0 (m_A ad) := by
  refine Met.ofW (cc := cX8_cannot) (maxL := 7) (ret := (some .int)) (by decide) rfl ?_
  intro p e s m args below meth c s₁ B hml hv
  obtain ⟨rfl, hP, hKn⟩ := hv
  have hx := B.exec
  have hb := B.bytes
  have hr := B.returns
  have hts := atoms_spec (ws := wsA yX8_cannot cX8_cannot 7 (some .int)) B.pre
  have hg : ∀ w ∈ lw_good, w.before _ s = true := fun w h => hts w (List.mem_cons_of_mem _ h)
  have hown : s.vm.findClass RX8 = some m.cls := findClass_of_methodNamed B.named
  have hlocks := B.notSynchronized
  have hS : va_S (m_A ad) s.heap s.heap [] := va_S.rf
  have hFx : gFix p c cX8_cannot 7 s m _ RX8 := ⟨hx, hb, hml, hown, hg⟩
  have hP : va_P (dC, dI) vwCl (m_w kI kZ ad M.1 M.2) s.heap := hP
  have hl := lv_entry ([.ref (ad (0))]) (n := 7) (Nat.le_of_ble_eq_true rfl)
  rw [lg_entry_eq]
  generalize (lg_sl ([.ref (ad (0))]) ++ List.replicate (7 - (lg_sl ([.ref (ad (0))])).length) Slot.unset).toArray = ls at hl ⊢
  have hl : lv_has ls 7 [(0, .ref (ad (0)))] := hl
  unfold FX8_cannot at h
  refine lv_aload_n hx hb dX8_cannot_0 rfl (lv_at hl 0 rfl) ?_
  refine lv_aload_n hx hb dX8_cannot_1 rfl (lv_at hl 0 rfl) ?_
  refine va_get (D := (dC, dI)) (ci := 8) (v := .ref (ad (3))) (C := RX8) (T := TX8) (N := 29) hx hb hg inX8 hown hKn.1 hP (0) (m_at8 (c := 0) (by decide)) rfl 2 (Nat.le_of_ble_eq_true rfl) (hg _ lkF_X8_16) (fun _ h9 => h9) rfl dX8_cannot_2 ?_
  obtain ⟨r_1, e5, h⟩ := bo_use h
  refine gc_i (va_runV (As := [.ref (ad (3))]) (rest := []) hFx (tX8_convinced l dC dI kI kZ ad 3 M (by decide) e5) ⟨(gc_B hFx ck_yX8_convinced lkM_X8_136 ⟨Nat.le_of_ble_eq_true rfl, Nat.le_of_ble_eq_true rfl⟩ rfl rfl), hg _ vi_yX8_convinced, hg _ vs_yX8_convinced⟩ (gp_V m_KnB (m_KnW hKn) hP (m_rc8 (c := 0) (by decide) hKn hP)) rfl rfl hl.1 rfl (lv_room (Nat.le_of_ble_eq_true rfl)) dX8_cannot_5 ⟨Nat.zero_le _, Nat.zero_le _⟩) hS (fun H locs hP hS => ?_)
  have hP : va_P (dC, dI) vwCl (m_w kI kZ ad M.1 M.2) H := hP
  refine lv_istore_n (lv' := [(1, .int (r_1)), (0, .ref (ad (0)))]) hx hb dX8_cannot_8 rfl hl (Nat.le_of_ble_eq_true rfl) rfl (fun ls hl => ?_)
  refine lv_iconst (v := 1) hx hb dX8_cannot_9 (by decide) ?_
  refine lv_aload_n hx hb dX8_cannot_10 rfl (lv_at hl 1 rfl) ?_
  refine va_get (D := (dC, dI)) (ci := 8) (v := .ref (ad (1))) (C := RX8) (T := TX8) (N := 29) hx hb hg inX8 hown hKn.1 hP (0) (m_at8 (c := 0) (by decide)) rfl 0 (Nat.le_of_ble_eq_true rfl) (hg _ lkF_X8_7) (fun _ h9 => h9) rfl dX8_cannot_11 ?_
  refine lv_iconst (v := 2) hx hb dX8_cannot_14 (by decide) ?_
  refine m_iald (M := M) (a := 1) hx hb hKn hP (by decide) (j := 2) (by decide) (by decide) dX8_cannot_15 ?_
  refine lv_ishl hx hb dX8_cannot_16 ?_
  refine lv_istore_n (lv' := [(2, .int ((1 <<< ((M.1 1 2) &&& 31)))), (1, .int (r_1)), (0, .ref (ad (0)))]) hx hb dX8_cannot_17 rfl hl (Nat.le_of_ble_eq_true rfl) rfl (fun ls hl => ?_)
  refine lv_iconst (v := 0) hx hb dX8_cannot_18 (by decide) ?_
  refine lv_istore_n (lv' := [(3, .int (0)), (2, .int ((1 <<< ((M.1 1 2) &&& 31)))), (1, .int (r_1)), (0, .ref (ad (0)))]) hx hb dX8_cannot_19 rfl hl (Nat.le_of_ble_eq_true rfl) rfl (fun ls hl => ?_)
  obtain ⟨K20, eK20, h⟩ := exK (Lp := fun K => FX8_cannot_L20 (1 <<< ((M.1 1 2) &&& 31)) K fuelN r_1 0 M) h
  have hK20 : ∀ (k1_2 : Int32) (M_3 : MM) (H : Heap) (locs : List Loc) (ls : Array Slot), va_P (dC, dI) vwCl (m_w kI kZ ad M_3.1 M_3.2) H → va_S (m_A ad) s.heap H locs → lv_has ls 7 [(0, .ref (ad (0))), (1, .int (k1_2))] → K20 k1_2 M_3 = some (r0, M0) → W p l e (headSpec (wsA yX8_cannot cX8_cannot 7 (some .int)) ({ frames := 4, cells := 0, slots := 0, locals := 92 } : Room)).room s m (([.ref (ad (0))] : List Value).toArray) below meth c H locs 0 0 (MQ below (va_Qi (fun (r : Int32) (u : MM) => r = r0 ∧ u = M0) (gI (m_Wd dC dI kI kZ ad) (m_Kn dC dI kI kZ ad)) (m_A ad)) (([.ref (ad (0))] : List Value).toArray) s 0 0 (m_A ad)) (F0 m 133 ls []) := by
    intro k1_2 M_3 H locs ls hP hS hl h
    have h := useK2 eK20 h
    refine lv_iconst (v := 1) hx hb dX8_cannot_133 (by decide) ?_
    refine lv_aload_n hx hb dX8_cannot_134 rfl (lv_at hl 0 rfl) ?_
    refine va_get (D := (dC, dI)) (ci := 8) (v := .ref (ad (1))) (C := RX8) (T := TX8) (N := 29) hx hb hg inX8 hown hKn.1 hP (0) (m_at8 (c := 0) (by decide)) rfl 0 (Nat.le_of_ble_eq_true rfl) (hg _ lkF_X8_7) (fun _ h9 => h9) rfl dX8_cannot_135 ?_
    refine lv_iconst (v := 1) hx hb dX8_cannot_138 (by decide) ?_
    refine m_iald (M := M_3) (a := 1) hx hb hKn hP (by decide) (j := 1) (by decide) (by decide) dX8_cannot_139 ?_
    refine lv_ishl hx hb dX8_cannot_140 ?_
    refine lv_iconst (v := 1) hx hb dX8_cannot_141 (by decide) ?_
    refine lv_isub hx hb dX8_cannot_142 ?_
    refine lv_iload_n hx hb dX8_cannot_143 rfl (lv_at hl 1 rfl) ?_
    refine lv_iconst (v := -1) hx hb dX8_cannot_144 (by decide) ?_
    refine lv_ixor hx hb dX8_cannot_145 ?_
    refine lv_iand hx hb dX8_cannot_146 ?_
    exact W.iret (v := (((1 <<< ((M_3.1 1 1) &&& 31)) - 1) &&& (k1_2 ^^^ (-1)))) hx hb hr (fun t ht hW => ⟨⟨(((1 <<< ((M_3.1 1 1) &&& 31)) - 1) &&& (k1_2 ^^^ (-1))), M_3, rfl, Prod.mk.inj (Option.some.inj h), by rw [ht]; exact hP, m_KnW hKn t hW⟩, hS.F ht⟩) hS.2.2 dX8_cannot_147
  have hL20 : ∀ (k : Nat) (v1_4 : Int32) (v3_5 : Int32) (M_6 : MM) (H : Heap) (locs : List Loc) (ls : Array Slot), va_P (dC, dI) vwCl (m_w kI kZ ad M_6.1 M_6.2) H → va_S (m_A ad) s.heap H locs → lv_has ls 7 [(0, .ref (ad (0))), (2, .int ((1 <<< ((M.1 1 2) &&& 31)))), (1, .int (v1_4)), (3, .int (v3_5))] → FX8_cannot_L20 (1 <<< ((M.1 1 2) &&& 31)) K20 k v1_4 v3_5 M_6 = some (r0, M0) → W p l e (headSpec (wsA yX8_cannot cX8_cannot 7 (some .int)) ({ frames := 4, cells := 0, slots := 0, locals := 92 } : Room)).room s m (([.ref (ad (0))] : List Value).toArray) below meth c H locs 0 0 (MQ below (va_Qi (fun (r : Int32) (u : MM) => r = r0 ∧ u = M0) (gI (m_Wd dC dI kI kZ ad) (m_Kn dC dI kI kZ ad)) (m_A ad)) (([.ref (ad (0))] : List Value).toArray) s 0 0 (m_A ad)) (F0 m 20 ls []) := by
    intro k
    induction k with
    | zero => intro v1_4 v3_5 M_6 H locs ls hP hS hl h; cases h
    | succ k ih20 =>
      intro v1_4 v3_5 M_6 H locs ls hP hS hl h
      unfold FX8_cannot_L20 at h
      refine lv_iload_n hx hb dX8_cannot_20 rfl (lv_at hl 3 rfl) ?_
      refine lv_iload_n hx hb dX8_cannot_21 rfl (lv_at hl 1 rfl) ?_
      refine lv_icmp_ge (tgt := 133) hx hb dX8_cannot_22 (by decide) (fun c_7 => ?_) (fun c_7 => ?_)
      · have h := ife_t c_7 h
        exact hK20 v1_4 M_6 _ _ _ hP hS (lv_sub hl [0, 2] rfl) h
      · have h := ife_f c_7 h
        refine lv_aload_n hx hb dX8_cannot_25 rfl (lv_at hl 0 rfl) ?_
        refine lv_iload_n hx hb dX8_cannot_26 rfl (lv_at hl 3 rfl) ?_
        refine lv_aload_n hx hb dX8_cannot_27 rfl (lv_at hl 0 rfl) ?_
        refine va_get (D := (dC, dI)) (ci := 8) (v := .ref (ad (3))) (C := RX8) (T := TX8) (N := 29) hx hb hg inX8 hown hKn.1 hP (0) (m_at8 (c := 0) (by decide)) rfl 2 (Nat.le_of_ble_eq_true rfl) (hg _ lkF_X8_16) (fun _ h9 => h9) rfl dX8_cannot_28 ?_
        refine lv_bipush (v := 13) hx hb dX8_cannot_31 (by decide) ?_
        refine m_iald (M := M_6) (a := 3) hx hb hKn hP (by decide) (j := 13) (by decide) (by decide) dX8_cannot_33 ?_
        obtain ⟨r_8, e34, h⟩ := bo_use h
        refine gc_i (va_runV (As := [.int (v3_5), .int ((M_6.1 3 13))]) (rest := []) hFx (tX8_maySheet l dC dI kI kZ ad v3_5 (M_6.1 3 13) M_6  e34) ⟨(gc_B hFx ck_yX8_maySheet lkM_X8_176 ⟨Nat.le_of_ble_eq_true rfl, Nat.le_of_ble_eq_true rfl⟩ rfl rfl), hg _ vi_yX8_maySheet, hg _ vs_yX8_maySheet⟩ (gp_V m_KnB (m_KnW hKn) hP (m_rc8 (c := 0) (by decide) hKn hP)) rfl rfl hl.1 rfl (lv_room (Nat.le_of_ble_eq_true rfl)) dX8_cannot_34 ⟨Nat.zero_le _, Nat.zero_le _⟩) hS (fun H locs hP hS => ?_)
        have hP : va_P (dC, dI) vwCl (m_w kI kZ ad M_6.1 M_6.2) H := hP
        obtain ⟨J127, eJ127, h⟩ := jn_use h
        have hJ127 : ∀ (j1_9 : Int32) (M_10 : MM) (H : Heap) (locs : List Loc) (ls : Array Slot), va_P (dC, dI) vwCl (m_w kI kZ ad M_10.1 M_10.2) H → va_S (m_A ad) s.heap H locs → lv_has ls 7 [(0, .ref (ad (0))), (2, .int ((1 <<< ((M.1 1 2) &&& 31)))), (3, .int (v3_5)), (1, .int (j1_9))] → J127 j1_9 M_10 = some (r0, M0) → W p l e (headSpec (wsA yX8_cannot cX8_cannot 7 (some .int)) ({ frames := 4, cells := 0, slots := 0, locals := 92 } : Room)).room s m (([.ref (ad (0))] : List Value).toArray) below meth c H locs 0 0 (MQ below (va_Qi (fun (r : Int32) (u : MM) => r = r0 ∧ u = M0) (gI (m_Wd dC dI kI kZ ad) (m_Kn dC dI kI kZ ad)) (m_A ad)) (([.ref (ad (0))] : List Value).toArray) s 0 0 (m_A ad)) (F0 m 127 ls []) := by
          intro j1_9 M_10 H locs ls hP hS hl h
          have h := useK2 eJ127 h
          refine lv_iinc (v := (v3_5 + 1)) (lv' := [(3, .int ((v3_5 + 1))), (0, .ref (ad (0))), (2, .int ((1 <<< ((M.1 1 2) &&& 31)))), (1, .int (j1_9))]) hx hb dX8_cannot_127 hl (k := 2) rfl rfl (Nat.le_of_ble_eq_true rfl) rfl (fun ls hl => ?_)
          refine lv_goto (tgt := 20) hx hb dX8_cannot_130 (by decide) ?_
          exact ih20 j1_9 (v3_5 + 1) M_10 _ _ _ hP hS (lv_sub hl [1, 2, 3, 0] rfl) h
        refine lv_if_eq (tgt := 127) hx hb dX8_cannot_37 (by decide) (fun c_11 => ?_) (fun c_11 => ?_)
        · have h := ife_t c_11 h
          exact hJ127 v1_4 M_6 _ _ _ hP hS (lv_sub hl [0, 1, 3, 2] rfl) h
        · have h := ife_f c_11 h
          refine lv_aload_n hx hb dX8_cannot_40 rfl (lv_at hl 0 rfl) ?_
          refine lv_iload_n hx hb dX8_cannot_41 rfl (lv_at hl 3 rfl) ?_
          obtain ⟨r_12, M_13, e42, h⟩ := bd_use h
          refine gc_i (va_runV (As := [.int (v3_5)]) (rest := []) hFx (tX8_triesTonight l dC dI kI kZ ad v3_5 M_6  e42) ⟨(gc_B hFx ck_yX8_triesTonight lkM_X8_207 ⟨Nat.le_of_ble_eq_true rfl, Nat.le_of_ble_eq_true rfl⟩ rfl rfl), hg _ vi_yX8_triesTonight, hg _ vs_yX8_triesTonight⟩ (gp_V m_KnB (m_KnW hKn) hP (m_rc8 (c := 0) (by decide) hKn hP)) rfl rfl hl.1 rfl (lv_room (Nat.le_of_ble_eq_true rfl)) dX8_cannot_42 ⟨Nat.zero_le _, Nat.zero_le _⟩) hS (fun H locs hP hS => ?_)
          have hP : va_P (dC, dI) vwCl (m_w kI kZ ad M_13.1 M_13.2) H := hP
          refine lv_istore (lv' := [(4, .int (r_12)), (0, .ref (ad (0))), (2, .int ((1 <<< ((M.1 1 2) &&& 31)))), (1, .int (v1_4)), (3, .int (v3_5))]) hx hb dX8_cannot_45 hl (Nat.le_of_ble_eq_true rfl) rfl (fun ls hl => ?_)
          refine lv_iload_n hx hb dX8_cannot_47 rfl (lv_at hl 3 rfl) ?_
          refine lv_aload_n hx hb dX8_cannot_48 rfl (lv_at hl 1 rfl) ?_
          refine lv_aload_n hx hb dX8_cannot_49 rfl (lv_at hl 1 rfl) ?_
          refine va_get (D := (dC, dI)) (ci := 8) (v := .ref (ad (10))) (C := RX8) (T := TX8) (N := 29) hx hb hg inX8 hown hKn.1 hP (0) (m_at8 (c := 0) (by decide)) rfl 21 (Nat.le_of_ble_eq_true rfl) (hg _ lkF_X8_42) (fun _ h9 => h9) rfl dX8_cannot_50 ?_
          obtain ⟨r_14, e53, h⟩ := bo_use h
          refine gc_i (va_runV (As := [.ref (ad (10))]) (rest := [.int (v1_4)]) hFx (tX8_convinced l dC dI kI kZ ad 10 M_13 (by decide) e53) ⟨(gc_B hFx ck_yX8_convinced lkM_X8_136 ⟨Nat.le_of_ble_eq_true rfl, Nat.le_of_ble_eq_true rfl⟩ rfl rfl), hg _ vi_yX8_convinced, hg _ vs_yX8_convinced⟩ (gp_V m_KnB (m_KnW hKn) hP (m_rc8 (c := 0) (by decide) hKn hP)) rfl rfl hl.1 rfl (lv_room (Nat.le_of_ble_eq_true rfl)) dX8_cannot_53 ⟨Nat.zero_le _, Nat.zero_le _⟩) hS (fun H locs hP hS => ?_)
          have hP : va_P (dC, dI) vwCl (m_w kI kZ ad M_13.1 M_13.2) H := hP
          refine lv_ior hx hb dX8_cannot_56 ?_
          refine lv_istore_n (lv' := [(1, .int ((v1_4 ||| r_14))), (4, .int (r_12)), (0, .ref (ad (0))), (2, .int ((1 <<< ((M.1 1 2) &&& 31)))), (3, .int (v3_5))]) hx hb dX8_cannot_57 rfl hl (Nat.le_of_ble_eq_true rfl) rfl (fun ls hl => ?_)
          refine lv_iconst (v := 0) hx hb dX8_cannot_58 (by decide) ?_
          refine lv_istore (lv' := [(5, .int (0)), (1, .int ((v1_4 ||| r_14))), (4, .int (r_12)), (0, .ref (ad (0))), (2, .int ((1 <<< ((M.1 1 2) &&& 31)))), (3, .int (v3_5))]) hx hb dX8_cannot_59 hl (Nat.le_of_ble_eq_true rfl) rfl (fun ls hl => ?_)
          obtain ⟨K61, eK61, h⟩ := exK (Lp := fun K20 => FX8_cannot_L61 (1 <<< ((M.1 1 2) &&& 31)) v3_5 K20 fuelN (v1_4 ||| r_14) 0 M_13) h
          have hK61 : ∀ (k1_15 : Int32) (M_16 : MM) (H : Heap) (locs : List Loc) (ls : Array Slot), va_P (dC, dI) vwCl (m_w kI kZ ad M_16.1 M_16.2) H → va_S (m_A ad) s.heap H locs → lv_has ls 7 [(0, .ref (ad (0))), (2, .int ((1 <<< ((M.1 1 2) &&& 31)))), (3, .int (v3_5)), (1, .int (k1_15))] → K61 k1_15 M_16 = some (r0, M0) → W p l e (headSpec (wsA yX8_cannot cX8_cannot 7 (some .int)) ({ frames := 4, cells := 0, slots := 0, locals := 92 } : Room)).room s m (([.ref (ad (0))] : List Value).toArray) below meth c H locs 0 0 (MQ below (va_Qi (fun (r : Int32) (u : MM) => r = r0 ∧ u = M0) (gI (m_Wd dC dI kI kZ ad) (m_Kn dC dI kI kZ ad)) (m_A ad)) (([.ref (ad (0))] : List Value).toArray) s 0 0 (m_A ad)) (F0 m 127 ls []) := by
            intro k1_15 M_16 H locs ls hP hS hl h
            have h := useK2 eK61 h
            exact hJ127 k1_15 M_16 _ _ _ hP hS (lv_sub hl [0, 1, 2, 3] rfl) h
          have hL61 : ∀ (k : Nat) (v1_17 : Int32) (v5_18 : Int32) (M_19 : MM) (H : Heap) (locs : List Loc) (ls : Array Slot), va_P (dC, dI) vwCl (m_w kI kZ ad M_19.1 M_19.2) H → va_S (m_A ad) s.heap H locs → lv_has ls 7 [(0, .ref (ad (0))), (2, .int ((1 <<< ((M.1 1 2) &&& 31)))), (3, .int (v3_5)), (1, .int (v1_17)), (5, .int (v5_18))] → FX8_cannot_L61 (1 <<< ((M.1 1 2) &&& 31)) v3_5 K61 k v1_17 v5_18 M_19 = some (r0, M0) → W p l e (headSpec (wsA yX8_cannot cX8_cannot 7 (some .int)) ({ frames := 4, cells := 0, slots := 0, locals := 92 } : Room)).room s m (([.ref (ad (0))] : List Value).toArray) below meth c H locs 0 0 (MQ below (va_Qi (fun (r : Int32) (u : MM) => r = r0 ∧ u = M0) (gI (m_Wd dC dI kI kZ ad) (m_Kn dC dI kI kZ ad)) (m_A ad)) (([.ref (ad (0))] : List Value).toArray) s 0 0 (m_A ad)) (F0 m 61 ls []) := by
            intro k
            induction k with
            | zero => intro v1_17 v5_18 M_19 H locs ls hP hS hl h; cases h
            | succ k ih61 =>
              intro v1_17 v5_18 M_19 H locs ls hP hS hl h
              unfold FX8_cannot_L61 at h
              refine lv_iload hx hb dX8_cannot_61 (lv_at hl 4 rfl) ?_
              refine lv_iload_n hx hb dX8_cannot_63 rfl (lv_at hl 1 rfl) ?_
              refine lv_icmp_ge (tgt := 127) hx hb dX8_cannot_64 (by decide) (fun c_20 => ?_) (fun c_20 => ?_)
              · have h := ife_t c_20 h
                exact hK61 v1_17 M_19 _ _ _ hP hS (lv_sub hl [0, 1, 2, 3] rfl) h
              · have h := ife_f c_20 h
                refine lv_aload_n hx hb dX8_cannot_67 rfl (lv_at hl 0 rfl) ?_
                refine lv_iload hx hb dX8_cannot_68 (lv_at hl 4 rfl) ?_
                refine lv_aload_n hx hb dX8_cannot_70 rfl (lv_at hl 0 rfl) ?_
                refine va_get (D := (dC, dI)) (ci := 8) (v := .ref (ad (3))) (C := RX8) (T := TX8) (N := 29) hx hb hg inX8 hown hKn.1 hP (0) (m_at8 (c := 0) (by decide)) rfl 2 (Nat.le_of_ble_eq_true rfl) (hg _ lkF_X8_16) (fun _ h9 => h9) rfl dX8_cannot_71 ?_
                refine lv_bipush (v := 13) hx hb dX8_cannot_74 (by decide) ?_
                refine m_iald (M := M_19) (a := 3) hx hb hKn hP (by decide) (j := 13) (by decide) (by decide) dX8_cannot_76 ?_
                obtain ⟨r_21, e77, h⟩ := bo_use h
                refine gc_i (va_runV (As := [.int (v5_18), .int ((M_19.1 3 13))]) (rest := []) hFx (tX8_maySheet l dC dI kI kZ ad v5_18 (M_19.1 3 13) M_19  e77) ⟨(gc_B hFx ck_yX8_maySheet lkM_X8_176 ⟨Nat.le_of_ble_eq_true rfl, Nat.le_of_ble_eq_true rfl⟩ rfl rfl), hg _ vi_yX8_maySheet, hg _ vs_yX8_maySheet⟩ (gp_V m_KnB (m_KnW hKn) hP (m_rc8 (c := 0) (by decide) hKn hP)) rfl rfl hl.1 rfl (lv_room (Nat.le_of_ble_eq_true rfl)) dX8_cannot_77 ⟨Nat.zero_le _, Nat.zero_le _⟩) hS (fun H locs hP hS => ?_)
                have hP : va_P (dC, dI) vwCl (m_w kI kZ ad M_19.1 M_19.2) H := hP
                obtain ⟨J121, eJ121, h⟩ := jn_use h
                have hJ121 : ∀ (j1_22 : Int32) (M_23 : MM) (H : Heap) (locs : List Loc) (ls : Array Slot), va_P (dC, dI) vwCl (m_w kI kZ ad M_23.1 M_23.2) H → va_S (m_A ad) s.heap H locs → lv_has ls 7 [(0, .ref (ad (0))), (2, .int ((1 <<< ((M.1 1 2) &&& 31)))), (3, .int (v3_5)), (5, .int (v5_18)), (1, .int (j1_22))] → J121 j1_22 M_23 = some (r0, M0) → W p l e (headSpec (wsA yX8_cannot cX8_cannot 7 (some .int)) ({ frames := 4, cells := 0, slots := 0, locals := 92 } : Room)).room s m (([.ref (ad (0))] : List Value).toArray) below meth c H locs 0 0 (MQ below (va_Qi (fun (r : Int32) (u : MM) => r = r0 ∧ u = M0) (gI (m_Wd dC dI kI kZ ad) (m_Kn dC dI kI kZ ad)) (m_A ad)) (([.ref (ad (0))] : List Value).toArray) s 0 0 (m_A ad)) (F0 m 121 ls []) := by
                  intro j1_22 M_23 H locs ls hP hS hl h
                  have h := useK2 eJ121 h
                  refine lv_iinc (v := (v5_18 + 1)) (lv' := [(5, .int ((v5_18 + 1))), (0, .ref (ad (0))), (2, .int ((1 <<< ((M.1 1 2) &&& 31)))), (3, .int (v3_5)), (1, .int (j1_22))]) hx hb dX8_cannot_121 hl (k := 3) rfl rfl (Nat.le_of_ble_eq_true rfl) rfl (fun ls hl => ?_)
                  refine lv_goto (tgt := 61) hx hb dX8_cannot_124 (by decide) ?_
                  exact ih61 j1_22 (v5_18 + 1) M_23 _ _ _ hP hS (lv_sub hl [1, 2, 3, 4, 0] rfl) h
                refine lv_if_eq (tgt := 121) hx hb dX8_cannot_80 (by decide) (fun c_24 => ?_) (fun c_24 => ?_)
                · have h := ife_t c_24 h
                  exact hJ121 v1_17 M_19 _ _ _ hP hS (lv_sub hl [0, 1, 2, 4, 3] rfl) h
                · have h := ife_f c_24 h
                  refine lv_aload_n hx hb dX8_cannot_83 rfl (lv_at hl 0 rfl) ?_
                  refine va_get (D := (dC, dI)) (ci := 8) (v := .ref (ad (10))) (C := RX8) (T := TX8) (N := 29) hx hb hg inX8 hown hKn.1 hP (0) (m_at8 (c := 0) (by decide)) rfl 21 (Nat.le_of_ble_eq_true rfl) (hg _ lkF_X8_42) (fun _ h9 => h9) rfl dX8_cannot_84 ?_
                  refine lv_iconst (v := 0) hx hb dX8_cannot_87 (by decide) ?_
                  refine lv_aload_n hx hb dX8_cannot_88 rfl (lv_at hl 0 rfl) ?_
                  refine va_get (D := (dC, dI)) (ci := 8) (v := .ref (ad (11))) (C := RX8) (T := TX8) (N := 29) hx hb hg inX8 hown hKn.1 hP (0) (m_at8 (c := 0) (by decide)) rfl 22 (Nat.le_of_ble_eq_true rfl) (hg _ lkF_X8_45) (fun _ h9 => h9) rfl dX8_cannot_89 ?_
                  refine lv_iconst (v := 0) hx hb dX8_cannot_92 (by decide) ?_
                  refine lv_bipush (v := 17) hx hb dX8_cannot_93 (by decide) ?_
                  obtain ⟨M_25, e95, h⟩ := bo_use h
                  refine gc_v (va_runS (As := [.ref (ad (10)), .int (0), .ref (ad (11)), .int (0), .int (17)]) (rest := []) hFx (tX8_copies l dC dI kI kZ ad 10 0 11 0 17 M_19 (by decide) (by decide) e95) ⟨(gc_B hFx ck_yX8_copies lkM_X8_165 ⟨Nat.le_of_ble_eq_true rfl, Nat.le_of_ble_eq_true rfl⟩ rfl rfl), hg _ st_yX8_copies⟩ (gp_S m_KnB (m_KnW hKn) hP) rfl rfl hl.1 rfl (lv_room (Nat.le_of_ble_eq_true rfl)) dX8_cannot_95 ⟨Nat.zero_le _, Nat.zero_le _⟩) hS (fun H locs hP hS => ?_)
                  have hP : va_P (dC, dI) vwCl (m_w kI kZ ad M_25.1 M_25.2) H := hP
                  refine lv_aload_n hx hb dX8_cannot_98 rfl (lv_at hl 0 rfl) ?_
                  refine lv_aload_n hx hb dX8_cannot_99 rfl (lv_at hl 0 rfl) ?_
                  refine va_get (D := (dC, dI)) (ci := 8) (v := .ref (ad (11))) (C := RX8) (T := TX8) (N := 29) hx hb hg inX8 hown hKn.1 hP (0) (m_at8 (c := 0) (by decide)) rfl 22 (Nat.le_of_ble_eq_true rfl) (hg _ lkF_X8_45) (fun _ h9 => h9) rfl dX8_cannot_100 ?_
                  refine lv_iload hx hb dX8_cannot_103 (lv_at hl 4 rfl) ?_
                  obtain ⟨r_26, M_27, e105, h⟩ := bd_use h
                  refine gc_i (va_runV (As := [.ref (ad (11)), .int (v5_18)]) (rest := []) hFx (tX8_readsSheet l dC dI kI kZ ad 11 v5_18 M_25 (by decide) e105) ⟨(gc_B hFx ck_yX8_readsSheet lkM_X8_169 ⟨Nat.le_of_ble_eq_true rfl, Nat.le_of_ble_eq_true rfl⟩ rfl rfl), hg _ vi_yX8_readsSheet, hg _ vs_yX8_readsSheet⟩ (gp_V m_KnB (m_KnW hKn) hP (m_rc8 (c := 0) (by decide) hKn hP)) rfl rfl hl.1 rfl (lv_room (Nat.le_of_ble_eq_true rfl)) dX8_cannot_105 ⟨Nat.zero_le _, Nat.zero_le _⟩) hS (fun H locs hP hS => ?_)
                  have hP : va_P (dC, dI) vwCl (m_w kI kZ ad M_27.1 M_27.2) H := hP
                  refine lv_istore (lv' := [(6, .int (r_26)), (0, .ref (ad (0))), (2, .int ((1 <<< ((M.1 1 2) &&& 31)))), (3, .int (v3_5)), (1, .int (v1_17)), (5, .int (v5_18))]) hx hb dX8_cannot_108 hl (Nat.le_of_ble_eq_true rfl) rfl (fun ls hl => ?_)
                  refine lv_iload_n hx hb dX8_cannot_110 rfl (lv_at hl 4 rfl) ?_
                  refine lv_aload_n hx hb dX8_cannot_111 rfl (lv_at hl 1 rfl) ?_
                  refine lv_aload_n hx hb dX8_cannot_112 rfl (lv_at hl 1 rfl) ?_
                  refine va_get (D := (dC, dI)) (ci := 8) (v := .ref (ad (11))) (C := RX8) (T := TX8) (N := 29) hx hb hg inX8 hown hKn.1 hP (0) (m_at8 (c := 0) (by decide)) rfl 22 (Nat.le_of_ble_eq_true rfl) (hg _ lkF_X8_45) (fun _ h9 => h9) rfl dX8_cannot_113 ?_
                  obtain ⟨r_28, e116, h⟩ := bo_use h
                  refine gc_i (va_runV (As := [.ref (ad (11))]) (rest := [.int (v1_17)]) hFx (tX8_convinced l dC dI kI kZ ad 11 M_27 (by decide) e116) ⟨(gc_B hFx ck_yX8_convinced lkM_X8_136 ⟨Nat.le_of_ble_eq_true rfl, Nat.le_of_ble_eq_true rfl⟩ rfl rfl), hg _ vi_yX8_convinced, hg _ vs_yX8_convinced⟩ (gp_V m_KnB (m_KnW hKn) hP (m_rc8 (c := 0) (by decide) hKn hP)) rfl rfl hl.1 rfl (lv_room (Nat.le_of_ble_eq_true rfl)) dX8_cannot_116 ⟨Nat.zero_le _, Nat.zero_le _⟩) hS (fun H locs hP hS => ?_)
                  have hP : va_P (dC, dI) vwCl (m_w kI kZ ad M_27.1 M_27.2) H := hP
                  refine lv_ior hx hb dX8_cannot_119 ?_
                  refine lv_istore_n (lv' := [(1, .int ((v1_17 ||| r_28))), (6, .int (r_26)), (0, .ref (ad (0))), (2, .int ((1 <<< ((M.1 1 2) &&& 31)))), (3, .int (v3_5)), (5, .int (v5_18))]) hx hb dX8_cannot_120 rfl hl (Nat.le_of_ble_eq_true rfl) rfl (fun ls hl => ?_)
                  exact hJ121 (v1_17 ||| r_28) M_27 _ _ _ hP hS (lv_sub hl [2, 3, 4, 5, 0] rfl) h
          exact hL61 fuelN (v1_4 ||| r_14) 0 M_13 _ _ _ hP hS (lv_sub hl [3, 4, 5, 1, 0] rfl) h
  exact hL20 fuelN r_1 0 M _ _ _ hP hS (lv_sub hl [3, 1, 2, 0] rfl) h
noncomputable def FX8_here  (M : MM) : Option Int32 :=
  (if (M.1 0 9) ≤ (M.1 0 15) then some (-1) else (if inb (M.1 0 15) 240 then some (M.1 7 (ix (M.1 0 15))) else none))
set_option maxHeartbeats 4000000 in
set_option maxRecDepth 100000 in
theorem tX8_here (l : Launch) (dC : Nat → ClassId) (dI : Nat → Nat → Nat) (kI kZ : ClassId) (ad : Nat → Nat)  (M : MM)  {r0 : Int32} (h : FX8_here  M = some r0) : Met l yX8_here (wsA yX8_here cX8_here 1 (some .int)) ({ frames := 0, cells := 0, slots := 0, locals := 0 } : Room) (va_Pc [.ref (ad (0))] (gI (m_Wd dC dI kI kZ ad) (m_Kn dC dI kI kZ ad) M)) (va_Qi (fun (r : Int32) (u : MM) => r = r0 ∧ u = M) (gI (m_Wd dC dI kI kZ ad) (m_Kn dC dI kI kZ ad)) (m_A ad)) 0 0 (m_A ad) := by
  refine Met.ofW (cc := cX8_here) (maxL := 1) (ret := (some .int)) (by decide) rfl ?_
  intro p e s m args below meth c s₁ B hml hv
  obtain ⟨rfl, hP, hKn⟩ := hv
  have hx := B.exec
  have hb := B.bytes
  have hr := B.returns
  have hts := atoms_spec (ws := wsA yX8_here cX8_here 1 (some .int)) B.pre
  have hg : ∀ w ∈ lw_good, w.before _ s = true := fun w h => hts w (List.mem_cons_of_mem _ h)
  have hown : s.vm.findClass RX8 = some m.cls := findClass_of_methodNamed B.named
  have hlocks := B.notSynchronized
  have hS : va_S (m_A ad) s.heap s.heap [] := va_S.rf
  have hFx : gFix p c cX8_here 1 s m _ RX8 := ⟨hx, hb, hml, hown, hg⟩
  have hP : va_P (dC, dI) vwCl (m_w kI kZ ad M.1 M.2) s.heap := hP
  have hl := lv_entry ([.ref (ad (0))]) (n := 1) (Nat.le_of_ble_eq_true rfl)
  rw [lg_entry_eq]
  generalize (lg_sl ([.ref (ad (0))]) ++ List.replicate (1 - (lg_sl ([.ref (ad (0))])).length) Slot.unset).toArray = ls at hl ⊢
  have hl : lv_has ls 1 [(0, .ref (ad (0)))] := hl
  unfold FX8_here at h
  refine lv_aload_n hx hb dX8_here_0 rfl (lv_at hl 0 rfl) ?_
  refine va_get (D := (dC, dI)) (ci := 8) (v := .int ((M.1 0 15))) (C := RX8) (T := TX8) (N := 29) hx hb hg inX8 hown hKn.1 hP (0) (m_at8 (c := 0) (by decide)) rfl 15 (Nat.le_of_ble_eq_true rfl) (hg _ lkF_X8_83) (fun _ h9 => h9) rfl dX8_here_1 ?_
  refine lv_aload_n hx hb dX8_here_4 rfl (lv_at hl 0 rfl) ?_
  refine va_get (D := (dC, dI)) (ci := 8) (v := .int ((M.1 0 9))) (C := RX8) (T := TX8) (N := 29) hx hb hg inX8 hown hKn.1 hP (0) (m_at8 (c := 0) (by decide)) rfl 9 (Nat.le_of_ble_eq_true rfl) (hg _ lkF_X8_79) (fun _ h9 => h9) rfl dX8_here_5 ?_
  refine lv_icmp_ge (tgt := 23) hx hb dX8_here_8 (by decide) (fun c_1 => ?_) (fun c_1 => ?_)
  · have h := ife_t c_1 h
    refine lv_iconst (v := -1) hx hb dX8_here_23 (by decide) ?_
    exact W.iret (v := (-1)) hx hb hr (fun t ht hW => ⟨⟨(-1), M, rfl, ⟨Option.some.inj h, rfl⟩, by rw [ht]; exact hP, m_KnW hKn t hW⟩, hS.F ht⟩) hS.2.2 dX8_here_24
  · have h := ife_f c_1 h
    refine lv_aload_n hx hb dX8_here_11 rfl (lv_at hl 0 rfl) ?_
    refine va_get (D := (dC, dI)) (ci := 8) (v := .ref (ad (7))) (C := RX8) (T := TX8) (N := 29) hx hb hg inX8 hown hKn.1 hP (0) (m_at8 (c := 0) (by decide)) rfl 8 (Nat.le_of_ble_eq_true rfl) (hg _ lkF_X8_29) (fun _ h9 => h9) rfl dX8_here_12 ?_
    refine lv_aload_n hx hb dX8_here_15 rfl (lv_at hl 0 rfl) ?_
    refine va_get (D := (dC, dI)) (ci := 8) (v := .int ((M.1 0 15))) (C := RX8) (T := TX8) (N := 29) hx hb hg inX8 hown hKn.1 hP (0) (m_at8 (c := 0) (by decide)) rfl 15 (Nat.le_of_ble_eq_true rfl) (hg _ lkF_X8_83) (fun _ h9 => h9) rfl dX8_here_16 ?_
    obtain ⟨hi19, h⟩ := if_use h
    refine m_iald (M := M) (a := 7) hx hb hKn hP (by decide) (j := (ix (M.1 0 15))) rfl hi19 dX8_here_19 ?_
    refine lv_goto (tgt := 24) hx hb dX8_here_20 (by decide) ?_
    exact W.iret (v := (M.1 7 (ix (M.1 0 15)))) hx hb hr (fun t ht hW => ⟨⟨(M.1 7 (ix (M.1 0 15))), M, rfl, ⟨Option.some.inj h, rfl⟩, by rw [ht]; exact hP, m_KnW hKn t hW⟩, hS.F ht⟩) hS.2.2 dX8_here_24
noncomputable def FX8_step_L93 (K : MM → Option MM) (k : Nat) (M_6 : MM) : Option MM := match k with
  | 0 => none
  | k + 1 => bo (FX8_here  M_6) (fun (r_7 : Int32) => bo (FX8_in ((r_7).toInt64) 48 57) (fun (r_8 : Int32) => (if r_8 = 0 then K M_6 else jn (α := Int32 → Option MM) (fun (s_10 : Int32) => FX8_step_L93 K k (um (um (um M_6 0 19 s_10) 0 18 (((um M_6 0 19 s_10).1 0 18) + 1)) 0 15 (((um (um M_6 0 19 s_10) 0 18 (((um M_6 0 19 s_10).1 0 18) + 1)).1 0 15) + 1))) (fun J141 => (if 3 ≤ (M_6.1 0 18) then J141 (M_6.1 0 19) else bo (FX8_here  M_6) (fun (r_12 : Int32) => J141 (((10 * (M_6.1 0 19)) + r_12) - 48)))))))
noncomputable def FX8_step_L0 (K : MM → Option MM) (k : Nat) (M_15 : MM) : Option MM := match k with
  | 0 => none
  | k + 1 => bo (FX8_here  M_15) (fun (r_16 : Int32) => (if r_16 = 32 then FX8_step_L0 K k (um M_15 0 15 ((M_15.1 0 15) + 1)) else K M_15))
noncomputable def FX8_step  (M : MM) : Option MM :=
  FX8_step_L0 (fun (M_1 : MM) => bo (FX8_here  (um M_1 0 16 (M_1.1 0 15))) (fun (r_2 : Int32) => bo (FX8_in ((((um (um (um (um M_1 0 16 (M_1.1 0 15)) 0 17 r_2) 0 18 0) 0 19 0).1 0 17)).toInt64) 48 57) (fun (r_3 : Int32) => (if r_3 = 0 then jn (α := Int32 → Option MM) (fun (s_13 : Int32) => some (um (um (um (um (um M_1 0 16 (M_1.1 0 15)) 0 17 r_2) 0 18 0) 0 19 0) 0 15 (((um (um (um (um M_1 0 16 (M_1.1 0 15)) 0 17 r_2) 0 18 0) 0 19 0).1 0 15) + s_13))) (fun J82 => (if 0 ≤ ((um (um (um (um M_1 0 16 (M_1.1 0 15)) 0 17 r_2) 0 18 0) 0 19 0).1 0 17) then J82 1 else J82 0)) else FX8_step_L93 (fun (M_5 : MM) => some M_5) fuelN (um (um (um (um (um M_1 0 16 (M_1.1 0 15)) 0 17 r_2) 0 18 0) 0 19 0) 0 17 48))))) fuelN M
set_option maxHeartbeats 4000000 in
set_option maxRecDepth 100000 in
theorem tX8_step (l : Launch) (dC : Nat → ClassId) (dI : Nat → Nat → Nat) (kI kZ : ClassId) (ad : Nat → Nat)  (M : MM)  {M0 : MM} (h : FX8_step  M = some M0) : Met l yX8_step (wsA yX8_step cX8_step 1 none) ({ frames := 1, cells := 0, slots := 0, locals := 25 } : Room) (va_Pc [.ref (ad (0))] (gI (m_Wd dC dI kI kZ ad) (m_Kn dC dI kI kZ ad) M)) (va_Qv (fun (u : MM) => u = M0) (gI (m_Wd dC dI kI kZ ad) (m_Kn dC dI kI kZ ad)) (m_A ad)) 0 0 (m_A ad) := by
  refine Met.ofW (cc := cX8_step) (maxL := 1) (ret := none) (by decide) rfl ?_
  intro p e s m args below meth c s₁ B hml hv
  obtain ⟨rfl, hP, hKn⟩ := hv
  have hx := B.exec
  have hb := B.bytes
  have hr := B.returns
  have hts := atoms_spec (ws := wsA yX8_step cX8_step 1 none) B.pre
  have hg : ∀ w ∈ lw_good, w.before _ s = true := fun w h => hts w (List.mem_cons_of_mem _ h)
  have hown : s.vm.findClass RX8 = some m.cls := findClass_of_methodNamed B.named
  have hlocks := B.notSynchronized
  have hS : va_S (m_A ad) s.heap s.heap [] := va_S.rf
  have hFx : gFix p c cX8_step 1 s m _ RX8 := ⟨hx, hb, hml, hown, hg⟩
  have hP : va_P (dC, dI) vwCl (m_w kI kZ ad M.1 M.2) s.heap := hP
  have hl := lv_entry ([.ref (ad (0))]) (n := 1) (Nat.le_of_ble_eq_true rfl)
  rw [lg_entry_eq]
  generalize (lg_sl ([.ref (ad (0))]) ++ List.replicate (1 - (lg_sl ([.ref (ad (0))])).length) Slot.unset).toArray = ls at hl ⊢
  have hl : lv_has ls 1 [(0, .ref (ad (0)))] := hl
  unfold FX8_step at h
  obtain ⟨K0, eK0, h⟩ := exK (Lp := fun K => FX8_step_L0 K fuelN M) h
  have hK0 : ∀ (M_1 : MM) (H : Heap) (locs : List Loc) (ls : Array Slot), va_P (dC, dI) vwCl (m_w kI kZ ad M_1.1 M_1.2) H → va_S (m_A ad) s.heap H locs → lv_has ls 1 [(0, .ref (ad (0)))] → K0 M_1 = some M0 → W p l e (headSpec (wsA yX8_step cX8_step 1 none) ({ frames := 1, cells := 0, slots := 0, locals := 25 } : Room)).room s m (([.ref (ad (0))] : List Value).toArray) below meth c H locs 0 0 (MQ below (va_Qv (fun (u : MM) => u = M0) (gI (m_Wd dC dI kI kZ ad) (m_Kn dC dI kI kZ ad)) (m_A ad)) (([.ref (ad (0))] : List Value).toArray) s 0 0 (m_A ad)) (F0 m 22 ls []) := by
    intro M_1 H locs ls hP hS hl h
    have h := useK1 eK0 h
    refine lv_aload_n hx hb dX8_step_22 rfl (lv_at hl 0 rfl) ?_
    refine lv_aload_n hx hb dX8_step_23 rfl (lv_at hl 0 rfl) ?_
    refine va_get (D := (dC, dI)) (ci := 8) (v := .int ((M_1.1 0 15))) (C := RX8) (T := TX8) (N := 29) hx hb hg inX8 hown hKn.1 hP (0) (m_at8 (c := 0) (by decide)) rfl 15 (Nat.le_of_ble_eq_true rfl) (hg _ lkF_X8_83) (fun _ h9 => h9) rfl dX8_step_24 ?_
    refine va_put (D := (dC, dI)) (ci := 8) (v := .int ((M_1.1 0 15))) (ty := .int) (C := RX8) (T := TX8) (N := 29) hx hb hg inX8 tyX8 tyX8_ok nmX8 hown hKn.1 hP (m_D hKn.2.1) hS (0) (m_at8 (c := 0) (by decide)) rfl 16 (Nat.le_of_ble_eq_true rfl) (hg _ lkF_X8_90) (fun _ h9 => h9) rfl (by decide +kernel) rfl rfl (Nat.le_of_ble_eq_true rfl) dX8_step_27 (fun H locs hP _ hS => ?_)
    have hP : va_P (dC, dI) vwCl (m_w kI kZ ad (um M_1 0 16 (M_1.1 0 15)).1 (um M_1 0 16 (M_1.1 0 15)).2) H := vp_eq (m_put8_16 (by decide) _) hP
    refine lv_aload_n hx hb dX8_step_30 rfl (lv_at hl 0 rfl) ?_
    refine lv_aload_n hx hb dX8_step_31 rfl (lv_at hl 0 rfl) ?_
    obtain ⟨r_2, e32, h⟩ := bo_use h
    refine gc_i (va_runV (As := []) (rest := [.ref (ad (0))]) hFx (tX8_here l dC dI kI kZ ad  (um M_1 0 16 (M_1.1 0 15))  e32) ⟨(gc_B hFx ck_yX8_here lkM_X8_86 ⟨Nat.le_of_ble_eq_true rfl, Nat.le_of_ble_eq_true rfl⟩ rfl rfl), hg _ vi_yX8_here, hg _ vs_yX8_here⟩ (gp_V m_KnB (m_KnW hKn) hP (m_rc8 (c := 0) (by decide) hKn hP)) rfl rfl hl.1 rfl (lv_room (Nat.le_of_ble_eq_true rfl)) dX8_step_32 ⟨Nat.zero_le _, Nat.zero_le _⟩) hS (fun H locs hP hS => ?_)
    have hP : va_P (dC, dI) vwCl (m_w kI kZ ad (um M_1 0 16 (M_1.1 0 15)).1 (um M_1 0 16 (M_1.1 0 15)).2) H := hP
    refine va_put (D := (dC, dI)) (ci := 8) (v := .int (r_2)) (ty := .int) (C := RX8) (T := TX8) (N := 29) hx hb hg inX8 tyX8 tyX8_ok nmX8 hown hKn.1 hP (m_D hKn.2.1) hS (0) (m_at8 (c := 0) (by decide)) rfl 17 (Nat.le_of_ble_eq_true rfl) (hg _ lkF_X8_93) (fun _ h9 => h9) rfl (by decide +kernel) rfl rfl (Nat.le_of_ble_eq_true rfl) dX8_step_35 (fun H locs hP _ hS => ?_)
    have hP : va_P (dC, dI) vwCl (m_w kI kZ ad (um (um M_1 0 16 (M_1.1 0 15)) 0 17 r_2).1 (um (um M_1 0 16 (M_1.1 0 15)) 0 17 r_2).2) H := vp_eq (m_put8_17 (by decide) _) hP
    refine lv_aload_n hx hb dX8_step_38 rfl (lv_at hl 0 rfl) ?_
    refine lv_iconst (v := 0) hx hb dX8_step_39 (by decide) ?_
    refine va_put (D := (dC, dI)) (ci := 8) (v := .int (0)) (ty := .int) (C := RX8) (T := TX8) (N := 29) hx hb hg inX8 tyX8 tyX8_ok nmX8 hown hKn.1 hP (m_D hKn.2.1) hS (0) (m_at8 (c := 0) (by decide)) rfl 18 (Nat.le_of_ble_eq_true rfl) (hg _ lkF_X8_96) (fun _ h9 => h9) rfl (by decide +kernel) rfl rfl (Nat.le_of_ble_eq_true rfl) dX8_step_40 (fun H locs hP _ hS => ?_)
    have hP : va_P (dC, dI) vwCl (m_w kI kZ ad (um (um (um M_1 0 16 (M_1.1 0 15)) 0 17 r_2) 0 18 0).1 (um (um (um M_1 0 16 (M_1.1 0 15)) 0 17 r_2) 0 18 0).2) H := vp_eq (m_put8_18 (by decide) _) hP
    refine lv_aload_n hx hb dX8_step_43 rfl (lv_at hl 0 rfl) ?_
    refine lv_iconst (v := 0) hx hb dX8_step_44 (by decide) ?_
    refine va_put (D := (dC, dI)) (ci := 8) (v := .int (0)) (ty := .int) (C := RX8) (T := TX8) (N := 29) hx hb hg inX8 tyX8 tyX8_ok nmX8 hown hKn.1 hP (m_D hKn.2.1) hS (0) (m_at8 (c := 0) (by decide)) rfl 19 (Nat.le_of_ble_eq_true rfl) (hg _ lkF_X8_99) (fun _ h9 => h9) rfl (by decide +kernel) rfl rfl (Nat.le_of_ble_eq_true rfl) dX8_step_45 (fun H locs hP _ hS => ?_)
    have hP : va_P (dC, dI) vwCl (m_w kI kZ ad (um (um (um (um M_1 0 16 (M_1.1 0 15)) 0 17 r_2) 0 18 0) 0 19 0).1 (um (um (um (um M_1 0 16 (M_1.1 0 15)) 0 17 r_2) 0 18 0) 0 19 0).2) H := vp_eq (m_put8_19 (by decide) _) hP
    refine lv_aload_n hx hb dX8_step_48 rfl (lv_at hl 0 rfl) ?_
    refine va_get (D := (dC, dI)) (ci := 8) (v := .int (((um (um (um (um M_1 0 16 (M_1.1 0 15)) 0 17 r_2) 0 18 0) 0 19 0).1 0 17))) (C := RX8) (T := TX8) (N := 29) hx hb hg inX8 hown hKn.1 hP (0) (m_at8 (c := 0) (by decide)) rfl 17 (Nat.le_of_ble_eq_true rfl) (hg _ lkF_X8_93) (fun _ h9 => h9) rfl dX8_step_49 ?_
    refine lv_i2l (v := ((((um (um (um (um M_1 0 16 (M_1.1 0 15)) 0 17 r_2) 0 18 0) 0 19 0).1 0 17)).toInt64)) hx hb dX8_step_52 rfl ?_
    refine lv_ldc2 hx hb hown (hg _ kc_X8_102) dX8_step_53 ?_
    refine lv_ldc2 hx hb hown (hg _ kc_X8_104) dX8_step_56 ?_
    obtain ⟨r_3, e59, h⟩ := bo_use h
    refine gc_i (va_runS (As := [.long (((((um (um (um (um M_1 0 16 (M_1.1 0 15)) 0 17 r_2) 0 18 0) 0 19 0).1 0 17)).toInt64)), .long (48), .long (57)]) (rest := []) hFx (tX8_in l dC dI kI kZ ad ((((um (um (um (um M_1 0 16 (M_1.1 0 15)) 0 17 r_2) 0 18 0) 0 19 0).1 0 17)).toInt64) 48 57 (um (um (um (um M_1 0 16 (M_1.1 0 15)) 0 17 r_2) 0 18 0) 0 19 0)  e59) ⟨(gc_B hFx ck_yX8_in lkM_X8_74 ⟨Nat.le_of_ble_eq_true rfl, Nat.le_of_ble_eq_true rfl⟩ rfl rfl), hg _ st_yX8_in⟩ (gp_S m_KnB (m_KnW hKn) hP) rfl rfl hl.1 rfl (lv_room (Nat.le_of_ble_eq_true rfl)) dX8_step_59 ⟨Nat.zero_le _, Nat.zero_le _⟩) hS (fun H locs hP hS => ?_)
    have hP : va_P (dC, dI) vwCl (m_w kI kZ ad (um (um (um (um M_1 0 16 (M_1.1 0 15)) 0 17 r_2) 0 18 0) 0 19 0).1 (um (um (um (um M_1 0 16 (M_1.1 0 15)) 0 17 r_2) 0 18 0) 0 19 0).2) H := hP
    refine lv_if_ne (tgt := 87) hx hb dX8_step_62 (by decide) (fun c_4 => ?_) (fun c_4 => ?_)
    · have h := ife_f c_4 h
      refine lv_aload_n hx hb dX8_step_87 rfl (lv_at hl 0 rfl) ?_
      refine lv_bipush (v := 48) hx hb dX8_step_88 (by decide) ?_
      refine va_put (D := (dC, dI)) (ci := 8) (v := .int (48)) (ty := .int) (C := RX8) (T := TX8) (N := 29) hx hb hg inX8 tyX8 tyX8_ok nmX8 hown hKn.1 hP (m_D hKn.2.1) hS (0) (m_at8 (c := 0) (by decide)) rfl 17 (Nat.le_of_ble_eq_true rfl) (hg _ lkF_X8_93) (fun _ h9 => h9) rfl (by decide +kernel) rfl rfl (Nat.le_of_ble_eq_true rfl) dX8_step_90 (fun H locs hP _ hS => ?_)
      have hP : va_P (dC, dI) vwCl (m_w kI kZ ad (um (um (um (um (um M_1 0 16 (M_1.1 0 15)) 0 17 r_2) 0 18 0) 0 19 0) 0 17 48).1 (um (um (um (um (um M_1 0 16 (M_1.1 0 15)) 0 17 r_2) 0 18 0) 0 19 0) 0 17 48).2) H := vp_eq (m_put8_17 (by decide) _) hP
      obtain ⟨K93, eK93, h⟩ := exK (Lp := fun K => FX8_step_L93 K fuelN (um (um (um (um (um M_1 0 16 (M_1.1 0 15)) 0 17 r_2) 0 18 0) 0 19 0) 0 17 48)) h
      have hK93 : ∀ (M_5 : MM) (H : Heap) (locs : List Loc) (ls : Array Slot), va_P (dC, dI) vwCl (m_w kI kZ ad M_5.1 M_5.2) H → va_S (m_A ad) s.heap H locs → lv_has ls 1 [] → K93 M_5 = some M0 → W p l e (headSpec (wsA yX8_step cX8_step 1 none) ({ frames := 1, cells := 0, slots := 0, locals := 25 } : Room)).room s m (([.ref (ad (0))] : List Value).toArray) below meth c H locs 0 0 (MQ below (va_Qv (fun (u : MM) => u = M0) (gI (m_Wd dC dI kI kZ ad) (m_Kn dC dI kI kZ ad)) (m_A ad)) (([.ref (ad (0))] : List Value).toArray) s 0 0 (m_A ad)) (F0 m 167 ls []) := by
        intro M_5 H locs ls hP hS hl h
        have h := useK1 eK93 h
        exact W.vret hx hb hr (fun t ht hW => ⟨⟨M_5, rfl, Option.some.inj h, by rw [ht]; exact hP, m_KnW hKn t hW⟩, hS.F ht⟩) hS.2.2 dX8_step_167
      have hL93 : ∀ (k : Nat) (M_6 : MM) (H : Heap) (locs : List Loc) (ls : Array Slot), va_P (dC, dI) vwCl (m_w kI kZ ad M_6.1 M_6.2) H → va_S (m_A ad) s.heap H locs → lv_has ls 1 [(0, .ref (ad (0)))] → FX8_step_L93 K93 k  M_6 = some M0 → W p l e (headSpec (wsA yX8_step cX8_step 1 none) ({ frames := 1, cells := 0, slots := 0, locals := 25 } : Room)).room s m (([.ref (ad (0))] : List Value).toArray) below meth c H locs 0 0 (MQ below (va_Qv (fun (u : MM) => u = M0) (gI (m_Wd dC dI kI kZ ad) (m_Kn dC dI kI kZ ad)) (m_A ad)) (([.ref (ad (0))] : List Value).toArray) s 0 0 (m_A ad)) (F0 m 93 ls []) := by
        intro k
        induction k with
        | zero => intro M_6 H locs ls hP hS hl h; cases h
        | succ k ih93 =>
          intro M_6 H locs ls hP hS hl h
          unfold FX8_step_L93 at h
          refine lv_aload_n hx hb dX8_step_93 rfl (lv_at hl 0 rfl) ?_
          obtain ⟨r_7, e94, h⟩ := bo_use h
          refine gc_i (va_runV (As := []) (rest := []) hFx (tX8_here l dC dI kI kZ ad  M_6  e94) ⟨(gc_B hFx ck_yX8_here lkM_X8_86 ⟨Nat.le_of_ble_eq_true rfl, Nat.le_of_ble_eq_true rfl⟩ rfl rfl), hg _ vi_yX8_here, hg _ vs_yX8_here⟩ (gp_V m_KnB (m_KnW hKn) hP (m_rc8 (c := 0) (by decide) hKn hP)) rfl rfl hl.1 rfl (lv_room (Nat.le_of_ble_eq_true rfl)) dX8_step_94 ⟨Nat.zero_le _, Nat.zero_le _⟩) hS (fun H locs hP hS => ?_)
          have hP : va_P (dC, dI) vwCl (m_w kI kZ ad M_6.1 M_6.2) H := hP
          refine lv_i2l (v := ((r_7).toInt64)) hx hb dX8_step_97 rfl ?_
          refine lv_ldc2 hx hb hown (hg _ kc_X8_102) dX8_step_98 ?_
          refine lv_ldc2 hx hb hown (hg _ kc_X8_104) dX8_step_101 ?_
          obtain ⟨r_8, e104, h⟩ := bo_use h
          refine gc_i (va_runS (As := [.long (((r_7).toInt64)), .long (48), .long (57)]) (rest := []) hFx (tX8_in l dC dI kI kZ ad ((r_7).toInt64) 48 57 M_6  e104) ⟨(gc_B hFx ck_yX8_in lkM_X8_74 ⟨Nat.le_of_ble_eq_true rfl, Nat.le_of_ble_eq_true rfl⟩ rfl rfl), hg _ st_yX8_in⟩ (gp_S m_KnB (m_KnW hKn) hP) rfl rfl hl.1 rfl (lv_room (Nat.le_of_ble_eq_true rfl)) dX8_step_104 ⟨Nat.zero_le _, Nat.zero_le _⟩) hS (fun H locs hP hS => ?_)
          have hP : va_P (dC, dI) vwCl (m_w kI kZ ad M_6.1 M_6.2) H := hP
          refine lv_if_eq (tgt := 167) hx hb dX8_step_107 (by decide) (fun c_9 => ?_) (fun c_9 => ?_)
          · have h := ife_t c_9 h
            exact hK93 M_6 _ _ _ hP hS (lv_sub hl [] rfl) h
          · have h := ife_f c_9 h
            refine lv_aload_n hx hb dX8_step_110 rfl (lv_at hl 0 rfl) ?_
            refine lv_aload_n hx hb dX8_step_111 rfl (lv_at hl 0 rfl) ?_
            refine va_get (D := (dC, dI)) (ci := 8) (v := .int ((M_6.1 0 18))) (C := RX8) (T := TX8) (N := 29) hx hb hg inX8 hown hKn.1 hP (0) (m_at8 (c := 0) (by decide)) rfl 18 (Nat.le_of_ble_eq_true rfl) (hg _ lkF_X8_96) (fun _ h9 => h9) rfl dX8_step_112 ?_
            refine lv_iconst (v := 3) hx hb dX8_step_115 (by decide) ?_
            obtain ⟨J141, eJ141, h⟩ := jn_use h
            have hJ141 : ∀ (s_10 : Int32) (H : Heap) (locs : List Loc) (ls : Array Slot), va_P (dC, dI) vwCl (m_w kI kZ ad M_6.1 M_6.2) H → va_S (m_A ad) s.heap H locs → lv_has ls 1 [(0, .ref (ad (0)))] → J141 s_10 = some M0 → W p l e (headSpec (wsA yX8_step cX8_step 1 none) ({ frames := 1, cells := 0, slots := 0, locals := 25 } : Room)).room s m (([.ref (ad (0))] : List Value).toArray) below meth c H locs 0 0 (MQ below (va_Qv (fun (u : MM) => u = M0) (gI (m_Wd dC dI kI kZ ad) (m_Kn dC dI kI kZ ad)) (m_A ad)) (([.ref (ad (0))] : List Value).toArray) s 0 0 (m_A ad)) (F0 m 141 ls [.int (s_10), .ref (ad (0))]) := by
              intro s_10 H locs ls hP hS hl h
              have h := useK1 eJ141 h
              refine va_put (D := (dC, dI)) (ci := 8) (v := .int (s_10)) (ty := .int) (C := RX8) (T := TX8) (N := 29) hx hb hg inX8 tyX8 tyX8_ok nmX8 hown hKn.1 hP (m_D hKn.2.1) hS (0) (m_at8 (c := 0) (by decide)) rfl 19 (Nat.le_of_ble_eq_true rfl) (hg _ lkF_X8_99) (fun _ h9 => h9) rfl (by decide +kernel) rfl rfl (Nat.le_of_ble_eq_true rfl) dX8_step_141 (fun H locs hP _ hS => ?_)
              have hP : va_P (dC, dI) vwCl (m_w kI kZ ad (um M_6 0 19 s_10).1 (um M_6 0 19 s_10).2) H := vp_eq (m_put8_19 (by decide) _) hP
              refine lv_aload_n hx hb dX8_step_144 rfl (lv_at hl 0 rfl) ?_
              refine lv_dup hx hb dX8_step_145 rfl ?_
              refine va_get (D := (dC, dI)) (ci := 8) (v := .int (((um M_6 0 19 s_10).1 0 18))) (C := RX8) (T := TX8) (N := 29) hx hb hg inX8 hown hKn.1 hP (0) (m_at8 (c := 0) (by decide)) rfl 18 (Nat.le_of_ble_eq_true rfl) (hg _ lkF_X8_96) (fun _ h9 => h9) rfl dX8_step_146 ?_
              refine lv_iconst (v := 1) hx hb dX8_step_149 (by decide) ?_
              refine lv_iadd hx hb dX8_step_150 ?_
              refine va_put (D := (dC, dI)) (ci := 8) (v := .int ((((um M_6 0 19 s_10).1 0 18) + 1))) (ty := .int) (C := RX8) (T := TX8) (N := 29) hx hb hg inX8 tyX8 tyX8_ok nmX8 hown hKn.1 hP (m_D hKn.2.1) hS (0) (m_at8 (c := 0) (by decide)) rfl 18 (Nat.le_of_ble_eq_true rfl) (hg _ lkF_X8_96) (fun _ h9 => h9) rfl (by decide +kernel) rfl rfl (Nat.le_of_ble_eq_true rfl) dX8_step_151 (fun H locs hP _ hS => ?_)
              have hP : va_P (dC, dI) vwCl (m_w kI kZ ad (um (um M_6 0 19 s_10) 0 18 (((um M_6 0 19 s_10).1 0 18) + 1)).1 (um (um M_6 0 19 s_10) 0 18 (((um M_6 0 19 s_10).1 0 18) + 1)).2) H := vp_eq (m_put8_18 (by decide) _) hP
              refine lv_aload_n hx hb dX8_step_154 rfl (lv_at hl 0 rfl) ?_
              refine lv_dup hx hb dX8_step_155 rfl ?_
              refine va_get (D := (dC, dI)) (ci := 8) (v := .int (((um (um M_6 0 19 s_10) 0 18 (((um M_6 0 19 s_10).1 0 18) + 1)).1 0 15))) (C := RX8) (T := TX8) (N := 29) hx hb hg inX8 hown hKn.1 hP (0) (m_at8 (c := 0) (by decide)) rfl 15 (Nat.le_of_ble_eq_true rfl) (hg _ lkF_X8_83) (fun _ h9 => h9) rfl dX8_step_156 ?_
              refine lv_iconst (v := 1) hx hb dX8_step_159 (by decide) ?_
              refine lv_iadd hx hb dX8_step_160 ?_
              refine va_put (D := (dC, dI)) (ci := 8) (v := .int ((((um (um M_6 0 19 s_10) 0 18 (((um M_6 0 19 s_10).1 0 18) + 1)).1 0 15) + 1))) (ty := .int) (C := RX8) (T := TX8) (N := 29) hx hb hg inX8 tyX8 tyX8_ok nmX8 hown hKn.1 hP (m_D hKn.2.1) hS (0) (m_at8 (c := 0) (by decide)) rfl 15 (Nat.le_of_ble_eq_true rfl) (hg _ lkF_X8_83) (fun _ h9 => h9) rfl (by decide +kernel) rfl rfl (Nat.le_of_ble_eq_true rfl) dX8_step_161 (fun H locs hP _ hS => ?_)
              have hP : va_P (dC, dI) vwCl (m_w kI kZ ad (um (um (um M_6 0 19 s_10) 0 18 (((um M_6 0 19 s_10).1 0 18) + 1)) 0 15 (((um (um M_6 0 19 s_10) 0 18 (((um M_6 0 19 s_10).1 0 18) + 1)).1 0 15) + 1)).1 (um (um (um M_6 0 19 s_10) 0 18 (((um M_6 0 19 s_10).1 0 18) + 1)) 0 15 (((um (um M_6 0 19 s_10) 0 18 (((um M_6 0 19 s_10).1 0 18) + 1)).1 0 15) + 1)).2) H := vp_eq (m_put8_15 (by decide) _) hP
              refine lv_goto (tgt := 93) hx hb dX8_step_164 (by decide) ?_
              exact ih93 (um (um (um M_6 0 19 s_10) 0 18 (((um M_6 0 19 s_10).1 0 18) + 1)) 0 15 (((um (um M_6 0 19 s_10) 0 18 (((um M_6 0 19 s_10).1 0 18) + 1)).1 0 15) + 1)) _ _ _ hP hS (lv_sub hl [0] rfl) h
            refine lv_icmp_ge (tgt := 137) hx hb dX8_step_116 (by decide) (fun c_11 => ?_) (fun c_11 => ?_)
            · have h := ife_t c_11 h
              refine lv_aload_n hx hb dX8_step_137 rfl (lv_at hl 0 rfl) ?_
              refine va_get (D := (dC, dI)) (ci := 8) (v := .int ((M_6.1 0 19))) (C := RX8) (T := TX8) (N := 29) hx hb hg inX8 hown hKn.1 hP (0) (m_at8 (c := 0) (by decide)) rfl 19 (Nat.le_of_ble_eq_true rfl) (hg _ lkF_X8_99) (fun _ h9 => h9) rfl dX8_step_138 ?_
              exact hJ141 (M_6.1 0 19) _ _ _ hP hS (lv_sub hl [0] rfl) h
            · have h := ife_f c_11 h
              refine lv_bipush (v := 10) hx hb dX8_step_119 (by decide) ?_
              refine lv_aload_n hx hb dX8_step_121 rfl (lv_at hl 0 rfl) ?_
              refine va_get (D := (dC, dI)) (ci := 8) (v := .int ((M_6.1 0 19))) (C := RX8) (T := TX8) (N := 29) hx hb hg inX8 hown hKn.1 hP (0) (m_at8 (c := 0) (by decide)) rfl 19 (Nat.le_of_ble_eq_true rfl) (hg _ lkF_X8_99) (fun _ h9 => h9) rfl dX8_step_122 ?_
              refine lv_imul hx hb dX8_step_125 ?_
              refine lv_aload_n hx hb dX8_step_126 rfl (lv_at hl 0 rfl) ?_
              obtain ⟨r_12, e127, h⟩ := bo_use h
              refine gc_i (va_runV (As := []) (rest := [.int ((10 * (M_6.1 0 19))), .ref (ad (0))]) hFx (tX8_here l dC dI kI kZ ad  M_6  e127) ⟨(gc_B hFx ck_yX8_here lkM_X8_86 ⟨Nat.le_of_ble_eq_true rfl, Nat.le_of_ble_eq_true rfl⟩ rfl rfl), hg _ vi_yX8_here, hg _ vs_yX8_here⟩ (gp_V m_KnB (m_KnW hKn) hP (m_rc8 (c := 0) (by decide) hKn hP)) rfl rfl hl.1 rfl (lv_room (Nat.le_of_ble_eq_true rfl)) dX8_step_127 ⟨Nat.zero_le _, Nat.zero_le _⟩) hS (fun H locs hP hS => ?_)
              have hP : va_P (dC, dI) vwCl (m_w kI kZ ad M_6.1 M_6.2) H := hP
              refine lv_iadd hx hb dX8_step_130 ?_
              refine lv_bipush (v := 48) hx hb dX8_step_131 (by decide) ?_
              refine lv_isub hx hb dX8_step_133 ?_
              refine lv_goto (tgt := 141) hx hb dX8_step_134 (by decide) ?_
              exact hJ141 (((10 * (M_6.1 0 19)) + r_12) - 48) _ _ _ hP hS (lv_sub hl [0] rfl) h
      exact hL93 fuelN (um (um (um (um (um M_1 0 16 (M_1.1 0 15)) 0 17 r_2) 0 18 0) 0 19 0) 0 17 48) _ _ _ hP hS (lv_sub hl [0] rfl) h
    · have h := ife_t c_4 h
      refine lv_aload_n hx hb dX8_step_65 rfl (lv_at hl 0 rfl) ?_
      refine lv_dup hx hb dX8_step_66 rfl ?_
      refine va_get (D := (dC, dI)) (ci := 8) (v := .int (((um (um (um (um M_1 0 16 (M_1.1 0 15)) 0 17 r_2) 0 18 0) 0 19 0).1 0 15))) (C := RX8) (T := TX8) (N := 29) hx hb hg inX8 hown hKn.1 hP (0) (m_at8 (c := 0) (by decide)) rfl 15 (Nat.le_of_ble_eq_true rfl) (hg _ lkF_X8_83) (fun _ h9 => h9) rfl dX8_step_67 ?_
      refine lv_aload_n hx hb dX8_step_70 rfl (lv_at hl 0 rfl) ?_
      refine va_get (D := (dC, dI)) (ci := 8) (v := .int (((um (um (um (um M_1 0 16 (M_1.1 0 15)) 0 17 r_2) 0 18 0) 0 19 0).1 0 17))) (C := RX8) (T := TX8) (N := 29) hx hb hg inX8 hown hKn.1 hP (0) (m_at8 (c := 0) (by decide)) rfl 17 (Nat.le_of_ble_eq_true rfl) (hg _ lkF_X8_93) (fun _ h9 => h9) rfl dX8_step_71 ?_
      obtain ⟨J82, eJ82, h⟩ := jn_use h
      have hJ82 : ∀ (s_13 : Int32) (H : Heap) (locs : List Loc) (ls : Array Slot), va_P (dC, dI) vwCl (m_w kI kZ ad (um (um (um (um M_1 0 16 (M_1.1 0 15)) 0 17 r_2) 0 18 0) 0 19 0).1 (um (um (um (um M_1 0 16 (M_1.1 0 15)) 0 17 r_2) 0 18 0) 0 19 0).2) H → va_S (m_A ad) s.heap H locs → lv_has ls 1 [] → J82 s_13 = some M0 → W p l e (headSpec (wsA yX8_step cX8_step 1 none) ({ frames := 1, cells := 0, slots := 0, locals := 25 } : Room)).room s m (([.ref (ad (0))] : List Value).toArray) below meth c H locs 0 0 (MQ below (va_Qv (fun (u : MM) => u = M0) (gI (m_Wd dC dI kI kZ ad) (m_Kn dC dI kI kZ ad)) (m_A ad)) (([.ref (ad (0))] : List Value).toArray) s 0 0 (m_A ad)) (F0 m 82 ls [.int (s_13), .int (((um (um (um (um M_1 0 16 (M_1.1 0 15)) 0 17 r_2) 0 18 0) 0 19 0).1 0 15)), .ref (ad (0))]) := by
        intro s_13 H locs ls hP hS hl h
        have h := useK1 eJ82 h
        refine lv_iadd hx hb dX8_step_82 ?_
        refine va_put (D := (dC, dI)) (ci := 8) (v := .int ((((um (um (um (um M_1 0 16 (M_1.1 0 15)) 0 17 r_2) 0 18 0) 0 19 0).1 0 15) + s_13))) (ty := .int) (C := RX8) (T := TX8) (N := 29) hx hb hg inX8 tyX8 tyX8_ok nmX8 hown hKn.1 hP (m_D hKn.2.1) hS (0) (m_at8 (c := 0) (by decide)) rfl 15 (Nat.le_of_ble_eq_true rfl) (hg _ lkF_X8_83) (fun _ h9 => h9) rfl (by decide +kernel) rfl rfl (Nat.le_of_ble_eq_true rfl) dX8_step_83 (fun H locs hP _ hS => ?_)
        have hP : va_P (dC, dI) vwCl (m_w kI kZ ad (um (um (um (um (um M_1 0 16 (M_1.1 0 15)) 0 17 r_2) 0 18 0) 0 19 0) 0 15 (((um (um (um (um M_1 0 16 (M_1.1 0 15)) 0 17 r_2) 0 18 0) 0 19 0).1 0 15) + s_13)).1 (um (um (um (um (um M_1 0 16 (M_1.1 0 15)) 0 17 r_2) 0 18 0) 0 19 0) 0 15 (((um (um (um (um M_1 0 16 (M_1.1 0 15)) 0 17 r_2) 0 18 0) 0 19 0).1 0 15) + s_13)).2) H := vp_eq (m_put8_15 (by decide) _) hP
        exact W.vret hx hb hr (fun t ht hW => ⟨⟨um (um (um (um (um M_1 0 16 (M_1.1 0 15)) 0 17 r_2) 0 18 0) 0 19 0) 0 15 (((um (um (um (um M_1 0 16 (M_1.1 0 15)) 0 17 r_2) 0 18 0) 0 19 0).1 0 15) + s_13), rfl, Option.some.inj h, by rw [ht]; exact hP, m_KnW hKn t hW⟩, hS.F ht⟩) hS.2.2 dX8_step_86
      refine lv_if_ge (tgt := 81) hx hb dX8_step_74 (by decide) (fun c_14 => ?_) (fun c_14 => ?_)
      · have h := ife_t c_14 h
        refine lv_iconst (v := 1) hx hb dX8_step_81 (by decide) ?_
        exact hJ82 1 _ _ _ hP hS (lv_sub hl [] rfl) h
      · have h := ife_f c_14 h
        refine lv_iconst (v := 0) hx hb dX8_step_77 (by decide) ?_
        refine lv_goto (tgt := 82) hx hb dX8_step_78 (by decide) ?_
        exact hJ82 0 _ _ _ hP hS (lv_sub hl [] rfl) h
  have hL0 : ∀ (k : Nat) (M_15 : MM) (H : Heap) (locs : List Loc) (ls : Array Slot), va_P (dC, dI) vwCl (m_w kI kZ ad M_15.1 M_15.2) H → va_S (m_A ad) s.heap H locs → lv_has ls 1 [(0, .ref (ad (0)))] → FX8_step_L0 K0 k  M_15 = some M0 → W p l e (headSpec (wsA yX8_step cX8_step 1 none) ({ frames := 1, cells := 0, slots := 0, locals := 25 } : Room)).room s m (([.ref (ad (0))] : List Value).toArray) below meth c H locs 0 0 (MQ below (va_Qv (fun (u : MM) => u = M0) (gI (m_Wd dC dI kI kZ ad) (m_Kn dC dI kI kZ ad)) (m_A ad)) (([.ref (ad (0))] : List Value).toArray) s 0 0 (m_A ad)) (F0 m 0 ls []) := by
    intro k
    induction k with
    | zero => intro M_15 H locs ls hP hS hl h; cases h
    | succ k ih0 =>
      intro M_15 H locs ls hP hS hl h
      unfold FX8_step_L0 at h
      refine lv_aload_n hx hb dX8_step_0 rfl (lv_at hl 0 rfl) ?_
      obtain ⟨r_16, e1, h⟩ := bo_use h
      refine gc_i (va_runV (As := []) (rest := []) hFx (tX8_here l dC dI kI kZ ad  M_15  e1) ⟨(gc_B hFx ck_yX8_here lkM_X8_86 ⟨Nat.le_of_ble_eq_true rfl, Nat.le_of_ble_eq_true rfl⟩ rfl rfl), hg _ vi_yX8_here, hg _ vs_yX8_here⟩ (gp_V m_KnB (m_KnW hKn) hP (m_rc8 (c := 0) (by decide) hKn hP)) rfl rfl hl.1 rfl (lv_room (Nat.le_of_ble_eq_true rfl)) dX8_step_1 ⟨Nat.zero_le _, Nat.zero_le _⟩) hS (fun H locs hP hS => ?_)
      have hP : va_P (dC, dI) vwCl (m_w kI kZ ad M_15.1 M_15.2) H := hP
      refine lv_bipush (v := 32) hx hb dX8_step_4 (by decide) ?_
      refine lv_icmp_ne (tgt := 22) hx hb dX8_step_6 (by decide) (fun c_17 => ?_) (fun c_17 => ?_)
      · have h := ife_f c_17 h
        exact hK0 M_15 _ _ _ hP hS (lv_sub hl [0] rfl) h
      · have h := ife_t c_17 h
        refine lv_aload_n hx hb dX8_step_9 rfl (lv_at hl 0 rfl) ?_
        refine lv_dup hx hb dX8_step_10 rfl ?_
        refine va_get (D := (dC, dI)) (ci := 8) (v := .int ((M_15.1 0 15))) (C := RX8) (T := TX8) (N := 29) hx hb hg inX8 hown hKn.1 hP (0) (m_at8 (c := 0) (by decide)) rfl 15 (Nat.le_of_ble_eq_true rfl) (hg _ lkF_X8_83) (fun _ h9 => h9) rfl dX8_step_11 ?_
        refine lv_iconst (v := 1) hx hb dX8_step_14 (by decide) ?_
        refine lv_iadd hx hb dX8_step_15 ?_
        refine va_put (D := (dC, dI)) (ci := 8) (v := .int (((M_15.1 0 15) + 1))) (ty := .int) (C := RX8) (T := TX8) (N := 29) hx hb hg inX8 tyX8 tyX8_ok nmX8 hown hKn.1 hP (m_D hKn.2.1) hS (0) (m_at8 (c := 0) (by decide)) rfl 15 (Nat.le_of_ble_eq_true rfl) (hg _ lkF_X8_83) (fun _ h9 => h9) rfl (by decide +kernel) rfl rfl (Nat.le_of_ble_eq_true rfl) dX8_step_16 (fun H locs hP _ hS => ?_)
        have hP : va_P (dC, dI) vwCl (m_w kI kZ ad (um M_15 0 15 ((M_15.1 0 15) + 1)).1 (um M_15 0 15 ((M_15.1 0 15) + 1)).2) H := vp_eq (m_put8_15 (by decide) _) hP
        refine lv_goto (tgt := 0) hx hb dX8_step_19 (by decide) ?_
        exact ih0 (um M_15 0 15 ((M_15.1 0 15) + 1)) _ _ _ hP hS (lv_sub hl [0] rfl) h
  exact hL0 fuelN M _ _ _ hP hS (lv_sub hl [0] rfl) h
noncomputable def FX8_fails (a1 : Int32) (M : MM) : Option (Int32 × MM) :=
  some (0, um M 0 20 a1)
set_option maxHeartbeats 4000000 in
set_option maxRecDepth 100000 in
theorem tX8_fails (l : Launch) (dC : Nat → ClassId) (dI : Nat → Nat → Nat) (kI kZ : ClassId) (ad : Nat → Nat) (a1 : Int32) (M : MM)  {r0 : Int32} {M0 : MM} (h : FX8_fails a1 M = some (r0, M0)) : Met l yX8_fails (wsA yX8_fails cX8_fails 2 (some .boolean)) ({ frames := 0, cells := 0, slots := 0, locals := 0 } : Room) (va_Pc [.ref (ad (0)), .int (a1)] (gI (m_Wd dC dI kI kZ ad) (m_Kn dC dI kI kZ ad) M)) (va_Qi (fun (r : Int32) (u : MM) => r = r0 ∧ u = M0) (gI (m_Wd dC dI kI kZ ad) (m_Kn dC dI kI kZ ad)) (m_A ad)) 0 0 (m_A ad) := by
  refine Met.ofW (cc := cX8_fails) (maxL := 2) (ret := (some .boolean)) (by decide) rfl ?_
  intro p e s m args below meth c s₁ B hml hv
  obtain ⟨rfl, hP, hKn⟩ := hv
  have hx := B.exec
  have hb := B.bytes
  have hr := B.returns
  have hts := atoms_spec (ws := wsA yX8_fails cX8_fails 2 (some .boolean)) B.pre
  have hg : ∀ w ∈ lw_good, w.before _ s = true := fun w h => hts w (List.mem_cons_of_mem _ h)
  have hown : s.vm.findClass RX8 = some m.cls := findClass_of_methodNamed B.named
  have hlocks := B.notSynchronized
  have hS : va_S (m_A ad) s.heap s.heap [] := va_S.rf
  have hFx : gFix p c cX8_fails 2 s m _ RX8 := ⟨hx, hb, hml, hown, hg⟩
  have hP : va_P (dC, dI) vwCl (m_w kI kZ ad M.1 M.2) s.heap := hP
  have hl := lv_entry ([.ref (ad (0)), .int (a1)]) (n := 2) (Nat.le_of_ble_eq_true rfl)
  rw [lg_entry_eq]
  generalize (lg_sl ([.ref (ad (0)), .int (a1)]) ++ List.replicate (2 - (lg_sl ([.ref (ad (0)), .int (a1)])).length) Slot.unset).toArray = ls at hl ⊢
  have hl : lv_has ls 2 [(0, .ref (ad (0))), (1, .int (a1))] := hl
  unfold FX8_fails at h
  refine lv_aload_n hx hb dX8_fails_0 rfl (lv_at hl 0 rfl) ?_
  refine lv_iload_n hx hb dX8_fails_1 rfl (lv_at hl 1 rfl) ?_
  refine va_put (D := (dC, dI)) (ci := 8) (v := .int (a1)) (ty := .int) (C := RX8) (T := TX8) (N := 29) hx hb hg inX8 tyX8 tyX8_ok nmX8 hown hKn.1 hP (m_D hKn.2.1) hS (0) (m_at8 (c := 0) (by decide)) rfl 20 (Nat.le_of_ble_eq_true rfl) (hg _ lkF_X8_106) (fun _ h9 => h9) rfl (by decide +kernel) rfl rfl (Nat.le_of_ble_eq_true rfl) dX8_fails_2 (fun H locs hP _ hS => ?_)
  have hP : va_P (dC, dI) vwCl (m_w kI kZ ad (um M 0 20 a1).1 (um M 0 20 a1).2) H := vp_eq (m_put8_20 (by decide) _) hP
  refine lv_iconst (v := 0) hx hb dX8_fails_5 (by decide) ?_
  exact W.zret (v := 0) hx hb hr rfl (fun t ht hW => ⟨⟨0, um M 0 20 a1, rfl, Prod.mk.inj (Option.some.inj h), by rw [ht]; exact hP, m_KnW hKn t hW⟩, hS.F ht⟩) hS.2.2 dX8_fails_6
noncomputable def FX8_number (a1 : Int32) (a2 : Int32) (a3 : Int32) (M : MM) : Option (Int32 × MM) :=
  bo (FX8_step  M) (fun (M_1 : MM) => (if (M_1.1 0 17) = 48 then jn (α := Option (Int32 × MM)) (bd (FX8_fails 2 M_1) (fun (r_3 : Int32) (M_4 : MM) => if bo01 r_3 then some (r_3, M_4) else none)) (fun J42 => (if 3 < (M_1.1 0 18) then J42 else bo (FX8_in (((M_1.1 0 19)).toInt64) ((a2).toInt64) ((a3).toInt64)) (fun (r_6 : Int32) => (if r_6 = 0 then J42 else (if inb a1 50 then some (1, um M_1 2 (ix a1) (M_1.1 0 19)) else none))))) else bd (FX8_fails 1 M_1) (fun (r_8 : Int32) (M_9 : MM) => if bo01 r_8 then some (r_8, M_9) else none)))
set_option maxHeartbeats 4000000 in
set_option maxRecDepth 100000 in
theorem tX8_number (l : Launch) (dC : Nat → ClassId) (dI : Nat → Nat → Nat) (kI kZ : ClassId) (ad : Nat → Nat) (a1 : Int32) (a2 : Int32) (a3 : Int32) (M : MM)  {r0 : Int32} {M0 : MM} (h : FX8_number a1 a2 a3 M = some (r0, M0)) : Met l yX8_number (wsA yX8_number cX8_number 4 (some .boolean)) ({ frames := 2, cells := 0, slots := 0, locals := 45 } : Room) (va_Pc [.ref (ad (0)), .int (a1), .int (a2), .int (a3)] (gI (m_Wd dC dI kI kZ ad) (m_Kn dC dI kI kZ ad) M)) (va_Qi (fun (r : Int32) (u : MM) => r = r0 ∧ u = M0) (gI (m_Wd dC dI kI kZ ad) (m_Kn dC dI kI kZ ad)) (m_A ad)) 0 0 (m_A ad) := by
  refine Met.ofW (cc := cX8_number) (maxL := 4) (ret := (some .boolean)) (by decide) rfl ?_
  intro p e s m args below meth c s₁ B hml hv
  obtain ⟨rfl, hP, hKn⟩ := hv
  have hx := B.exec
  have hb := B.bytes
  have hr := B.returns
  have hts := atoms_spec (ws := wsA yX8_number cX8_number 4 (some .boolean)) B.pre
  have hg : ∀ w ∈ lw_good, w.before _ s = true := fun w h => hts w (List.mem_cons_of_mem _ h)
  have hown : s.vm.findClass RX8 = some m.cls := findClass_of_methodNamed B.named
  have hlocks := B.notSynchronized
  have hS : va_S (m_A ad) s.heap s.heap [] := va_S.rf
  have hFx : gFix p c cX8_number 4 s m _ RX8 := ⟨hx, hb, hml, hown, hg⟩
  have hP : va_P (dC, dI) vwCl (m_w kI kZ ad M.1 M.2) s.heap := hP
  have hl := lv_entry ([.ref (ad (0)), .int (a1), .int (a2), .int (a3)]) (n := 4) (Nat.le_of_ble_eq_true rfl)
  rw [lg_entry_eq]
  generalize (lg_sl ([.ref (ad (0)), .int (a1), .int (a2), .int (a3)]) ++ List.replicate (4 - (lg_sl ([.ref (ad (0)), .int (a1), .int (a2), .int (a3)])).length) Slot.unset).toArray = ls at hl ⊢
  have hl : lv_has ls 4 [(0, .ref (ad (0))), (1, .int (a1)), (2, .int (a2)), (3, .int (a3))] := hl
  unfold FX8_number at h
  refine lv_aload_n hx hb dX8_number_0 rfl (lv_at hl 0 rfl) ?_
  obtain ⟨M_1, e1, h⟩ := bo_use h
  refine gc_v (va_runV (As := []) (rest := []) hFx (tX8_step l dC dI kI kZ ad  M  e1) ⟨(gc_B hFx ck_yX8_step lkM_X8_109 ⟨Nat.le_of_ble_eq_true rfl, Nat.le_of_ble_eq_true rfl⟩ rfl rfl), hg _ vi_yX8_step, hg _ vs_yX8_step⟩ (gp_V m_KnB (m_KnW hKn) hP (m_rc8 (c := 0) (by decide) hKn hP)) rfl rfl hl.1 rfl (lv_room (Nat.le_of_ble_eq_true rfl)) dX8_number_1 ⟨Nat.zero_le _, Nat.zero_le _⟩) hS (fun H locs hP hS => ?_)
  have hP : va_P (dC, dI) vwCl (m_w kI kZ ad M_1.1 M_1.2) H := hP
  refine lv_aload_n hx hb dX8_number_4 rfl (lv_at hl 0 rfl) ?_
  refine va_get (D := (dC, dI)) (ci := 8) (v := .int ((M_1.1 0 17))) (C := RX8) (T := TX8) (N := 29) hx hb hg inX8 hown hKn.1 hP (0) (m_at8 (c := 0) (by decide)) rfl 17 (Nat.le_of_ble_eq_true rfl) (hg _ lkF_X8_93) (fun _ h9 => h9) rfl dX8_number_5 ?_
  refine lv_bipush (v := 48) hx hb dX8_number_8 (by decide) ?_
  refine lv_icmp_eq (tgt := 19) hx hb dX8_number_10 (by decide) (fun c_2 => ?_) (fun c_2 => ?_)
  · have h := ife_t c_2 h
    refine lv_aload_n hx hb dX8_number_19 rfl (lv_at hl 0 rfl) ?_
    refine va_get (D := (dC, dI)) (ci := 8) (v := .int ((M_1.1 0 18))) (C := RX8) (T := TX8) (N := 29) hx hb hg inX8 hown hKn.1 hP (0) (m_at8 (c := 0) (by decide)) rfl 18 (Nat.le_of_ble_eq_true rfl) (hg _ lkF_X8_96) (fun _ h9 => h9) rfl dX8_number_20 ?_
    refine lv_iconst (v := 3) hx hb dX8_number_23 (by decide) ?_
    obtain ⟨J42, eJ42, h⟩ := jn_use h
    have hJ42 : ∀  (H : Heap) (locs : List Loc) (ls : Array Slot), va_P (dC, dI) vwCl (m_w kI kZ ad M_1.1 M_1.2) H → va_S (m_A ad) s.heap H locs → lv_has ls 4 [(0, .ref (ad (0)))] → J42  = some (r0, M0) → W p l e (headSpec (wsA yX8_number cX8_number 4 (some .boolean)) ({ frames := 2, cells := 0, slots := 0, locals := 45 } : Room)).room s m (([.ref (ad (0)), .int (a1), .int (a2), .int (a3)] : List Value).toArray) below meth c H locs 0 0 (MQ below (va_Qi (fun (r : Int32) (u : MM) => r = r0 ∧ u = M0) (gI (m_Wd dC dI kI kZ ad) (m_Kn dC dI kI kZ ad)) (m_A ad)) (([.ref (ad (0)), .int (a1), .int (a2), .int (a3)] : List Value).toArray) s 0 0 (m_A ad)) (F0 m 42 ls []) := by
      intro  H locs ls hP hS hl h
      have h := useK0 eJ42 h
      refine lv_aload_n hx hb dX8_number_42 rfl (lv_at hl 0 rfl) ?_
      refine lv_iconst (v := 2) hx hb dX8_number_43 (by decide) ?_
      obtain ⟨r_3, M_4, e44, h⟩ := bd_use h
      refine gc_i (va_runV (As := [.int (2)]) (rest := []) hFx (tX8_fails l dC dI kI kZ ad 2 M_1  e44) ⟨(gc_B hFx ck_yX8_fails lkM_X8_112 ⟨Nat.le_of_ble_eq_true rfl, Nat.le_of_ble_eq_true rfl⟩ rfl rfl), hg _ vi_yX8_fails, hg _ vs_yX8_fails⟩ (gp_V m_KnB (m_KnW hKn) hP (m_rc8 (c := 0) (by decide) hKn hP)) rfl rfl hl.1 rfl (lv_room (Nat.le_of_ble_eq_true rfl)) dX8_number_44 ⟨Nat.zero_le _, Nat.zero_le _⟩) hS (fun H locs hP hS => ?_)
      have hP : va_P (dC, dI) vwCl (m_w kI kZ ad M_4.1 M_4.2) H := hP
      obtain ⟨hbo, h⟩ := if_use h
      exact W.zret (v := r_3) hx hb hr (narrow_b01 hbo) (fun t ht hW => ⟨⟨r_3, M_4, rfl, Prod.mk.inj (Option.some.inj h), by rw [ht]; exact hP, m_KnW hKn t hW⟩, hS.F ht⟩) hS.2.2 dX8_number_47
    refine lv_icmp_gt (tgt := 42) hx hb dX8_number_24 (by decide) (fun c_5 => ?_) (fun c_5 => ?_)
    · have h := ife_t c_5 h
      exact hJ42 _ _ _ hP hS (lv_sub hl [0] rfl) h
    · have h := ife_f c_5 h
      refine lv_aload_n hx hb dX8_number_27 rfl (lv_at hl 0 rfl) ?_
      refine va_get (D := (dC, dI)) (ci := 8) (v := .int ((M_1.1 0 19))) (C := RX8) (T := TX8) (N := 29) hx hb hg inX8 hown hKn.1 hP (0) (m_at8 (c := 0) (by decide)) rfl 19 (Nat.le_of_ble_eq_true rfl) (hg _ lkF_X8_99) (fun _ h9 => h9) rfl dX8_number_28 ?_
      refine lv_i2l (v := (((M_1.1 0 19)).toInt64)) hx hb dX8_number_31 rfl ?_
      refine lv_iload_n hx hb dX8_number_32 rfl (lv_at hl 2 rfl) ?_
      refine lv_i2l (v := ((a2).toInt64)) hx hb dX8_number_33 rfl ?_
      refine lv_iload_n hx hb dX8_number_34 rfl (lv_at hl 3 rfl) ?_
      refine lv_i2l (v := ((a3).toInt64)) hx hb dX8_number_35 rfl ?_
      obtain ⟨r_6, e36, h⟩ := bo_use h
      refine gc_i (va_runS (As := [.long ((((M_1.1 0 19)).toInt64)), .long (((a2).toInt64)), .long (((a3).toInt64))]) (rest := []) hFx (tX8_in l dC dI kI kZ ad (((M_1.1 0 19)).toInt64) ((a2).toInt64) ((a3).toInt64) M_1  e36) ⟨(gc_B hFx ck_yX8_in lkM_X8_74 ⟨Nat.le_of_ble_eq_true rfl, Nat.le_of_ble_eq_true rfl⟩ rfl rfl), hg _ st_yX8_in⟩ (gp_S m_KnB (m_KnW hKn) hP) rfl rfl hl.1 rfl (lv_room (Nat.le_of_ble_eq_true rfl)) dX8_number_36 ⟨Nat.zero_le _, Nat.zero_le _⟩) hS (fun H locs hP hS => ?_)
      have hP : va_P (dC, dI) vwCl (m_w kI kZ ad M_1.1 M_1.2) H := hP
      refine lv_if_ne (tgt := 48) hx hb dX8_number_39 (by decide) (fun c_7 => ?_) (fun c_7 => ?_)
      · have h := ife_f c_7 h
        refine lv_aload_n hx hb dX8_number_48 rfl (lv_at hl 0 rfl) ?_
        refine va_get (D := (dC, dI)) (ci := 8) (v := .ref (ad (2))) (C := RX8) (T := TX8) (N := 29) hx hb hg inX8 hown hKn.1 hP (0) (m_at8 (c := 0) (by decide)) rfl 1 (Nat.le_of_ble_eq_true rfl) (hg _ lkF_X8_13) (fun _ h9 => h9) rfl dX8_number_49 ?_
        refine lv_iload_n hx hb dX8_number_52 rfl (lv_at hl 1 rfl) ?_
        refine lv_aload_n hx hb dX8_number_53 rfl (lv_at hl 0 rfl) ?_
        refine va_get (D := (dC, dI)) (ci := 8) (v := .int ((M_1.1 0 19))) (C := RX8) (T := TX8) (N := 29) hx hb hg inX8 hown hKn.1 hP (0) (m_at8 (c := 0) (by decide)) rfl 19 (Nat.le_of_ble_eq_true rfl) (hg _ lkF_X8_99) (fun _ h9 => h9) rfl dX8_number_54 ?_
        obtain ⟨hi57, h⟩ := if_use h
        refine m_iast (M := M_1) (a := 2) hx hb hKn hP hS (by decide) (x := (M_1.1 0 19)) (j := (ix a1)) rfl hi57 dX8_number_57 (fun H locs hP hS => ?_)
        have hP : va_P (dC, dI) vwCl (m_w kI kZ ad (um M_1 2 (ix a1) (M_1.1 0 19)).1 (um M_1 2 (ix a1) (M_1.1 0 19)).2) H := hP
        refine lv_iconst (v := 1) hx hb dX8_number_58 (by decide) ?_
        exact W.zret (v := 1) hx hb hr rfl (fun t ht hW => ⟨⟨1, um M_1 2 (ix a1) (M_1.1 0 19), rfl, Prod.mk.inj (Option.some.inj h), by rw [ht]; exact hP, m_KnW hKn t hW⟩, hS.F ht⟩) hS.2.2 dX8_number_59
      · have h := ife_t c_7 h
        exact hJ42 _ _ _ hP hS (lv_sub hl [0] rfl) h
  · have h := ife_f c_2 h
    refine lv_aload_n hx hb dX8_number_13 rfl (lv_at hl 0 rfl) ?_
    refine lv_iconst (v := 1) hx hb dX8_number_14 (by decide) ?_
    obtain ⟨r_8, M_9, e15, h⟩ := bd_use h
    refine gc_i (va_runV (As := [.int (1)]) (rest := []) hFx (tX8_fails l dC dI kI kZ ad 1 M_1  e15) ⟨(gc_B hFx ck_yX8_fails lkM_X8_112 ⟨Nat.le_of_ble_eq_true rfl, Nat.le_of_ble_eq_true rfl⟩ rfl rfl), hg _ vi_yX8_fails, hg _ vs_yX8_fails⟩ (gp_V m_KnB (m_KnW hKn) hP (m_rc8 (c := 0) (by decide) hKn hP)) rfl rfl hl.1 rfl (lv_room (Nat.le_of_ble_eq_true rfl)) dX8_number_15 ⟨Nat.zero_le _, Nat.zero_le _⟩) hS (fun H locs hP hS => ?_)
    have hP : va_P (dC, dI) vwCl (m_w kI kZ ad M_9.1 M_9.2) H := hP
    obtain ⟨hbo, h⟩ := if_use h
    exact W.zret (v := r_8) hx hb hr (narrow_b01 hbo) (fun t ht hW => ⟨⟨r_8, M_9, rfl, Prod.mk.inj (Option.some.inj h), by rw [ht]; exact hP, m_KnW hKn t hW⟩, hS.F ht⟩) hS.2.2 dX8_number_18
noncomputable def FX8_ends  (M : MM) : Option (Int32 × MM) :=
  bo (FX8_step  M) (fun (M_1 : MM) => (if (M_1.1 0 17) = 59 then some (1, M_1) else bd (FX8_fails 1 M_1) (fun (r_3 : Int32) (M_4 : MM) => (if r_3 = 0 then some (0, M_4) else some (1, M_4)))))
set_option maxHeartbeats 4000000 in
set_option maxRecDepth 100000 in
theorem tX8_ends (l : Launch) (dC : Nat → ClassId) (dI : Nat → Nat → Nat) (kI kZ : ClassId) (ad : Nat → Nat)  (M : MM)  {r0 : Int32} {M0 : MM} (h : FX8_ends  M = some (r0, M0)) : Met l yX8_ends (wsA yX8_ends cX8_ends 1 (some .boolean)) ({ frames := 2, cells := 0, slots := 0, locals := 45 } : Room) (va_Pc [.ref (ad (0))] (gI (m_Wd dC dI kI kZ ad) (m_Kn dC dI kI kZ ad) M)) (va_Qi (fun (r : Int32) (u : MM) => r = r0 ∧ u = M0) (gI (m_Wd dC dI kI kZ ad) (m_Kn dC dI kI kZ ad)) (m_A ad)) 0 0 (m_A ad) := by
  refine Met.ofW (cc := cX8_ends) (maxL := 1) (ret := (some .boolean)) (by decide) rfl ?_
  intro p e s m args below meth c s₁ B hml hv
  obtain ⟨rfl, hP, hKn⟩ := hv
  have hx := B.exec
  have hb := B.bytes
  have hr := B.returns
  have hts := atoms_spec (ws := wsA yX8_ends cX8_ends 1 (some .boolean)) B.pre
  have hg : ∀ w ∈ lw_good, w.before _ s = true := fun w h => hts w (List.mem_cons_of_mem _ h)
  have hown : s.vm.findClass RX8 = some m.cls := findClass_of_methodNamed B.named
  have hlocks := B.notSynchronized
  have hS : va_S (m_A ad) s.heap s.heap [] := va_S.rf
  have hFx : gFix p c cX8_ends 1 s m _ RX8 := ⟨hx, hb, hml, hown, hg⟩
  have hP : va_P (dC, dI) vwCl (m_w kI kZ ad M.1 M.2) s.heap := hP
  have hl := lv_entry ([.ref (ad (0))]) (n := 1) (Nat.le_of_ble_eq_true rfl)
  rw [lg_entry_eq]
  generalize (lg_sl ([.ref (ad (0))]) ++ List.replicate (1 - (lg_sl ([.ref (ad (0))])).length) Slot.unset).toArray = ls at hl ⊢
  have hl : lv_has ls 1 [(0, .ref (ad (0)))] := hl
  unfold FX8_ends at h
  refine lv_aload_n hx hb dX8_ends_0 rfl (lv_at hl 0 rfl) ?_
  obtain ⟨M_1, e1, h⟩ := bo_use h
  refine gc_v (va_runV (As := []) (rest := []) hFx (tX8_step l dC dI kI kZ ad  M  e1) ⟨(gc_B hFx ck_yX8_step lkM_X8_109 ⟨Nat.le_of_ble_eq_true rfl, Nat.le_of_ble_eq_true rfl⟩ rfl rfl), hg _ vi_yX8_step, hg _ vs_yX8_step⟩ (gp_V m_KnB (m_KnW hKn) hP (m_rc8 (c := 0) (by decide) hKn hP)) rfl rfl hl.1 rfl (lv_room (Nat.le_of_ble_eq_true rfl)) dX8_ends_1 ⟨Nat.zero_le _, Nat.zero_le _⟩) hS (fun H locs hP hS => ?_)
  have hP : va_P (dC, dI) vwCl (m_w kI kZ ad M_1.1 M_1.2) H := hP
  refine lv_aload_n hx hb dX8_ends_4 rfl (lv_at hl 0 rfl) ?_
  refine va_get (D := (dC, dI)) (ci := 8) (v := .int ((M_1.1 0 17))) (C := RX8) (T := TX8) (N := 29) hx hb hg inX8 hown hKn.1 hP (0) (m_at8 (c := 0) (by decide)) rfl 17 (Nat.le_of_ble_eq_true rfl) (hg _ lkF_X8_93) (fun _ h9 => h9) rfl dX8_ends_5 ?_
  refine lv_bipush (v := 59) hx hb dX8_ends_8 (by decide) ?_
  refine lv_icmp_eq (tgt := 21) hx hb dX8_ends_10 (by decide) (fun c_2 => ?_) (fun c_2 => ?_)
  · have h := ife_t c_2 h
    refine lv_iconst (v := 1) hx hb dX8_ends_21 (by decide) ?_
    refine lv_goto (tgt := 26) hx hb dX8_ends_22 (by decide) ?_
    exact W.zret (v := 1) hx hb hr rfl (fun t ht hW => ⟨⟨1, M_1, rfl, Prod.mk.inj (Option.some.inj h), by rw [ht]; exact hP, m_KnW hKn t hW⟩, hS.F ht⟩) hS.2.2 dX8_ends_26
  · have h := ife_f c_2 h
    refine lv_aload_n hx hb dX8_ends_13 rfl (lv_at hl 0 rfl) ?_
    refine lv_iconst (v := 1) hx hb dX8_ends_14 (by decide) ?_
    obtain ⟨r_3, M_4, e15, h⟩ := bd_use h
    refine gc_i (va_runV (As := [.int (1)]) (rest := []) hFx (tX8_fails l dC dI kI kZ ad 1 M_1  e15) ⟨(gc_B hFx ck_yX8_fails lkM_X8_112 ⟨Nat.le_of_ble_eq_true rfl, Nat.le_of_ble_eq_true rfl⟩ rfl rfl), hg _ vi_yX8_fails, hg _ vs_yX8_fails⟩ (gp_V m_KnB (m_KnW hKn) hP (m_rc8 (c := 0) (by decide) hKn hP)) rfl rfl hl.1 rfl (lv_room (Nat.le_of_ble_eq_true rfl)) dX8_ends_15 ⟨Nat.zero_le _, Nat.zero_le _⟩) hS (fun H locs hP hS => ?_)
    have hP : va_P (dC, dI) vwCl (m_w kI kZ ad M_4.1 M_4.2) H := hP
    refine lv_if_eq (tgt := 25) hx hb dX8_ends_18 (by decide) (fun c_5 => ?_) (fun c_5 => ?_)
    · have h := ife_t c_5 h
      refine lv_iconst (v := 0) hx hb dX8_ends_25 (by decide) ?_
      exact W.zret (v := 0) hx hb hr rfl (fun t ht hW => ⟨⟨0, M_4, rfl, Prod.mk.inj (Option.some.inj h), by rw [ht]; exact hP, m_KnW hKn t hW⟩, hS.F ht⟩) hS.2.2 dX8_ends_26
    · have h := ife_f c_5 h
      refine lv_iconst (v := 1) hx hb dX8_ends_21 (by decide) ?_
      refine lv_goto (tgt := 26) hx hb dX8_ends_22 (by decide) ?_
      exact W.zret (v := 1) hx hb hr rfl (fun t ht hW => ⟨⟨1, M_4, rfl, Prod.mk.inj (Option.some.inj h), by rw [ht]; exact hP, m_KnW hKn t hW⟩, hS.F ht⟩) hS.2.2 dX8_ends_26
noncomputable def FX8_readsFact  (M : MM) : Option (Int32 × MM) :=
  (if (M.1 2 2) = 8 then bd (FX8_fails 3 M) (fun (r_24 : Int32) (M_25 : MM) => if bo01 r_24 then some (r_24, M_25) else none) else bd (FX8_number (10 + (M.1 2 2)) 0 ((M.1 2 1) - 1) M) (fun (r_2 : Int32) (M_3 : MM) => (if r_2 = 0 then some (0, M_3) else bd (FX8_number (18 + (M.1 2 2)) 0 18 M_3) (fun (r_5 : Int32) (M_6 : MM) => (if r_5 = 0 then some (0, M_6) else bd (FX8_number (26 + (M.1 2 2)) 0 9 M_6) (fun (r_8 : Int32) (M_9 : MM) => (if r_8 = 0 then some (0, M_9) else (if inb (26 + (M.1 2 2)) 50 then jn (α := Option (Int32 × MM)) (bd (FX8_number (34 + (M.1 2 2)) 0 20 (um M_9 2 2 ((M_9.1 2 2) + 1))) (fun (r_11 : Int32) (M_12 : MM) => (if r_11 = 0 then some (0, M_12) else bd (FX8_number (42 + (M.1 2 2)) 0 9 M_12) (fun (r_14 : Int32) (M_15 : MM) => (if r_14 = 0 then some (0, M_15) else bd (FX8_ends  M_15) (fun (r_17 : Int32) (M_18 : MM) => (if r_17 = 0 then some (0, M_18) else some (1, M_18)))))))) (fun J107 => (if (M_9.1 2 (ix (26 + (M.1 2 2)))) < (M_9.1 2 1) then J107 else (if inb (26 + (M.1 2 2)) 50 then (if (M_9.1 2 (ix (26 + (M.1 2 2)))) = 9 then J107 else bd (FX8_fails 2 M_9) (fun (r_22 : Int32) (M_23 : MM) => if bo01 r_22 then some (r_22, M_23) else none)) else none))) else none))))))))
set_option maxHeartbeats 4000000 in
set_option maxRecDepth 100000 in
theorem tX8_readsFact (l : Launch) (dC : Nat → ClassId) (dI : Nat → Nat → Nat) (kI kZ : ClassId) (ad : Nat → Nat)  (M : MM)  {r0 : Int32} {M0 : MM} (h : FX8_readsFact  M = some (r0, M0)) : Met l yX8_readsFact (wsA yX8_readsFact cX8_readsFact 2 (some .boolean)) ({ frames := 3, cells := 0, slots := 0, locals := 68 } : Room) (va_Pc [.ref (ad (0))] (gI (m_Wd dC dI kI kZ ad) (m_Kn dC dI kI kZ ad) M)) (va_Qi (fun (r : Int32) (u : MM) => r = r0 ∧ u = M0) (gI (m_Wd dC dI kI kZ ad) (m_Kn dC dI kI kZ ad)) (m_A ad)) 0 0 (m_A ad) := by
  refine Met.ofW (cc := cX8_readsFact) (maxL := 2) (ret := (some .boolean)) (by decide) rfl ?_
  intro p e s m args below meth c s₁ B hml hv
  obtain ⟨rfl, hP, hKn⟩ := hv
  have hx := B.exec
  have hb := B.bytes
  have hr := B.returns
  have hts := atoms_spec (ws := wsA yX8_readsFact cX8_readsFact 2 (some .boolean)) B.pre
  have hg : ∀ w ∈ lw_good, w.before _ s = true := fun w h => hts w (List.mem_cons_of_mem _ h)
  have hown : s.vm.findClass RX8 = some m.cls := findClass_of_methodNamed B.named
  have hlocks := B.notSynchronized
  have hS : va_S (m_A ad) s.heap s.heap [] := va_S.rf
  have hFx : gFix p c cX8_readsFact 2 s m _ RX8 := ⟨hx, hb, hml, hown, hg⟩
  have hP : va_P (dC, dI) vwCl (m_w kI kZ ad M.1 M.2) s.heap := hP
  have hl := lv_entry ([.ref (ad (0))]) (n := 2) (Nat.le_of_ble_eq_true rfl)
  rw [lg_entry_eq]
  generalize (lg_sl ([.ref (ad (0))]) ++ List.replicate (2 - (lg_sl ([.ref (ad (0))])).length) Slot.unset).toArray = ls at hl ⊢
  have hl : lv_has ls 2 [(0, .ref (ad (0)))] := hl
  unfold FX8_readsFact at h
  refine lv_aload_n hx hb dX8_readsFact_0 rfl (lv_at hl 0 rfl) ?_
  refine va_get (D := (dC, dI)) (ci := 8) (v := .ref (ad (2))) (C := RX8) (T := TX8) (N := 29) hx hb hg inX8 hown hKn.1 hP (0) (m_at8 (c := 0) (by decide)) rfl 1 (Nat.le_of_ble_eq_true rfl) (hg _ lkF_X8_13) (fun _ h9 => h9) rfl dX8_readsFact_1 ?_
  refine lv_iconst (v := 2) hx hb dX8_readsFact_4 (by decide) ?_
  refine m_iald (M := M) (a := 2) hx hb hKn hP (by decide) (j := 2) (by decide) (by decide) dX8_readsFact_5 ?_
  refine lv_istore_n (lv' := [(1, .int ((M.1 2 2))), (0, .ref (ad (0)))]) hx hb dX8_readsFact_6 rfl hl (Nat.le_of_ble_eq_true rfl) rfl (fun ls hl => ?_)
  refine lv_iload_n hx hb dX8_readsFact_7 rfl (lv_at hl 0 rfl) ?_
  refine lv_bipush (v := 8) hx hb dX8_readsFact_8 (by decide) ?_
  refine lv_icmp_ne (tgt := 19) hx hb dX8_readsFact_10 (by decide) (fun c_1 => ?_) (fun c_1 => ?_)
  · have h := ife_f c_1 h
    refine lv_aload_n hx hb dX8_readsFact_19 rfl (lv_at hl 1 rfl) ?_
    refine lv_bipush (v := 10) hx hb dX8_readsFact_20 (by decide) ?_
    refine lv_iload_n hx hb dX8_readsFact_22 rfl (lv_at hl 0 rfl) ?_
    refine lv_iadd hx hb dX8_readsFact_23 ?_
    refine lv_iconst (v := 0) hx hb dX8_readsFact_24 (by decide) ?_
    refine lv_aload_n hx hb dX8_readsFact_25 rfl (lv_at hl 1 rfl) ?_
    refine va_get (D := (dC, dI)) (ci := 8) (v := .ref (ad (2))) (C := RX8) (T := TX8) (N := 29) hx hb hg inX8 hown hKn.1 hP (0) (m_at8 (c := 0) (by decide)) rfl 1 (Nat.le_of_ble_eq_true rfl) (hg _ lkF_X8_13) (fun _ h9 => h9) rfl dX8_readsFact_26 ?_
    refine lv_iconst (v := 1) hx hb dX8_readsFact_29 (by decide) ?_
    refine m_iald (M := M) (a := 2) hx hb hKn hP (by decide) (j := 1) (by decide) (by decide) dX8_readsFact_30 ?_
    refine lv_iconst (v := 1) hx hb dX8_readsFact_31 (by decide) ?_
    refine lv_isub hx hb dX8_readsFact_32 ?_
    obtain ⟨r_2, M_3, e33, h⟩ := bd_use h
    refine gc_i (va_runV (As := [.int ((10 + (M.1 2 2))), .int (0), .int (((M.1 2 1) - 1))]) (rest := []) hFx (tX8_number l dC dI kI kZ ad (10 + (M.1 2 2)) 0 ((M.1 2 1) - 1) M  e33) ⟨(gc_B hFx ck_yX8_number lkM_X8_116 ⟨Nat.le_of_ble_eq_true rfl, Nat.le_of_ble_eq_true rfl⟩ rfl rfl), hg _ vi_yX8_number, hg _ vs_yX8_number⟩ (gp_V m_KnB (m_KnW hKn) hP (m_rc8 (c := 0) (by decide) hKn hP)) rfl rfl hl.1 rfl (lv_room (Nat.le_of_ble_eq_true rfl)) dX8_readsFact_33 ⟨Nat.zero_le _, Nat.zero_le _⟩) hS (fun H locs hP hS => ?_)
    have hP : va_P (dC, dI) vwCl (m_w kI kZ ad M_3.1 M_3.2) H := hP
    refine lv_if_eq (tgt := 67) hx hb dX8_readsFact_36 (by decide) (fun c_4 => ?_) (fun c_4 => ?_)
    · have h := ife_t c_4 h
      refine lv_iconst (v := 0) hx hb dX8_readsFact_67 (by decide) ?_
      exact W.zret (v := 0) hx hb hr rfl (fun t ht hW => ⟨⟨0, M_3, rfl, Prod.mk.inj (Option.some.inj h), by rw [ht]; exact hP, m_KnW hKn t hW⟩, hS.F ht⟩) hS.2.2 dX8_readsFact_68
    · have h := ife_f c_4 h
      refine lv_aload_n hx hb dX8_readsFact_39 rfl (lv_at hl 1 rfl) ?_
      refine lv_bipush (v := 18) hx hb dX8_readsFact_40 (by decide) ?_
      refine lv_iload_n hx hb dX8_readsFact_42 rfl (lv_at hl 0 rfl) ?_
      refine lv_iadd hx hb dX8_readsFact_43 ?_
      refine lv_iconst (v := 0) hx hb dX8_readsFact_44 (by decide) ?_
      refine lv_bipush (v := 18) hx hb dX8_readsFact_45 (by decide) ?_
      obtain ⟨r_5, M_6, e47, h⟩ := bd_use h
      refine gc_i (va_runV (As := [.int ((18 + (M.1 2 2))), .int (0), .int (18)]) (rest := []) hFx (tX8_number l dC dI kI kZ ad (18 + (M.1 2 2)) 0 18 M_3  e47) ⟨(gc_B hFx ck_yX8_number lkM_X8_116 ⟨Nat.le_of_ble_eq_true rfl, Nat.le_of_ble_eq_true rfl⟩ rfl rfl), hg _ vi_yX8_number, hg _ vs_yX8_number⟩ (gp_V m_KnB (m_KnW hKn) hP (m_rc8 (c := 0) (by decide) hKn hP)) rfl rfl hl.1 rfl (lv_room (Nat.le_of_ble_eq_true rfl)) dX8_readsFact_47 ⟨Nat.zero_le _, Nat.zero_le _⟩) hS (fun H locs hP hS => ?_)
      have hP : va_P (dC, dI) vwCl (m_w kI kZ ad M_6.1 M_6.2) H := hP
      refine lv_if_eq (tgt := 67) hx hb dX8_readsFact_50 (by decide) (fun c_7 => ?_) (fun c_7 => ?_)
      · have h := ife_t c_7 h
        refine lv_iconst (v := 0) hx hb dX8_readsFact_67 (by decide) ?_
        exact W.zret (v := 0) hx hb hr rfl (fun t ht hW => ⟨⟨0, M_6, rfl, Prod.mk.inj (Option.some.inj h), by rw [ht]; exact hP, m_KnW hKn t hW⟩, hS.F ht⟩) hS.2.2 dX8_readsFact_68
      · have h := ife_f c_7 h
        refine lv_aload_n hx hb dX8_readsFact_53 rfl (lv_at hl 1 rfl) ?_
        refine lv_bipush (v := 26) hx hb dX8_readsFact_54 (by decide) ?_
        refine lv_iload_n hx hb dX8_readsFact_56 rfl (lv_at hl 0 rfl) ?_
        refine lv_iadd hx hb dX8_readsFact_57 ?_
        refine lv_iconst (v := 0) hx hb dX8_readsFact_58 (by decide) ?_
        refine lv_bipush (v := 9) hx hb dX8_readsFact_59 (by decide) ?_
        obtain ⟨r_8, M_9, e61, h⟩ := bd_use h
        refine gc_i (va_runV (As := [.int ((26 + (M.1 2 2))), .int (0), .int (9)]) (rest := []) hFx (tX8_number l dC dI kI kZ ad (26 + (M.1 2 2)) 0 9 M_6  e61) ⟨(gc_B hFx ck_yX8_number lkM_X8_116 ⟨Nat.le_of_ble_eq_true rfl, Nat.le_of_ble_eq_true rfl⟩ rfl rfl), hg _ vi_yX8_number, hg _ vs_yX8_number⟩ (gp_V m_KnB (m_KnW hKn) hP (m_rc8 (c := 0) (by decide) hKn hP)) rfl rfl hl.1 rfl (lv_room (Nat.le_of_ble_eq_true rfl)) dX8_readsFact_61 ⟨Nat.zero_le _, Nat.zero_le _⟩) hS (fun H locs hP hS => ?_)
        have hP : va_P (dC, dI) vwCl (m_w kI kZ ad M_9.1 M_9.2) H := hP
        refine lv_if_ne (tgt := 69) hx hb dX8_readsFact_64 (by decide) (fun c_10 => ?_) (fun c_10 => ?_)
        · have h := ife_f c_10 h
          refine lv_aload_n hx hb dX8_readsFact_69 rfl (lv_at hl 1 rfl) ?_
          refine va_get (D := (dC, dI)) (ci := 8) (v := .ref (ad (2))) (C := RX8) (T := TX8) (N := 29) hx hb hg inX8 hown hKn.1 hP (0) (m_at8 (c := 0) (by decide)) rfl 1 (Nat.le_of_ble_eq_true rfl) (hg _ lkF_X8_13) (fun _ h9 => h9) rfl dX8_readsFact_70 ?_
          refine lv_bipush (v := 26) hx hb dX8_readsFact_73 (by decide) ?_
          refine lv_iload_n hx hb dX8_readsFact_75 rfl (lv_at hl 0 rfl) ?_
          refine lv_iadd hx hb dX8_readsFact_76 ?_
          obtain ⟨hi77, h⟩ := if_use h
          refine m_iald (M := M_9) (a := 2) hx hb hKn hP (by decide) (j := (ix (26 + (M.1 2 2)))) rfl hi77 dX8_readsFact_77 ?_
          refine lv_aload_n hx hb dX8_readsFact_78 rfl (lv_at hl 1 rfl) ?_
          refine va_get (D := (dC, dI)) (ci := 8) (v := .ref (ad (2))) (C := RX8) (T := TX8) (N := 29) hx hb hg inX8 hown hKn.1 hP (0) (m_at8 (c := 0) (by decide)) rfl 1 (Nat.le_of_ble_eq_true rfl) (hg _ lkF_X8_13) (fun _ h9 => h9) rfl dX8_readsFact_79 ?_
          refine lv_iconst (v := 1) hx hb dX8_readsFact_82 (by decide) ?_
          refine m_iald (M := M_9) (a := 2) hx hb hKn hP (by decide) (j := 1) (by decide) (by decide) dX8_readsFact_83 ?_
          obtain ⟨J107, eJ107, h⟩ := jn_use h
          have hJ107 : ∀  (H : Heap) (locs : List Loc) (ls : Array Slot), va_P (dC, dI) vwCl (m_w kI kZ ad M_9.1 M_9.2) H → va_S (m_A ad) s.heap H locs → lv_has ls 2 [(1, .int ((M.1 2 2))), (0, .ref (ad (0)))] → J107  = some (r0, M0) → W p l e (headSpec (wsA yX8_readsFact cX8_readsFact 2 (some .boolean)) ({ frames := 3, cells := 0, slots := 0, locals := 68 } : Room)).room s m (([.ref (ad (0))] : List Value).toArray) below meth c H locs 0 0 (MQ below (va_Qi (fun (r : Int32) (u : MM) => r = r0 ∧ u = M0) (gI (m_Wd dC dI kI kZ ad) (m_Kn dC dI kI kZ ad)) (m_A ad)) (([.ref (ad (0))] : List Value).toArray) s 0 0 (m_A ad)) (F0 m 107 ls []) := by
            intro  H locs ls hP hS hl h
            have h := useK0 eJ107 h
            refine lv_aload_n hx hb dX8_readsFact_107 rfl (lv_at hl 1 rfl) ?_
            refine va_get (D := (dC, dI)) (ci := 8) (v := .ref (ad (2))) (C := RX8) (T := TX8) (N := 29) hx hb hg inX8 hown hKn.1 hP (0) (m_at8 (c := 0) (by decide)) rfl 1 (Nat.le_of_ble_eq_true rfl) (hg _ lkF_X8_13) (fun _ h9 => h9) rfl dX8_readsFact_108 ?_
            refine lv_iconst (v := 2) hx hb dX8_readsFact_111 (by decide) ?_
            refine lv_dup2_11 hx hb dX8_readsFact_112 rfl rfl ?_
            refine m_iald (M := M_9) (a := 2) hx hb hKn hP (by decide) (j := 2) (by decide) (by decide) dX8_readsFact_113 ?_
            refine lv_iconst (v := 1) hx hb dX8_readsFact_114 (by decide) ?_
            refine lv_iadd hx hb dX8_readsFact_115 ?_
            refine m_iast (M := M_9) (a := 2) hx hb hKn hP hS (by decide) (x := ((M_9.1 2 2) + 1)) (j := 2) (by decide) (by decide) dX8_readsFact_116 (fun H locs hP hS => ?_)
            have hP : va_P (dC, dI) vwCl (m_w kI kZ ad (um M_9 2 2 ((M_9.1 2 2) + 1)).1 (um M_9 2 2 ((M_9.1 2 2) + 1)).2) H := hP
            refine lv_aload_n hx hb dX8_readsFact_117 rfl (lv_at hl 1 rfl) ?_
            refine lv_bipush (v := 34) hx hb dX8_readsFact_118 (by decide) ?_
            refine lv_iload_n hx hb dX8_readsFact_120 rfl (lv_at hl 0 rfl) ?_
            refine lv_iadd hx hb dX8_readsFact_121 ?_
            refine lv_iconst (v := 0) hx hb dX8_readsFact_122 (by decide) ?_
            refine lv_bipush (v := 20) hx hb dX8_readsFact_123 (by decide) ?_
            obtain ⟨r_11, M_12, e125, h⟩ := bd_use h
            refine gc_i (va_runV (As := [.int ((34 + (M.1 2 2))), .int (0), .int (20)]) (rest := []) hFx (tX8_number l dC dI kI kZ ad (34 + (M.1 2 2)) 0 20 (um M_9 2 2 ((M_9.1 2 2) + 1))  e125) ⟨(gc_B hFx ck_yX8_number lkM_X8_116 ⟨Nat.le_of_ble_eq_true rfl, Nat.le_of_ble_eq_true rfl⟩ rfl rfl), hg _ vi_yX8_number, hg _ vs_yX8_number⟩ (gp_V m_KnB (m_KnW hKn) hP (m_rc8 (c := 0) (by decide) hKn hP)) rfl rfl hl.1 rfl (lv_room (Nat.le_of_ble_eq_true rfl)) dX8_readsFact_125 ⟨Nat.zero_le _, Nat.zero_le _⟩) hS (fun H locs hP hS => ?_)
            have hP : va_P (dC, dI) vwCl (m_w kI kZ ad M_12.1 M_12.2) H := hP
            refine lv_if_eq (tgt := 156) hx hb dX8_readsFact_128 (by decide) (fun c_13 => ?_) (fun c_13 => ?_)
            · have h := ife_t c_13 h
              refine lv_iconst (v := 0) hx hb dX8_readsFact_156 (by decide) ?_
              exact W.zret (v := 0) hx hb hr rfl (fun t ht hW => ⟨⟨0, M_12, rfl, Prod.mk.inj (Option.some.inj h), by rw [ht]; exact hP, m_KnW hKn t hW⟩, hS.F ht⟩) hS.2.2 dX8_readsFact_157
            · have h := ife_f c_13 h
              refine lv_aload_n hx hb dX8_readsFact_131 rfl (lv_at hl 1 rfl) ?_
              refine lv_bipush (v := 42) hx hb dX8_readsFact_132 (by decide) ?_
              refine lv_iload_n hx hb dX8_readsFact_134 rfl (lv_at hl 0 rfl) ?_
              refine lv_iadd hx hb dX8_readsFact_135 ?_
              refine lv_iconst (v := 0) hx hb dX8_readsFact_136 (by decide) ?_
              refine lv_bipush (v := 9) hx hb dX8_readsFact_137 (by decide) ?_
              obtain ⟨r_14, M_15, e139, h⟩ := bd_use h
              refine gc_i (va_runV (As := [.int ((42 + (M.1 2 2))), .int (0), .int (9)]) (rest := []) hFx (tX8_number l dC dI kI kZ ad (42 + (M.1 2 2)) 0 9 M_12  e139) ⟨(gc_B hFx ck_yX8_number lkM_X8_116 ⟨Nat.le_of_ble_eq_true rfl, Nat.le_of_ble_eq_true rfl⟩ rfl rfl), hg _ vi_yX8_number, hg _ vs_yX8_number⟩ (gp_V m_KnB (m_KnW hKn) hP (m_rc8 (c := 0) (by decide) hKn hP)) rfl rfl hl.1 rfl (lv_room (Nat.le_of_ble_eq_true rfl)) dX8_readsFact_139 ⟨Nat.zero_le _, Nat.zero_le _⟩) hS (fun H locs hP hS => ?_)
              have hP : va_P (dC, dI) vwCl (m_w kI kZ ad M_15.1 M_15.2) H := hP
              refine lv_if_eq (tgt := 156) hx hb dX8_readsFact_142 (by decide) (fun c_16 => ?_) (fun c_16 => ?_)
              · have h := ife_t c_16 h
                refine lv_iconst (v := 0) hx hb dX8_readsFact_156 (by decide) ?_
                exact W.zret (v := 0) hx hb hr rfl (fun t ht hW => ⟨⟨0, M_15, rfl, Prod.mk.inj (Option.some.inj h), by rw [ht]; exact hP, m_KnW hKn t hW⟩, hS.F ht⟩) hS.2.2 dX8_readsFact_157
              · have h := ife_f c_16 h
                refine lv_aload_n hx hb dX8_readsFact_145 rfl (lv_at hl 1 rfl) ?_
                obtain ⟨r_17, M_18, e146, h⟩ := bd_use h
                refine gc_i (va_runV (As := []) (rest := []) hFx (tX8_ends l dC dI kI kZ ad  M_15  e146) ⟨(gc_B hFx ck_yX8_ends lkM_X8_120 ⟨Nat.le_of_ble_eq_true rfl, Nat.le_of_ble_eq_true rfl⟩ rfl rfl), hg _ vi_yX8_ends, hg _ vs_yX8_ends⟩ (gp_V m_KnB (m_KnW hKn) hP (m_rc8 (c := 0) (by decide) hKn hP)) rfl rfl hl.1 rfl (lv_room (Nat.le_of_ble_eq_true rfl)) dX8_readsFact_146 ⟨Nat.zero_le _, Nat.zero_le _⟩) hS (fun H locs hP hS => ?_)
                have hP : va_P (dC, dI) vwCl (m_w kI kZ ad M_18.1 M_18.2) H := hP
                refine lv_if_eq (tgt := 156) hx hb dX8_readsFact_149 (by decide) (fun c_19 => ?_) (fun c_19 => ?_)
                · have h := ife_t c_19 h
                  refine lv_iconst (v := 0) hx hb dX8_readsFact_156 (by decide) ?_
                  exact W.zret (v := 0) hx hb hr rfl (fun t ht hW => ⟨⟨0, M_18, rfl, Prod.mk.inj (Option.some.inj h), by rw [ht]; exact hP, m_KnW hKn t hW⟩, hS.F ht⟩) hS.2.2 dX8_readsFact_157
                · have h := ife_f c_19 h
                  refine lv_iconst (v := 1) hx hb dX8_readsFact_152 (by decide) ?_
                  refine lv_goto (tgt := 157) hx hb dX8_readsFact_153 (by decide) ?_
                  exact W.zret (v := 1) hx hb hr rfl (fun t ht hW => ⟨⟨1, M_18, rfl, Prod.mk.inj (Option.some.inj h), by rw [ht]; exact hP, m_KnW hKn t hW⟩, hS.F ht⟩) hS.2.2 dX8_readsFact_157
          refine lv_icmp_lt (tgt := 107) hx hb dX8_readsFact_84 (by decide) (fun c_20 => ?_) (fun c_20 => ?_)
          · have h := ife_t c_20 h
            exact hJ107 _ _ _ hP hS (lv_sub hl [0, 1] rfl) h
          · have h := ife_f c_20 h
            refine lv_aload_n hx hb dX8_readsFact_87 rfl (lv_at hl 1 rfl) ?_
            refine va_get (D := (dC, dI)) (ci := 8) (v := .ref (ad (2))) (C := RX8) (T := TX8) (N := 29) hx hb hg inX8 hown hKn.1 hP (0) (m_at8 (c := 0) (by decide)) rfl 1 (Nat.le_of_ble_eq_true rfl) (hg _ lkF_X8_13) (fun _ h9 => h9) rfl dX8_readsFact_88 ?_
            refine lv_bipush (v := 26) hx hb dX8_readsFact_91 (by decide) ?_
            refine lv_iload_n hx hb dX8_readsFact_93 rfl (lv_at hl 0 rfl) ?_
            refine lv_iadd hx hb dX8_readsFact_94 ?_
            obtain ⟨hi95, h⟩ := if_use h
            refine m_iald (M := M_9) (a := 2) hx hb hKn hP (by decide) (j := (ix (26 + (M.1 2 2)))) rfl hi95 dX8_readsFact_95 ?_
            refine lv_bipush (v := 9) hx hb dX8_readsFact_96 (by decide) ?_
            refine lv_icmp_eq (tgt := 107) hx hb dX8_readsFact_98 (by decide) (fun c_21 => ?_) (fun c_21 => ?_)
            · have h := ife_t c_21 h
              exact hJ107 _ _ _ hP hS (lv_sub hl [0, 1] rfl) h
            · have h := ife_f c_21 h
              refine lv_aload_n hx hb dX8_readsFact_101 rfl (lv_at hl 1 rfl) ?_
              refine lv_iconst (v := 2) hx hb dX8_readsFact_102 (by decide) ?_
              obtain ⟨r_22, M_23, e103, h⟩ := bd_use h
              refine gc_i (va_runV (As := [.int (2)]) (rest := []) hFx (tX8_fails l dC dI kI kZ ad 2 M_9  e103) ⟨(gc_B hFx ck_yX8_fails lkM_X8_112 ⟨Nat.le_of_ble_eq_true rfl, Nat.le_of_ble_eq_true rfl⟩ rfl rfl), hg _ vi_yX8_fails, hg _ vs_yX8_fails⟩ (gp_V m_KnB (m_KnW hKn) hP (m_rc8 (c := 0) (by decide) hKn hP)) rfl rfl hl.1 rfl (lv_room (Nat.le_of_ble_eq_true rfl)) dX8_readsFact_103 ⟨Nat.zero_le _, Nat.zero_le _⟩) hS (fun H locs hP hS => ?_)
              have hP : va_P (dC, dI) vwCl (m_w kI kZ ad M_23.1 M_23.2) H := hP
              obtain ⟨hbo, h⟩ := if_use h
              exact W.zret (v := r_22) hx hb hr (narrow_b01 hbo) (fun t ht hW => ⟨⟨r_22, M_23, rfl, Prod.mk.inj (Option.some.inj h), by rw [ht]; exact hP, m_KnW hKn t hW⟩, hS.F ht⟩) hS.2.2 dX8_readsFact_106
        · have h := ife_t c_10 h
          refine lv_iconst (v := 0) hx hb dX8_readsFact_67 (by decide) ?_
          exact W.zret (v := 0) hx hb hr rfl (fun t ht hW => ⟨⟨0, M_9, rfl, Prod.mk.inj (Option.some.inj h), by rw [ht]; exact hP, m_KnW hKn t hW⟩, hS.F ht⟩) hS.2.2 dX8_readsFact_68
  · have h := ife_t c_1 h
    refine lv_aload_n hx hb dX8_readsFact_13 rfl (lv_at hl 1 rfl) ?_
    refine lv_iconst (v := 3) hx hb dX8_readsFact_14 (by decide) ?_
    obtain ⟨r_24, M_25, e15, h⟩ := bd_use h
    refine gc_i (va_runV (As := [.int (3)]) (rest := []) hFx (tX8_fails l dC dI kI kZ ad 3 M  e15) ⟨(gc_B hFx ck_yX8_fails lkM_X8_112 ⟨Nat.le_of_ble_eq_true rfl, Nat.le_of_ble_eq_true rfl⟩ rfl rfl), hg _ vi_yX8_fails, hg _ vs_yX8_fails⟩ (gp_V m_KnB (m_KnW hKn) hP (m_rc8 (c := 0) (by decide) hKn hP)) rfl rfl hl.1 rfl (lv_room (Nat.le_of_ble_eq_true rfl)) dX8_readsFact_15 ⟨Nat.zero_le _, Nat.zero_le _⟩) hS (fun H locs hP hS => ?_)
    have hP : va_P (dC, dI) vwCl (m_w kI kZ ad M_25.1 M_25.2) H := hP
    obtain ⟨hbo, h⟩ := if_use h
    exact W.zret (v := r_24) hx hb hr (narrow_b01 hbo) (fun t ht hW => ⟨⟨r_24, M_25, rfl, Prod.mk.inj (Option.some.inj h), by rw [ht]; exact hP, m_KnW hKn t hW⟩, hS.F ht⟩) hS.2.2 dX8_readsFact_18
noncomputable def FX8_readsReader_L29 (K : MM → Option (Int32 × MM)) (k : Nat) (v1_10 : Int32) (M_11 : MM) : Option (Int32 × MM) := match k with
  | 0 => none
  | k + 1 => (if v1_10 = 0 then K M_11 else (if (M_11.1 2 1) = 5 then bd (FX8_fails 1 M_11) (fun (r_20 : Int32) (M_21 : MM) => if bo01 r_20 then some (r_20, M_21) else none) else bd (FX8_number (5 + (M_11.1 2 1)) 0 20 M_11) (fun (r_14 : Int32) (M_15 : MM) => (if r_14 = 0 then some (0, M_15) else bo (FX8_step  (um M_15 2 1 ((M_15.1 2 1) + 1))) (fun (M_17 : MM) => jn (α := Int32 → Option (Int32 × MM)) (fun (s_18 : Int32) => FX8_readsReader_L29 K k s_18 M_17) (fun J97 => (if (M_17.1 0 17) = 44 then J97 1 else J97 0)))))))
noncomputable def FX8_readsReader  (M : MM) : Option (Int32 × MM) :=
  (if (M.1 2 1) ≤ 0 then bd (FX8_number 0 1 3 M) (fun (r_2 : Int32) (M_3 : MM) => (if r_2 = 0 then some (0, M_3) else FX8_readsReader_L29 (fun (M_5 : MM) => (if (M_5.1 0 17) = 59 then some (1, M_5) else bd (FX8_fails 1 M_5) (fun (r_7 : Int32) (M_8 : MM) => (if r_7 = 0 then some (0, M_8) else some (1, M_8))))) fuelN 1 M_3)) else bd (FX8_fails 3 M) (fun (r_22 : Int32) (M_23 : MM) => if bo01 r_22 then some (r_22, M_23) else none))
set_option maxHeartbeats 4000000 in
set_option maxRecDepth 100000 in
theorem tX8_readsReader (l : Launch) (dC : Nat → ClassId) (dI : Nat → Nat → Nat) (kI kZ : ClassId) (ad : Nat → Nat)  (M : MM)  {r0 : Int32} {M0 : MM} (h : FX8_readsReader  M = some (r0, M0)) : Met l yX8_readsReader (wsA yX8_readsReader cX8_readsReader 2 (some .boolean)) ({ frames := 3, cells := 0, slots := 0, locals := 68 } : Room) (va_Pc [.ref (ad (0))] (gI (m_Wd dC dI kI kZ ad) (m_Kn dC dI kI kZ ad) M)) (va_Qi (fun (r : Int32) (u : MM) => r = r0 ∧ u = M0) (gI (m_Wd dC dI kI kZ ad) (m_Kn dC dI kI kZ ad)) (m_A ad)) 0 0 (m_A ad) := by
  refine Met.ofW (cc := cX8_readsReader) (maxL := 2) (ret := (some .boolean)) (by decide) rfl ?_
  intro p e s m args below meth c s₁ B hml hv
  obtain ⟨rfl, hP, hKn⟩ := hv
  have hx := B.exec
  have hb := B.bytes
  have hr := B.returns
  have hts := atoms_spec (ws := wsA yX8_readsReader cX8_readsReader 2 (some .boolean)) B.pre
  have hg : ∀ w ∈ lw_good, w.before _ s = true := fun w h => hts w (List.mem_cons_of_mem _ h)
  have hown : s.vm.findClass RX8 = some m.cls := findClass_of_methodNamed B.named
  have hlocks := B.notSynchronized
  have hS : va_S (m_A ad) s.heap s.heap [] := va_S.rf
  have hFx : gFix p c cX8_readsReader 2 s m _ RX8 := ⟨hx, hb, hml, hown, hg⟩
  have hP : va_P (dC, dI) vwCl (m_w kI kZ ad M.1 M.2) s.heap := hP
  have hl := lv_entry ([.ref (ad (0))]) (n := 2) (Nat.le_of_ble_eq_true rfl)
  rw [lg_entry_eq]
  generalize (lg_sl ([.ref (ad (0))]) ++ List.replicate (2 - (lg_sl ([.ref (ad (0))])).length) Slot.unset).toArray = ls at hl ⊢
  have hl : lv_has ls 2 [(0, .ref (ad (0)))] := hl
  unfold FX8_readsReader at h
  refine lv_aload_n hx hb dX8_readsReader_0 rfl (lv_at hl 0 rfl) ?_
  refine va_get (D := (dC, dI)) (ci := 8) (v := .ref (ad (2))) (C := RX8) (T := TX8) (N := 29) hx hb hg inX8 hown hKn.1 hP (0) (m_at8 (c := 0) (by decide)) rfl 1 (Nat.le_of_ble_eq_true rfl) (hg _ lkF_X8_13) (fun _ h9 => h9) rfl dX8_readsReader_1 ?_
  refine lv_iconst (v := 1) hx hb dX8_readsReader_4 (by decide) ?_
  refine m_iald (M := M) (a := 2) hx hb hKn hP (by decide) (j := 1) (by decide) (by decide) dX8_readsReader_5 ?_
  refine lv_if_le (tgt := 15) hx hb dX8_readsReader_6 (by decide) (fun c_1 => ?_) (fun c_1 => ?_)
  · have h := ife_t c_1 h
    refine lv_aload_n hx hb dX8_readsReader_15 rfl (lv_at hl 0 rfl) ?_
    refine lv_iconst (v := 0) hx hb dX8_readsReader_16 (by decide) ?_
    refine lv_iconst (v := 1) hx hb dX8_readsReader_17 (by decide) ?_
    refine lv_iconst (v := 3) hx hb dX8_readsReader_18 (by decide) ?_
    obtain ⟨r_2, M_3, e19, h⟩ := bd_use h
    refine gc_i (va_runV (As := [.int (0), .int (1), .int (3)]) (rest := []) hFx (tX8_number l dC dI kI kZ ad 0 1 3 M  e19) ⟨(gc_B hFx ck_yX8_number lkM_X8_116 ⟨Nat.le_of_ble_eq_true rfl, Nat.le_of_ble_eq_true rfl⟩ rfl rfl), hg _ vi_yX8_number, hg _ vs_yX8_number⟩ (gp_V m_KnB (m_KnW hKn) hP (m_rc8 (c := 0) (by decide) hKn hP)) rfl rfl hl.1 rfl (lv_room (Nat.le_of_ble_eq_true rfl)) dX8_readsReader_19 ⟨Nat.zero_le _, Nat.zero_le _⟩) hS (fun H locs hP hS => ?_)
    have hP : va_P (dC, dI) vwCl (m_w kI kZ ad M_3.1 M_3.2) H := hP
    refine lv_if_ne (tgt := 27) hx hb dX8_readsReader_22 (by decide) (fun c_4 => ?_) (fun c_4 => ?_)
    · have h := ife_f c_4 h
      refine lv_iconst (v := 1) hx hb dX8_readsReader_27 (by decide) ?_
      refine lv_istore_n (lv' := [(1, .int (1)), (0, .ref (ad (0)))]) hx hb dX8_readsReader_28 rfl hl (Nat.le_of_ble_eq_true rfl) rfl (fun ls hl => ?_)
      obtain ⟨K29, eK29, h⟩ := exK (Lp := fun K => FX8_readsReader_L29 K fuelN 1 M_3) h
      have hK29 : ∀ (M_5 : MM) (H : Heap) (locs : List Loc) (ls : Array Slot), va_P (dC, dI) vwCl (m_w kI kZ ad M_5.1 M_5.2) H → va_S (m_A ad) s.heap H locs → lv_has ls 2 [(0, .ref (ad (0)))] → K29 M_5 = some (r0, M0) → W p l e (headSpec (wsA yX8_readsReader cX8_readsReader 2 (some .boolean)) ({ frames := 3, cells := 0, slots := 0, locals := 68 } : Room)).room s m (([.ref (ad (0))] : List Value).toArray) below meth c H locs 0 0 (MQ below (va_Qi (fun (r : Int32) (u : MM) => r = r0 ∧ u = M0) (gI (m_Wd dC dI kI kZ ad) (m_Kn dC dI kI kZ ad)) (m_A ad)) (([.ref (ad (0))] : List Value).toArray) s 0 0 (m_A ad)) (F0 m 101 ls []) := by
        intro M_5 H locs ls hP hS hl h
        have h := useK1 eK29 h
        refine lv_aload_n hx hb dX8_readsReader_101 rfl (lv_at hl 0 rfl) ?_
        refine va_get (D := (dC, dI)) (ci := 8) (v := .int ((M_5.1 0 17))) (C := RX8) (T := TX8) (N := 29) hx hb hg inX8 hown hKn.1 hP (0) (m_at8 (c := 0) (by decide)) rfl 17 (Nat.le_of_ble_eq_true rfl) (hg _ lkF_X8_93) (fun _ h9 => h9) rfl dX8_readsReader_102 ?_
        refine lv_bipush (v := 59) hx hb dX8_readsReader_105 (by decide) ?_
        refine lv_icmp_eq (tgt := 118) hx hb dX8_readsReader_107 (by decide) (fun c_6 => ?_) (fun c_6 => ?_)
        · have h := ife_t c_6 h
          refine lv_iconst (v := 1) hx hb dX8_readsReader_118 (by decide) ?_
          refine lv_goto (tgt := 123) hx hb dX8_readsReader_119 (by decide) ?_
          exact W.zret (v := 1) hx hb hr rfl (fun t ht hW => ⟨⟨1, M_5, rfl, Prod.mk.inj (Option.some.inj h), by rw [ht]; exact hP, m_KnW hKn t hW⟩, hS.F ht⟩) hS.2.2 dX8_readsReader_123
        · have h := ife_f c_6 h
          refine lv_aload_n hx hb dX8_readsReader_110 rfl (lv_at hl 0 rfl) ?_
          refine lv_iconst (v := 1) hx hb dX8_readsReader_111 (by decide) ?_
          obtain ⟨r_7, M_8, e112, h⟩ := bd_use h
          refine gc_i (va_runV (As := [.int (1)]) (rest := []) hFx (tX8_fails l dC dI kI kZ ad 1 M_5  e112) ⟨(gc_B hFx ck_yX8_fails lkM_X8_112 ⟨Nat.le_of_ble_eq_true rfl, Nat.le_of_ble_eq_true rfl⟩ rfl rfl), hg _ vi_yX8_fails, hg _ vs_yX8_fails⟩ (gp_V m_KnB (m_KnW hKn) hP (m_rc8 (c := 0) (by decide) hKn hP)) rfl rfl hl.1 rfl (lv_room (Nat.le_of_ble_eq_true rfl)) dX8_readsReader_112 ⟨Nat.zero_le _, Nat.zero_le _⟩) hS (fun H locs hP hS => ?_)
          have hP : va_P (dC, dI) vwCl (m_w kI kZ ad M_8.1 M_8.2) H := hP
          refine lv_if_eq (tgt := 122) hx hb dX8_readsReader_115 (by decide) (fun c_9 => ?_) (fun c_9 => ?_)
          · have h := ife_t c_9 h
            refine lv_iconst (v := 0) hx hb dX8_readsReader_122 (by decide) ?_
            exact W.zret (v := 0) hx hb hr rfl (fun t ht hW => ⟨⟨0, M_8, rfl, Prod.mk.inj (Option.some.inj h), by rw [ht]; exact hP, m_KnW hKn t hW⟩, hS.F ht⟩) hS.2.2 dX8_readsReader_123
          · have h := ife_f c_9 h
            refine lv_iconst (v := 1) hx hb dX8_readsReader_118 (by decide) ?_
            refine lv_goto (tgt := 123) hx hb dX8_readsReader_119 (by decide) ?_
            exact W.zret (v := 1) hx hb hr rfl (fun t ht hW => ⟨⟨1, M_8, rfl, Prod.mk.inj (Option.some.inj h), by rw [ht]; exact hP, m_KnW hKn t hW⟩, hS.F ht⟩) hS.2.2 dX8_readsReader_123
      have hL29 : ∀ (k : Nat) (v1_10 : Int32) (M_11 : MM) (H : Heap) (locs : List Loc) (ls : Array Slot), va_P (dC, dI) vwCl (m_w kI kZ ad M_11.1 M_11.2) H → va_S (m_A ad) s.heap H locs → lv_has ls 2 [(0, .ref (ad (0))), (1, .int (v1_10))] → FX8_readsReader_L29 K29 k v1_10 M_11 = some (r0, M0) → W p l e (headSpec (wsA yX8_readsReader cX8_readsReader 2 (some .boolean)) ({ frames := 3, cells := 0, slots := 0, locals := 68 } : Room)).room s m (([.ref (ad (0))] : List Value).toArray) below meth c H locs 0 0 (MQ below (va_Qi (fun (r : Int32) (u : MM) => r = r0 ∧ u = M0) (gI (m_Wd dC dI kI kZ ad) (m_Kn dC dI kI kZ ad)) (m_A ad)) (([.ref (ad (0))] : List Value).toArray) s 0 0 (m_A ad)) (F0 m 29 ls []) := by
        intro k
        induction k with
        | zero => intro v1_10 M_11 H locs ls hP hS hl h; cases h
        | succ k ih29 =>
          intro v1_10 M_11 H locs ls hP hS hl h
          unfold FX8_readsReader_L29 at h
          refine lv_iload_n hx hb dX8_readsReader_29 rfl (lv_at hl 1 rfl) ?_
          refine lv_if_eq (tgt := 101) hx hb dX8_readsReader_30 (by decide) (fun c_12 => ?_) (fun c_12 => ?_)
          · have h := ife_t c_12 h
            exact hK29 M_11 _ _ _ hP hS (lv_sub hl [0] rfl) h
          · have h := ife_f c_12 h
            refine lv_aload_n hx hb dX8_readsReader_33 rfl (lv_at hl 0 rfl) ?_
            refine va_get (D := (dC, dI)) (ci := 8) (v := .ref (ad (2))) (C := RX8) (T := TX8) (N := 29) hx hb hg inX8 hown hKn.1 hP (0) (m_at8 (c := 0) (by decide)) rfl 1 (Nat.le_of_ble_eq_true rfl) (hg _ lkF_X8_13) (fun _ h9 => h9) rfl dX8_readsReader_34 ?_
            refine lv_iconst (v := 1) hx hb dX8_readsReader_37 (by decide) ?_
            refine m_iald (M := M_11) (a := 2) hx hb hKn hP (by decide) (j := 1) (by decide) (by decide) dX8_readsReader_38 ?_
            refine lv_iconst (v := 5) hx hb dX8_readsReader_39 (by decide) ?_
            refine lv_icmp_ne (tgt := 49) hx hb dX8_readsReader_40 (by decide) (fun c_13 => ?_) (fun c_13 => ?_)
            · have h := ife_f c_13 h
              refine lv_aload_n hx hb dX8_readsReader_49 rfl (lv_at hl 0 rfl) ?_
              refine lv_iconst (v := 5) hx hb dX8_readsReader_50 (by decide) ?_
              refine lv_aload_n hx hb dX8_readsReader_51 rfl (lv_at hl 0 rfl) ?_
              refine va_get (D := (dC, dI)) (ci := 8) (v := .ref (ad (2))) (C := RX8) (T := TX8) (N := 29) hx hb hg inX8 hown hKn.1 hP (0) (m_at8 (c := 0) (by decide)) rfl 1 (Nat.le_of_ble_eq_true rfl) (hg _ lkF_X8_13) (fun _ h9 => h9) rfl dX8_readsReader_52 ?_
              refine lv_iconst (v := 1) hx hb dX8_readsReader_55 (by decide) ?_
              refine m_iald (M := M_11) (a := 2) hx hb hKn hP (by decide) (j := 1) (by decide) (by decide) dX8_readsReader_56 ?_
              refine lv_iadd hx hb dX8_readsReader_57 ?_
              refine lv_iconst (v := 0) hx hb dX8_readsReader_58 (by decide) ?_
              refine lv_bipush (v := 20) hx hb dX8_readsReader_59 (by decide) ?_
              obtain ⟨r_14, M_15, e61, h⟩ := bd_use h
              refine gc_i (va_runV (As := [.int ((5 + (M_11.1 2 1))), .int (0), .int (20)]) (rest := []) hFx (tX8_number l dC dI kI kZ ad (5 + (M_11.1 2 1)) 0 20 M_11  e61) ⟨(gc_B hFx ck_yX8_number lkM_X8_116 ⟨Nat.le_of_ble_eq_true rfl, Nat.le_of_ble_eq_true rfl⟩ rfl rfl), hg _ vi_yX8_number, hg _ vs_yX8_number⟩ (gp_V m_KnB (m_KnW hKn) hP (m_rc8 (c := 0) (by decide) hKn hP)) rfl rfl hl.1 rfl (lv_room (Nat.le_of_ble_eq_true rfl)) dX8_readsReader_61 ⟨Nat.zero_le _, Nat.zero_le _⟩) hS (fun H locs hP hS => ?_)
              have hP : va_P (dC, dI) vwCl (m_w kI kZ ad M_15.1 M_15.2) H := hP
              refine lv_if_ne (tgt := 69) hx hb dX8_readsReader_64 (by decide) (fun c_16 => ?_) (fun c_16 => ?_)
              · have h := ife_f c_16 h
                refine lv_aload_n hx hb dX8_readsReader_69 rfl (lv_at hl 0 rfl) ?_
                refine va_get (D := (dC, dI)) (ci := 8) (v := .ref (ad (2))) (C := RX8) (T := TX8) (N := 29) hx hb hg inX8 hown hKn.1 hP (0) (m_at8 (c := 0) (by decide)) rfl 1 (Nat.le_of_ble_eq_true rfl) (hg _ lkF_X8_13) (fun _ h9 => h9) rfl dX8_readsReader_70 ?_
                refine lv_iconst (v := 1) hx hb dX8_readsReader_73 (by decide) ?_
                refine lv_dup2_11 hx hb dX8_readsReader_74 rfl rfl ?_
                refine m_iald (M := M_15) (a := 2) hx hb hKn hP (by decide) (j := 1) (by decide) (by decide) dX8_readsReader_75 ?_
                refine lv_iconst (v := 1) hx hb dX8_readsReader_76 (by decide) ?_
                refine lv_iadd hx hb dX8_readsReader_77 ?_
                refine m_iast (M := M_15) (a := 2) hx hb hKn hP hS (by decide) (x := ((M_15.1 2 1) + 1)) (j := 1) (by decide) (by decide) dX8_readsReader_78 (fun H locs hP hS => ?_)
                have hP : va_P (dC, dI) vwCl (m_w kI kZ ad (um M_15 2 1 ((M_15.1 2 1) + 1)).1 (um M_15 2 1 ((M_15.1 2 1) + 1)).2) H := hP
                refine lv_aload_n hx hb dX8_readsReader_79 rfl (lv_at hl 0 rfl) ?_
                obtain ⟨M_17, e80, h⟩ := bo_use h
                refine gc_v (va_runV (As := []) (rest := []) hFx (tX8_step l dC dI kI kZ ad  (um M_15 2 1 ((M_15.1 2 1) + 1))  e80) ⟨(gc_B hFx ck_yX8_step lkM_X8_109 ⟨Nat.le_of_ble_eq_true rfl, Nat.le_of_ble_eq_true rfl⟩ rfl rfl), hg _ vi_yX8_step, hg _ vs_yX8_step⟩ (gp_V m_KnB (m_KnW hKn) hP (m_rc8 (c := 0) (by decide) hKn hP)) rfl rfl hl.1 rfl (lv_room (Nat.le_of_ble_eq_true rfl)) dX8_readsReader_80 ⟨Nat.zero_le _, Nat.zero_le _⟩) hS (fun H locs hP hS => ?_)
                have hP : va_P (dC, dI) vwCl (m_w kI kZ ad M_17.1 M_17.2) H := hP
                refine lv_aload_n hx hb dX8_readsReader_83 rfl (lv_at hl 0 rfl) ?_
                refine va_get (D := (dC, dI)) (ci := 8) (v := .int ((M_17.1 0 17))) (C := RX8) (T := TX8) (N := 29) hx hb hg inX8 hown hKn.1 hP (0) (m_at8 (c := 0) (by decide)) rfl 17 (Nat.le_of_ble_eq_true rfl) (hg _ lkF_X8_93) (fun _ h9 => h9) rfl dX8_readsReader_84 ?_
                refine lv_bipush (v := 44) hx hb dX8_readsReader_87 (by decide) ?_
                obtain ⟨J97, eJ97, h⟩ := jn_use h
                have hJ97 : ∀ (s_18 : Int32) (H : Heap) (locs : List Loc) (ls : Array Slot), va_P (dC, dI) vwCl (m_w kI kZ ad M_17.1 M_17.2) H → va_S (m_A ad) s.heap H locs → lv_has ls 2 [(0, .ref (ad (0)))] → J97 s_18 = some (r0, M0) → W p l e (headSpec (wsA yX8_readsReader cX8_readsReader 2 (some .boolean)) ({ frames := 3, cells := 0, slots := 0, locals := 68 } : Room)).room s m (([.ref (ad (0))] : List Value).toArray) below meth c H locs 0 0 (MQ below (va_Qi (fun (r : Int32) (u : MM) => r = r0 ∧ u = M0) (gI (m_Wd dC dI kI kZ ad) (m_Kn dC dI kI kZ ad)) (m_A ad)) (([.ref (ad (0))] : List Value).toArray) s 0 0 (m_A ad)) (F0 m 97 ls [.int (s_18)]) := by
                  intro s_18 H locs ls hP hS hl h
                  have h := useK1 eJ97 h
                  refine lv_istore_n (lv' := [(1, .int (s_18)), (0, .ref (ad (0)))]) hx hb dX8_readsReader_97 rfl hl (Nat.le_of_ble_eq_true rfl) rfl (fun ls hl => ?_)
                  refine lv_goto (tgt := 29) hx hb dX8_readsReader_98 (by decide) ?_
                  exact ih29 s_18 M_17 _ _ _ hP hS (lv_sub hl [1, 0] rfl) h
                refine lv_icmp_ne (tgt := 96) hx hb dX8_readsReader_89 (by decide) (fun c_19 => ?_) (fun c_19 => ?_)
                · have h := ife_f c_19 h
                  refine lv_iconst (v := 0) hx hb dX8_readsReader_96 (by decide) ?_
                  exact hJ97 0 _ _ _ hP hS (lv_sub hl [0] rfl) h
                · have h := ife_t c_19 h
                  refine lv_iconst (v := 1) hx hb dX8_readsReader_92 (by decide) ?_
                  refine lv_goto (tgt := 97) hx hb dX8_readsReader_93 (by decide) ?_
                  exact hJ97 1 _ _ _ hP hS (lv_sub hl [0] rfl) h
              · have h := ife_t c_16 h
                refine lv_iconst (v := 0) hx hb dX8_readsReader_67 (by decide) ?_
                exact W.zret (v := 0) hx hb hr rfl (fun t ht hW => ⟨⟨0, M_15, rfl, Prod.mk.inj (Option.some.inj h), by rw [ht]; exact hP, m_KnW hKn t hW⟩, hS.F ht⟩) hS.2.2 dX8_readsReader_68
            · have h := ife_t c_13 h
              refine lv_aload_n hx hb dX8_readsReader_43 rfl (lv_at hl 0 rfl) ?_
              refine lv_iconst (v := 1) hx hb dX8_readsReader_44 (by decide) ?_
              obtain ⟨r_20, M_21, e45, h⟩ := bd_use h
              refine gc_i (va_runV (As := [.int (1)]) (rest := []) hFx (tX8_fails l dC dI kI kZ ad 1 M_11  e45) ⟨(gc_B hFx ck_yX8_fails lkM_X8_112 ⟨Nat.le_of_ble_eq_true rfl, Nat.le_of_ble_eq_true rfl⟩ rfl rfl), hg _ vi_yX8_fails, hg _ vs_yX8_fails⟩ (gp_V m_KnB (m_KnW hKn) hP (m_rc8 (c := 0) (by decide) hKn hP)) rfl rfl hl.1 rfl (lv_room (Nat.le_of_ble_eq_true rfl)) dX8_readsReader_45 ⟨Nat.zero_le _, Nat.zero_le _⟩) hS (fun H locs hP hS => ?_)
              have hP : va_P (dC, dI) vwCl (m_w kI kZ ad M_21.1 M_21.2) H := hP
              obtain ⟨hbo, h⟩ := if_use h
              exact W.zret (v := r_20) hx hb hr (narrow_b01 hbo) (fun t ht hW => ⟨⟨r_20, M_21, rfl, Prod.mk.inj (Option.some.inj h), by rw [ht]; exact hP, m_KnW hKn t hW⟩, hS.F ht⟩) hS.2.2 dX8_readsReader_48
      exact hL29 fuelN 1 M_3 _ _ _ hP hS (lv_sub hl [1, 0] rfl) h
    · have h := ife_t c_4 h
      refine lv_iconst (v := 0) hx hb dX8_readsReader_25 (by decide) ?_
      exact W.zret (v := 0) hx hb hr rfl (fun t ht hW => ⟨⟨0, M_3, rfl, Prod.mk.inj (Option.some.inj h), by rw [ht]; exact hP, m_KnW hKn t hW⟩, hS.F ht⟩) hS.2.2 dX8_readsReader_26
  · have h := ife_f c_1 h
    refine lv_aload_n hx hb dX8_readsReader_9 rfl (lv_at hl 0 rfl) ?_
    refine lv_iconst (v := 3) hx hb dX8_readsReader_10 (by decide) ?_
    obtain ⟨r_22, M_23, e11, h⟩ := bd_use h
    refine gc_i (va_runV (As := [.int (3)]) (rest := []) hFx (tX8_fails l dC dI kI kZ ad 3 M  e11) ⟨(gc_B hFx ck_yX8_fails lkM_X8_112 ⟨Nat.le_of_ble_eq_true rfl, Nat.le_of_ble_eq_true rfl⟩ rfl rfl), hg _ vi_yX8_fails, hg _ vs_yX8_fails⟩ (gp_V m_KnB (m_KnW hKn) hP (m_rc8 (c := 0) (by decide) hKn hP)) rfl rfl hl.1 rfl (lv_room (Nat.le_of_ble_eq_true rfl)) dX8_readsReader_11 ⟨Nat.zero_le _, Nat.zero_le _⟩) hS (fun H locs hP hS => ?_)
    have hP : va_P (dC, dI) vwCl (m_w kI kZ ad M_23.1 M_23.2) H := hP
    obtain ⟨hbo, h⟩ := if_use h
    exact W.zret (v := r_22) hx hb hr (narrow_b01 hbo) (fun t ht hW => ⟨⟨r_22, M_23, rfl, Prod.mk.inj (Option.some.inj h), by rw [ht]; exact hP, m_KnW hKn t hW⟩, hS.F ht⟩) hS.2.2 dX8_readsReader_14
noncomputable def FX8_readsSure  (M : MM) : Option (Int32 × MM) :=
  (if (M.1 2 4) = 1 then bd (FX8_fails 3 M) (fun (r_8 : Int32) (M_9 : MM) => if bo01 r_8 then some (r_8, M_9) else none) else bd (FX8_number 3 1 20 (um M 2 4 1)) (fun (r_2 : Int32) (M_3 : MM) => (if r_2 = 0 then some (0, M_3) else bd (FX8_ends  M_3) (fun (r_5 : Int32) (M_6 : MM) => (if r_5 = 0 then some (0, M_6) else some (1, M_6))))))
set_option maxHeartbeats 4000000 in
set_option maxRecDepth 100000 in
theorem tX8_readsSure (l : Launch) (dC : Nat → ClassId) (dI : Nat → Nat → Nat) (kI kZ : ClassId) (ad : Nat → Nat)  (M : MM)  {r0 : Int32} {M0 : MM} (h : FX8_readsSure  M = some (r0, M0)) : Met l yX8_readsSure (wsA yX8_readsSure cX8_readsSure 1 (some .boolean)) ({ frames := 3, cells := 0, slots := 0, locals := 68 } : Room) (va_Pc [.ref (ad (0))] (gI (m_Wd dC dI kI kZ ad) (m_Kn dC dI kI kZ ad) M)) (va_Qi (fun (r : Int32) (u : MM) => r = r0 ∧ u = M0) (gI (m_Wd dC dI kI kZ ad) (m_Kn dC dI kI kZ ad)) (m_A ad)) 0 0 (m_A ad) := by
  refine Met.ofW (cc := cX8_readsSure) (maxL := 1) (ret := (some .boolean)) (by decide) rfl ?_
  intro p e s m args below meth c s₁ B hml hv
  obtain ⟨rfl, hP, hKn⟩ := hv
  have hx := B.exec
  have hb := B.bytes
  have hr := B.returns
  have hts := atoms_spec (ws := wsA yX8_readsSure cX8_readsSure 1 (some .boolean)) B.pre
  have hg : ∀ w ∈ lw_good, w.before _ s = true := fun w h => hts w (List.mem_cons_of_mem _ h)
  have hown : s.vm.findClass RX8 = some m.cls := findClass_of_methodNamed B.named
  have hlocks := B.notSynchronized
  have hS : va_S (m_A ad) s.heap s.heap [] := va_S.rf
  have hFx : gFix p c cX8_readsSure 1 s m _ RX8 := ⟨hx, hb, hml, hown, hg⟩
  have hP : va_P (dC, dI) vwCl (m_w kI kZ ad M.1 M.2) s.heap := hP
  have hl := lv_entry ([.ref (ad (0))]) (n := 1) (Nat.le_of_ble_eq_true rfl)
  rw [lg_entry_eq]
  generalize (lg_sl ([.ref (ad (0))]) ++ List.replicate (1 - (lg_sl ([.ref (ad (0))])).length) Slot.unset).toArray = ls at hl ⊢
  have hl : lv_has ls 1 [(0, .ref (ad (0)))] := hl
  unfold FX8_readsSure at h
  refine lv_aload_n hx hb dX8_readsSure_0 rfl (lv_at hl 0 rfl) ?_
  refine va_get (D := (dC, dI)) (ci := 8) (v := .ref (ad (2))) (C := RX8) (T := TX8) (N := 29) hx hb hg inX8 hown hKn.1 hP (0) (m_at8 (c := 0) (by decide)) rfl 1 (Nat.le_of_ble_eq_true rfl) (hg _ lkF_X8_13) (fun _ h9 => h9) rfl dX8_readsSure_1 ?_
  refine lv_iconst (v := 4) hx hb dX8_readsSure_4 (by decide) ?_
  refine m_iald (M := M) (a := 2) hx hb hKn hP (by decide) (j := 4) (by decide) (by decide) dX8_readsSure_5 ?_
  refine lv_iconst (v := 1) hx hb dX8_readsSure_6 (by decide) ?_
  refine lv_icmp_ne (tgt := 16) hx hb dX8_readsSure_7 (by decide) (fun c_1 => ?_) (fun c_1 => ?_)
  · have h := ife_f c_1 h
    refine lv_aload_n hx hb dX8_readsSure_16 rfl (lv_at hl 0 rfl) ?_
    refine va_get (D := (dC, dI)) (ci := 8) (v := .ref (ad (2))) (C := RX8) (T := TX8) (N := 29) hx hb hg inX8 hown hKn.1 hP (0) (m_at8 (c := 0) (by decide)) rfl 1 (Nat.le_of_ble_eq_true rfl) (hg _ lkF_X8_13) (fun _ h9 => h9) rfl dX8_readsSure_17 ?_
    refine lv_iconst (v := 4) hx hb dX8_readsSure_20 (by decide) ?_
    refine lv_iconst (v := 1) hx hb dX8_readsSure_21 (by decide) ?_
    refine m_iast (M := M) (a := 2) hx hb hKn hP hS (by decide) (x := 1) (j := 4) (by decide) (by decide) dX8_readsSure_22 (fun H locs hP hS => ?_)
    have hP : va_P (dC, dI) vwCl (m_w kI kZ ad (um M 2 4 1).1 (um M 2 4 1).2) H := hP
    refine lv_aload_n hx hb dX8_readsSure_23 rfl (lv_at hl 0 rfl) ?_
    refine lv_iconst (v := 3) hx hb dX8_readsSure_24 (by decide) ?_
    refine lv_iconst (v := 1) hx hb dX8_readsSure_25 (by decide) ?_
    refine lv_bipush (v := 20) hx hb dX8_readsSure_26 (by decide) ?_
    obtain ⟨r_2, M_3, e28, h⟩ := bd_use h
    refine gc_i (va_runV (As := [.int (3), .int (1), .int (20)]) (rest := []) hFx (tX8_number l dC dI kI kZ ad 3 1 20 (um M 2 4 1)  e28) ⟨(gc_B hFx ck_yX8_number lkM_X8_116 ⟨Nat.le_of_ble_eq_true rfl, Nat.le_of_ble_eq_true rfl⟩ rfl rfl), hg _ vi_yX8_number, hg _ vs_yX8_number⟩ (gp_V m_KnB (m_KnW hKn) hP (m_rc8 (c := 0) (by decide) hKn hP)) rfl rfl hl.1 rfl (lv_room (Nat.le_of_ble_eq_true rfl)) dX8_readsSure_28 ⟨Nat.zero_le _, Nat.zero_le _⟩) hS (fun H locs hP hS => ?_)
    have hP : va_P (dC, dI) vwCl (m_w kI kZ ad M_3.1 M_3.2) H := hP
    refine lv_if_eq (tgt := 45) hx hb dX8_readsSure_31 (by decide) (fun c_4 => ?_) (fun c_4 => ?_)
    · have h := ife_t c_4 h
      refine lv_iconst (v := 0) hx hb dX8_readsSure_45 (by decide) ?_
      exact W.zret (v := 0) hx hb hr rfl (fun t ht hW => ⟨⟨0, M_3, rfl, Prod.mk.inj (Option.some.inj h), by rw [ht]; exact hP, m_KnW hKn t hW⟩, hS.F ht⟩) hS.2.2 dX8_readsSure_46
    · have h := ife_f c_4 h
      refine lv_aload_n hx hb dX8_readsSure_34 rfl (lv_at hl 0 rfl) ?_
      obtain ⟨r_5, M_6, e35, h⟩ := bd_use h
      refine gc_i (va_runV (As := []) (rest := []) hFx (tX8_ends l dC dI kI kZ ad  M_3  e35) ⟨(gc_B hFx ck_yX8_ends lkM_X8_120 ⟨Nat.le_of_ble_eq_true rfl, Nat.le_of_ble_eq_true rfl⟩ rfl rfl), hg _ vi_yX8_ends, hg _ vs_yX8_ends⟩ (gp_V m_KnB (m_KnW hKn) hP (m_rc8 (c := 0) (by decide) hKn hP)) rfl rfl hl.1 rfl (lv_room (Nat.le_of_ble_eq_true rfl)) dX8_readsSure_35 ⟨Nat.zero_le _, Nat.zero_le _⟩) hS (fun H locs hP hS => ?_)
      have hP : va_P (dC, dI) vwCl (m_w kI kZ ad M_6.1 M_6.2) H := hP
      refine lv_if_eq (tgt := 45) hx hb dX8_readsSure_38 (by decide) (fun c_7 => ?_) (fun c_7 => ?_)
      · have h := ife_t c_7 h
        refine lv_iconst (v := 0) hx hb dX8_readsSure_45 (by decide) ?_
        exact W.zret (v := 0) hx hb hr rfl (fun t ht hW => ⟨⟨0, M_6, rfl, Prod.mk.inj (Option.some.inj h), by rw [ht]; exact hP, m_KnW hKn t hW⟩, hS.F ht⟩) hS.2.2 dX8_readsSure_46
      · have h := ife_f c_7 h
        refine lv_iconst (v := 1) hx hb dX8_readsSure_41 (by decide) ?_
        refine lv_goto (tgt := 46) hx hb dX8_readsSure_42 (by decide) ?_
        exact W.zret (v := 1) hx hb hr rfl (fun t ht hW => ⟨⟨1, M_6, rfl, Prod.mk.inj (Option.some.inj h), by rw [ht]; exact hP, m_KnW hKn t hW⟩, hS.F ht⟩) hS.2.2 dX8_readsSure_46
  · have h := ife_t c_1 h
    refine lv_aload_n hx hb dX8_readsSure_10 rfl (lv_at hl 0 rfl) ?_
    refine lv_iconst (v := 3) hx hb dX8_readsSure_11 (by decide) ?_
    obtain ⟨r_8, M_9, e12, h⟩ := bd_use h
    refine gc_i (va_runV (As := [.int (3)]) (rest := []) hFx (tX8_fails l dC dI kI kZ ad 3 M  e12) ⟨(gc_B hFx ck_yX8_fails lkM_X8_112 ⟨Nat.le_of_ble_eq_true rfl, Nat.le_of_ble_eq_true rfl⟩ rfl rfl), hg _ vi_yX8_fails, hg _ vs_yX8_fails⟩ (gp_V m_KnB (m_KnW hKn) hP (m_rc8 (c := 0) (by decide) hKn hP)) rfl rfl hl.1 rfl (lv_room (Nat.le_of_ble_eq_true rfl)) dX8_readsSure_12 ⟨Nat.zero_le _, Nat.zero_le _⟩) hS (fun H locs hP hS => ?_)
    have hP : va_P (dC, dI) vwCl (m_w kI kZ ad M_9.1 M_9.2) H := hP
    obtain ⟨hbo, h⟩ := if_use h
    exact W.zret (v := r_8) hx hb hr (narrow_b01 hbo) (fun t ht hW => ⟨⟨r_8, M_9, rfl, Prod.mk.inj (Option.some.inj h), by rw [ht]; exact hP, m_KnW hKn t hW⟩, hS.F ht⟩) hS.2.2 dX8_readsSure_15
noncomputable def FX8_readsClause  (M : MM) : Option (Int32 × MM) :=
  jn (α := Int32 → Option (Int32 × MM)) (fun (s_1 : Int32) => (if (M.1 0 17) = 102 then (if s_1 = 0 then bd (FX8_readsFact  M) (fun (r_4 : Int32) (M_5 : MM) => if bo01 r_4 then some (r_4, M_5) else none) else bd (FX8_fails 1 M) (fun (r_6 : Int32) (M_7 : MM) => if bo01 r_6 then some (r_6, M_7) else none)) else (if (M.1 0 17) = 104 then (if s_1 = 0 then bd (FX8_readsSure  M) (fun (r_10 : Int32) (M_11 : MM) => if bo01 r_10 then some (r_10, M_11) else none) else bd (FX8_fails 1 M) (fun (r_12 : Int32) (M_13 : MM) => if bo01 r_12 then some (r_12, M_13) else none)) else (if (M.1 0 17) = 114 then bd (FX8_readsReader  M) (fun (r_15 : Int32) (M_16 : MM) => if bo01 r_15 then some (r_15, M_16) else none) else bd (FX8_fails 1 M) (fun (r_17 : Int32) (M_18 : MM) => if bo01 r_17 then some (r_17, M_18) else none))))) (fun J14 => (if (M.1 2 1) = 0 then J14 1 else J14 0))
set_option maxHeartbeats 4000000 in
set_option maxRecDepth 100000 in
theorem tX8_readsClause (l : Launch) (dC : Nat → ClassId) (dI : Nat → Nat → Nat) (kI kZ : ClassId) (ad : Nat → Nat)  (M : MM)  {r0 : Int32} {M0 : MM} (h : FX8_readsClause  M = some (r0, M0)) : Met l yX8_readsClause (wsA yX8_readsClause cX8_readsClause 2 (some .boolean)) ({ frames := 4, cells := 0, slots := 0, locals := 89 } : Room) (va_Pc [.ref (ad (0))] (gI (m_Wd dC dI kI kZ ad) (m_Kn dC dI kI kZ ad) M)) (va_Qi (fun (r : Int32) (u : MM) => r = r0 ∧ u = M0) (gI (m_Wd dC dI kI kZ ad) (m_Kn dC dI kI kZ ad)) (m_A ad)) 0 0 (m_A ad) := by
  refine Met.ofW (cc := cX8_readsClause) (maxL := 2) (ret := (some .boolean)) (by decide) rfl ?_
  intro p e s m args below meth c s₁ B hml hv
  obtain ⟨rfl, hP, hKn⟩ := hv
  have hx := B.exec
  have hb := B.bytes
  have hr := B.returns
  have hts := atoms_spec (ws := wsA yX8_readsClause cX8_readsClause 2 (some .boolean)) B.pre
  have hg : ∀ w ∈ lw_good, w.before _ s = true := fun w h => hts w (List.mem_cons_of_mem _ h)
  have hown : s.vm.findClass RX8 = some m.cls := findClass_of_methodNamed B.named
  have hlocks := B.notSynchronized
  have hS : va_S (m_A ad) s.heap s.heap [] := va_S.rf
  have hFx : gFix p c cX8_readsClause 2 s m _ RX8 := ⟨hx, hb, hml, hown, hg⟩
  have hP : va_P (dC, dI) vwCl (m_w kI kZ ad M.1 M.2) s.heap := hP
  have hl := lv_entry ([.ref (ad (0))]) (n := 2) (Nat.le_of_ble_eq_true rfl)
  rw [lg_entry_eq]
  generalize (lg_sl ([.ref (ad (0))]) ++ List.replicate (2 - (lg_sl ([.ref (ad (0))])).length) Slot.unset).toArray = ls at hl ⊢
  have hl : lv_has ls 2 [(0, .ref (ad (0)))] := hl
  unfold FX8_readsClause at h
  refine lv_aload_n hx hb dX8_readsClause_0 rfl (lv_at hl 0 rfl) ?_
  refine va_get (D := (dC, dI)) (ci := 8) (v := .ref (ad (2))) (C := RX8) (T := TX8) (N := 29) hx hb hg inX8 hown hKn.1 hP (0) (m_at8 (c := 0) (by decide)) rfl 1 (Nat.le_of_ble_eq_true rfl) (hg _ lkF_X8_13) (fun _ h9 => h9) rfl dX8_readsClause_1 ?_
  refine lv_iconst (v := 1) hx hb dX8_readsClause_4 (by decide) ?_
  refine m_iald (M := M) (a := 2) hx hb hKn hP (by decide) (j := 1) (by decide) (by decide) dX8_readsClause_5 ?_
  obtain ⟨J14, eJ14, h⟩ := jn_use h
  have hJ14 : ∀ (s_1 : Int32) (H : Heap) (locs : List Loc) (ls : Array Slot), va_P (dC, dI) vwCl (m_w kI kZ ad M.1 M.2) H → va_S (m_A ad) s.heap H locs → lv_has ls 2 [(0, .ref (ad (0)))] → J14 s_1 = some (r0, M0) → W p l e (headSpec (wsA yX8_readsClause cX8_readsClause 2 (some .boolean)) ({ frames := 4, cells := 0, slots := 0, locals := 89 } : Room)).room s m (([.ref (ad (0))] : List Value).toArray) below meth c H locs 0 0 (MQ below (va_Qi (fun (r : Int32) (u : MM) => r = r0 ∧ u = M0) (gI (m_Wd dC dI kI kZ ad) (m_Kn dC dI kI kZ ad)) (m_A ad)) (([.ref (ad (0))] : List Value).toArray) s 0 0 (m_A ad)) (F0 m 14 ls [.int (s_1)]) := by
    intro s_1 H locs ls hP hS hl h
    have h := useK1 eJ14 h
    refine lv_istore_n (lv' := [(1, .int (s_1)), (0, .ref (ad (0)))]) hx hb dX8_readsClause_14 rfl hl (Nat.le_of_ble_eq_true rfl) rfl (fun ls hl => ?_)
    refine lv_aload_n hx hb dX8_readsClause_15 rfl (lv_at hl 1 rfl) ?_
    refine va_get (D := (dC, dI)) (ci := 8) (v := .int ((M.1 0 17))) (C := RX8) (T := TX8) (N := 29) hx hb hg inX8 hown hKn.1 hP (0) (m_at8 (c := 0) (by decide)) rfl 17 (Nat.le_of_ble_eq_true rfl) (hg _ lkF_X8_93) (fun _ h9 => h9) rfl dX8_readsClause_16 ?_
    by_cases c_2 : (M.1 0 17) = 102
    · have h := ife_t c_2 h
      refine lv_lookup (off := 38) (tgt := 57) hx hb dX8_readsClause_19 (by decide) (by rw [c_2]; decide) (by decide) ?_
      refine lv_iload_n hx hb dX8_readsClause_57 rfl (lv_at hl 0 rfl) ?_
      refine lv_if_eq (tgt := 69) hx hb dX8_readsClause_58 (by decide) (fun c_3 => ?_) (fun c_3 => ?_)
      · have h := ife_t c_3 h
        refine lv_aload_n hx hb dX8_readsClause_69 rfl (lv_at hl 1 rfl) ?_
        obtain ⟨r_4, M_5, e70, h⟩ := bd_use h
        refine gc_i (va_runV (As := []) (rest := []) hFx (tX8_readsFact l dC dI kI kZ ad  M  e70) ⟨(gc_B hFx ck_yX8_readsFact lkM_X8_127 ⟨Nat.le_of_ble_eq_true rfl, Nat.le_of_ble_eq_true rfl⟩ rfl rfl), hg _ vi_yX8_readsFact, hg _ vs_yX8_readsFact⟩ (gp_V m_KnB (m_KnW hKn) hP (m_rc8 (c := 0) (by decide) hKn hP)) rfl rfl hl.1 rfl (lv_room (Nat.le_of_ble_eq_true rfl)) dX8_readsClause_70 ⟨Nat.zero_le _, Nat.zero_le _⟩) hS (fun H locs hP hS => ?_)
        have hP : va_P (dC, dI) vwCl (m_w kI kZ ad M_5.1 M_5.2) H := hP
        obtain ⟨hbo, h⟩ := if_use h
        exact W.zret (v := r_4) hx hb hr (narrow_b01 hbo) (fun t ht hW => ⟨⟨r_4, M_5, rfl, Prod.mk.inj (Option.some.inj h), by rw [ht]; exact hP, m_KnW hKn t hW⟩, hS.F ht⟩) hS.2.2 dX8_readsClause_73
      · have h := ife_f c_3 h
        refine lv_aload_n hx hb dX8_readsClause_61 rfl (lv_at hl 1 rfl) ?_
        refine lv_iconst (v := 1) hx hb dX8_readsClause_62 (by decide) ?_
        obtain ⟨r_6, M_7, e63, h⟩ := bd_use h
        refine gc_i (va_runV (As := [.int (1)]) (rest := []) hFx (tX8_fails l dC dI kI kZ ad 1 M  e63) ⟨(gc_B hFx ck_yX8_fails lkM_X8_112 ⟨Nat.le_of_ble_eq_true rfl, Nat.le_of_ble_eq_true rfl⟩ rfl rfl), hg _ vi_yX8_fails, hg _ vs_yX8_fails⟩ (gp_V m_KnB (m_KnW hKn) hP (m_rc8 (c := 0) (by decide) hKn hP)) rfl rfl hl.1 rfl (lv_room (Nat.le_of_ble_eq_true rfl)) dX8_readsClause_63 ⟨Nat.zero_le _, Nat.zero_le _⟩) hS (fun H locs hP hS => ?_)
        have hP : va_P (dC, dI) vwCl (m_w kI kZ ad M_7.1 M_7.2) H := hP
        refine lv_goto (tgt := 73) hx hb dX8_readsClause_66 (by decide) ?_
        obtain ⟨hbo, h⟩ := if_use h
        exact W.zret (v := r_6) hx hb hr (narrow_b01 hbo) (fun t ht hW => ⟨⟨r_6, M_7, rfl, Prod.mk.inj (Option.some.inj h), by rw [ht]; exact hP, m_KnW hKn t hW⟩, hS.F ht⟩) hS.2.2 dX8_readsClause_73
    have h := ife_f c_2 h
    by_cases c_8 : (M.1 0 17) = 104
    · have h := ife_t c_8 h
      refine lv_lookup (off := 55) (tgt := 74) hx hb dX8_readsClause_19 (by decide) (by rw [c_8]; decide) (by decide) ?_
      refine lv_iload_n hx hb dX8_readsClause_74 rfl (lv_at hl 0 rfl) ?_
      refine lv_if_eq (tgt := 86) hx hb dX8_readsClause_75 (by decide) (fun c_9 => ?_) (fun c_9 => ?_)
      · have h := ife_t c_9 h
        refine lv_aload_n hx hb dX8_readsClause_86 rfl (lv_at hl 1 rfl) ?_
        obtain ⟨r_10, M_11, e87, h⟩ := bd_use h
        refine gc_i (va_runV (As := []) (rest := []) hFx (tX8_readsSure l dC dI kI kZ ad  M  e87) ⟨(gc_B hFx ck_yX8_readsSure lkM_X8_130 ⟨Nat.le_of_ble_eq_true rfl, Nat.le_of_ble_eq_true rfl⟩ rfl rfl), hg _ vi_yX8_readsSure, hg _ vs_yX8_readsSure⟩ (gp_V m_KnB (m_KnW hKn) hP (m_rc8 (c := 0) (by decide) hKn hP)) rfl rfl hl.1 rfl (lv_room (Nat.le_of_ble_eq_true rfl)) dX8_readsClause_87 ⟨Nat.zero_le _, Nat.zero_le _⟩) hS (fun H locs hP hS => ?_)
        have hP : va_P (dC, dI) vwCl (m_w kI kZ ad M_11.1 M_11.2) H := hP
        obtain ⟨hbo, h⟩ := if_use h
        exact W.zret (v := r_10) hx hb hr (narrow_b01 hbo) (fun t ht hW => ⟨⟨r_10, M_11, rfl, Prod.mk.inj (Option.some.inj h), by rw [ht]; exact hP, m_KnW hKn t hW⟩, hS.F ht⟩) hS.2.2 dX8_readsClause_90
      · have h := ife_f c_9 h
        refine lv_aload_n hx hb dX8_readsClause_78 rfl (lv_at hl 1 rfl) ?_
        refine lv_iconst (v := 1) hx hb dX8_readsClause_79 (by decide) ?_
        obtain ⟨r_12, M_13, e80, h⟩ := bd_use h
        refine gc_i (va_runV (As := [.int (1)]) (rest := []) hFx (tX8_fails l dC dI kI kZ ad 1 M  e80) ⟨(gc_B hFx ck_yX8_fails lkM_X8_112 ⟨Nat.le_of_ble_eq_true rfl, Nat.le_of_ble_eq_true rfl⟩ rfl rfl), hg _ vi_yX8_fails, hg _ vs_yX8_fails⟩ (gp_V m_KnB (m_KnW hKn) hP (m_rc8 (c := 0) (by decide) hKn hP)) rfl rfl hl.1 rfl (lv_room (Nat.le_of_ble_eq_true rfl)) dX8_readsClause_80 ⟨Nat.zero_le _, Nat.zero_le _⟩) hS (fun H locs hP hS => ?_)
        have hP : va_P (dC, dI) vwCl (m_w kI kZ ad M_13.1 M_13.2) H := hP
        refine lv_goto (tgt := 90) hx hb dX8_readsClause_83 (by decide) ?_
        obtain ⟨hbo, h⟩ := if_use h
        exact W.zret (v := r_12) hx hb hr (narrow_b01 hbo) (fun t ht hW => ⟨⟨r_12, M_13, rfl, Prod.mk.inj (Option.some.inj h), by rw [ht]; exact hP, m_KnW hKn t hW⟩, hS.F ht⟩) hS.2.2 dX8_readsClause_90
    have h := ife_f c_8 h
    by_cases c_14 : (M.1 0 17) = 114
    · have h := ife_t c_14 h
      refine lv_lookup (off := 33) (tgt := 52) hx hb dX8_readsClause_19 (by decide) (by rw [c_14]; decide) (by decide) ?_
      refine lv_aload_n hx hb dX8_readsClause_52 rfl (lv_at hl 1 rfl) ?_
      obtain ⟨r_15, M_16, e53, h⟩ := bd_use h
      refine gc_i (va_runV (As := []) (rest := []) hFx (tX8_readsReader l dC dI kI kZ ad  M  e53) ⟨(gc_B hFx ck_yX8_readsReader lkM_X8_124 ⟨Nat.le_of_ble_eq_true rfl, Nat.le_of_ble_eq_true rfl⟩ rfl rfl), hg _ vi_yX8_readsReader, hg _ vs_yX8_readsReader⟩ (gp_V m_KnB (m_KnW hKn) hP (m_rc8 (c := 0) (by decide) hKn hP)) rfl rfl hl.1 rfl (lv_room (Nat.le_of_ble_eq_true rfl)) dX8_readsClause_53 ⟨Nat.zero_le _, Nat.zero_le _⟩) hS (fun H locs hP hS => ?_)
      have hP : va_P (dC, dI) vwCl (m_w kI kZ ad M_16.1 M_16.2) H := hP
      obtain ⟨hbo, h⟩ := if_use h
      exact W.zret (v := r_15) hx hb hr (narrow_b01 hbo) (fun t ht hW => ⟨⟨r_15, M_16, rfl, Prod.mk.inj (Option.some.inj h), by rw [ht]; exact hP, m_KnW hKn t hW⟩, hS.F ht⟩) hS.2.2 dX8_readsClause_56
    have h := ife_f c_14 h
    refine lv_lookup (off := 72) (tgt := 91) hx hb dX8_readsClause_19 (by decide) (by show Op.lookupswitch.offset [(102, 38), (104, 55), (114, 33)] 72 _ = _; rw [lv_osw c_2 (by decide), lv_osw c_8 (by decide), lv_osw c_14 (by decide)]; rfl) (by decide) ?_
    refine lv_aload_n hx hb dX8_readsClause_91 rfl (lv_at hl 1 rfl) ?_
    refine lv_iconst (v := 1) hx hb dX8_readsClause_92 (by decide) ?_
    obtain ⟨r_17, M_18, e93, h⟩ := bd_use h
    refine gc_i (va_runV (As := [.int (1)]) (rest := []) hFx (tX8_fails l dC dI kI kZ ad 1 M  e93) ⟨(gc_B hFx ck_yX8_fails lkM_X8_112 ⟨Nat.le_of_ble_eq_true rfl, Nat.le_of_ble_eq_true rfl⟩ rfl rfl), hg _ vi_yX8_fails, hg _ vs_yX8_fails⟩ (gp_V m_KnB (m_KnW hKn) hP (m_rc8 (c := 0) (by decide) hKn hP)) rfl rfl hl.1 rfl (lv_room (Nat.le_of_ble_eq_true rfl)) dX8_readsClause_93 ⟨Nat.zero_le _, Nat.zero_le _⟩) hS (fun H locs hP hS => ?_)
    have hP : va_P (dC, dI) vwCl (m_w kI kZ ad M_18.1 M_18.2) H := hP
    obtain ⟨hbo, h⟩ := if_use h
    exact W.zret (v := r_17) hx hb hr (narrow_b01 hbo) (fun t ht hW => ⟨⟨r_17, M_18, rfl, Prod.mk.inj (Option.some.inj h), by rw [ht]; exact hP, m_KnW hKn t hW⟩, hS.F ht⟩) hS.2.2 dX8_readsClause_96
  refine lv_if_ne (tgt := 13) hx hb dX8_readsClause_6 (by decide) (fun c_19 => ?_) (fun c_19 => ?_)
  · have h := ife_f c_19 h
    refine lv_iconst (v := 0) hx hb dX8_readsClause_13 (by decide) ?_
    exact hJ14 0 _ _ _ hP hS (lv_sub hl [0] rfl) h
  · have h := ife_t c_19 h
    refine lv_iconst (v := 1) hx hb dX8_readsClause_9 (by decide) ?_
    refine lv_goto (tgt := 14) hx hb dX8_readsClause_10 (by decide) ?_
    exact hJ14 1 _ _ _ hP hS (lv_sub hl [0] rfl) h
noncomputable def FX8_city_L99 (K : MM → Option (Int32 × MM)) (k : Nat) (v2_8 : Int32) (M_9 : MM) : Option (Int32 × MM) := match k with
  | 0 => none
  | k + 1 => (if 50 ≤ v2_8 then K M_9 else (if inb v2_8 50 then (if inb v2_8 50 then FX8_city_L99 K k (v2_8 + 1) (um M_9 1 (ix v2_8) (M_9.1 2 (ix v2_8))) else none) else none))
noncomputable def FX8_city_L45 (K : Int32 → MM → Option (Int32 × MM)) (k : Nat) (v1_11 : Int32) (M_12 : MM) : Option (Int32 × MM) := match k with
  | 0 => none
  | k + 1 => (if (M_12.1 0 17) < 0 then K v1_11 M_12 else (if v1_11 = 0 then K v1_11 M_12 else bd (FX8_readsClause  M_12) (fun (r_15 : Int32) (M_16 : MM) => (if r_15 = 0 then FX8_city_L45 K k r_15 M_16 else bo (FX8_step  M_16) (fun (M_18 : MM) => FX8_city_L45 K k r_15 M_18)))))
noncomputable def FX8_city_L2 (K : MM → Option (Int32 × MM)) (k : Nat) (v1_19 : Int32) (M_20 : MM) : Option (Int32 × MM) := match k with
  | 0 => none
  | k + 1 => (if 50 ≤ v1_19 then K M_20 else (if inb v1_19 50 then FX8_city_L2 K k (v1_19 + 1) (um M_20 2 (ix v1_19) 0) else none))
noncomputable def FX8_city  (M : MM) : Option (Int32 × MM) :=
  FX8_city_L2 (fun (M_1 : MM) => bo (FX8_step  (um (um (um M_1 2 3 10) 0 15 0) 0 10 (-1))) (fun (M_2 : MM) => FX8_city_L45 (fun (k1_3 : Int32) (M_4 : MM) => (if k1_3 = 0 then some (((-10) - ((um (um M_4 0 9 0) 0 10 ((um M_4 0 9 0).1 0 16)).1 0 20)), um (um M_4 0 9 0) 0 10 ((um M_4 0 9 0).1 0 16)) else FX8_city_L99 (fun (M_6 : MM) => bo (FX8_begins  M_6) (fun (M_7 : MM) => some ((M_7.1 1 2), M_7))) fuelN 0 (um M_4 0 9 0))) fuelN 1 M_2)) fuelN 0 M
set_option maxHeartbeats 4000000 in
set_option maxRecDepth 100000 in
theorem tX8_city (l : Launch) (dC : Nat → ClassId) (dI : Nat → Nat → Nat) (kI kZ : ClassId) (ad : Nat → Nat)  (M : MM)  {r0 : Int32} {M0 : MM} (h : FX8_city  M = some (r0, M0)) : Met l yX8_city (wsA yX8_city cX8_city 3 (some .int)) ({ frames := 5, cells := 0, slots := 0, locals := 110 } : Room) (va_Pc [.ref (ad (0))] (gI (m_Wd dC dI kI kZ ad) (m_Kn dC dI kI kZ ad) M)) (va_Qi (fun (r : Int32) (u : MM) => r = r0 ∧ u = M0) (gI (m_Wd dC dI kI kZ ad) (m_Kn dC dI kI kZ ad)) (m_A ad)) 0 0 (m_A ad) := by
  refine Met.ofW (cc := cX8_city) (maxL := 3) (ret := (some .int)) (by decide) rfl ?_
  intro p e s m args below meth c s₁ B hml hv
  obtain ⟨rfl, hP, hKn⟩ := hv
  have hx := B.exec
  have hb := B.bytes
  have hr := B.returns
  have hts := atoms_spec (ws := wsA yX8_city cX8_city 3 (some .int)) B.pre
  have hg : ∀ w ∈ lw_good, w.before _ s = true := fun w h => hts w (List.mem_cons_of_mem _ h)
  have hown : s.vm.findClass RX8 = some m.cls := findClass_of_methodNamed B.named
  have hlocks := B.notSynchronized
  have hS : va_S (m_A ad) s.heap s.heap [] := va_S.rf
  have hFx : gFix p c cX8_city 3 s m _ RX8 := ⟨hx, hb, hml, hown, hg⟩
  have hP : va_P (dC, dI) vwCl (m_w kI kZ ad M.1 M.2) s.heap := hP
  have hl := lv_entry ([.ref (ad (0))]) (n := 3) (Nat.le_of_ble_eq_true rfl)
  rw [lg_entry_eq]
  generalize (lg_sl ([.ref (ad (0))]) ++ List.replicate (3 - (lg_sl ([.ref (ad (0))])).length) Slot.unset).toArray = ls at hl ⊢
  have hl : lv_has ls 3 [(0, .ref (ad (0)))] := hl
  unfold FX8_city at h
  refine lv_iconst (v := 0) hx hb dX8_city_0 (by decide) ?_
  refine lv_istore_n (lv' := [(1, .int (0)), (0, .ref (ad (0)))]) hx hb dX8_city_1 rfl hl (Nat.le_of_ble_eq_true rfl) rfl (fun ls hl => ?_)
  obtain ⟨K2, eK2, h⟩ := exK (Lp := fun K => FX8_city_L2 K fuelN 0 M) h
  have hK2 : ∀ (M_1 : MM) (H : Heap) (locs : List Loc) (ls : Array Slot), va_P (dC, dI) vwCl (m_w kI kZ ad M_1.1 M_1.2) H → va_S (m_A ad) s.heap H locs → lv_has ls 3 [(0, .ref (ad (0)))] → K2 M_1 = some (r0, M0) → W p l e (headSpec (wsA yX8_city cX8_city 3 (some .int)) ({ frames := 5, cells := 0, slots := 0, locals := 110 } : Room)).room s m (([.ref (ad (0))] : List Value).toArray) below meth c H locs 0 0 (MQ below (va_Qi (fun (r : Int32) (u : MM) => r = r0 ∧ u = M0) (gI (m_Wd dC dI kI kZ ad) (m_Kn dC dI kI kZ ad)) (m_A ad)) (([.ref (ad (0))] : List Value).toArray) s 0 0 (m_A ad)) (F0 m 21 ls []) := by
    intro M_1 H locs ls hP hS hl h
    have h := useK1 eK2 h
    refine lv_aload_n hx hb dX8_city_21 rfl (lv_at hl 0 rfl) ?_
    refine va_get (D := (dC, dI)) (ci := 8) (v := .ref (ad (2))) (C := RX8) (T := TX8) (N := 29) hx hb hg inX8 hown hKn.1 hP (0) (m_at8 (c := 0) (by decide)) rfl 1 (Nat.le_of_ble_eq_true rfl) (hg _ lkF_X8_13) (fun _ h9 => h9) rfl dX8_city_22 ?_
    refine lv_iconst (v := 3) hx hb dX8_city_25 (by decide) ?_
    refine lv_bipush (v := 10) hx hb dX8_city_26 (by decide) ?_
    refine m_iast (M := M_1) (a := 2) hx hb hKn hP hS (by decide) (x := 10) (j := 3) (by decide) (by decide) dX8_city_28 (fun H locs hP hS => ?_)
    have hP : va_P (dC, dI) vwCl (m_w kI kZ ad (um M_1 2 3 10).1 (um M_1 2 3 10).2) H := hP
    refine lv_aload_n hx hb dX8_city_29 rfl (lv_at hl 0 rfl) ?_
    refine lv_iconst (v := 0) hx hb dX8_city_30 (by decide) ?_
    refine va_put (D := (dC, dI)) (ci := 8) (v := .int (0)) (ty := .int) (C := RX8) (T := TX8) (N := 29) hx hb hg inX8 tyX8 tyX8_ok nmX8 hown hKn.1 hP (m_D hKn.2.1) hS (0) (m_at8 (c := 0) (by decide)) rfl 15 (Nat.le_of_ble_eq_true rfl) (hg _ lkF_X8_83) (fun _ h9 => h9) rfl (by decide +kernel) rfl rfl (Nat.le_of_ble_eq_true rfl) dX8_city_31 (fun H locs hP _ hS => ?_)
    have hP : va_P (dC, dI) vwCl (m_w kI kZ ad (um (um M_1 2 3 10) 0 15 0).1 (um (um M_1 2 3 10) 0 15 0).2) H := vp_eq (m_put8_15 (by decide) _) hP
    refine lv_aload_n hx hb dX8_city_34 rfl (lv_at hl 0 rfl) ?_
    refine lv_iconst (v := -1) hx hb dX8_city_35 (by decide) ?_
    refine va_put (D := (dC, dI)) (ci := 8) (v := .int ((-1))) (ty := .int) (C := RX8) (T := TX8) (N := 29) hx hb hg inX8 tyX8 tyX8_ok nmX8 hown hKn.1 hP (m_D hKn.2.1) hS (0) (m_at8 (c := 0) (by decide)) rfl 10 (Nat.le_of_ble_eq_true rfl) (hg _ lkF_X8_32) (fun _ h9 => h9) rfl (by decide +kernel) rfl rfl (Nat.le_of_ble_eq_true rfl) dX8_city_36 (fun H locs hP _ hS => ?_)
    have hP : va_P (dC, dI) vwCl (m_w kI kZ ad (um (um (um M_1 2 3 10) 0 15 0) 0 10 (-1)).1 (um (um (um M_1 2 3 10) 0 15 0) 0 10 (-1)).2) H := vp_eq (m_put8_10 (by decide) _) hP
    refine lv_iconst (v := 1) hx hb dX8_city_39 (by decide) ?_
    refine lv_istore_n (lv' := [(1, .int (1)), (0, .ref (ad (0)))]) hx hb dX8_city_40 rfl hl (Nat.le_of_ble_eq_true rfl) rfl (fun ls hl => ?_)
    refine lv_aload_n hx hb dX8_city_41 rfl (lv_at hl 1 rfl) ?_
    obtain ⟨M_2, e42, h⟩ := bo_use h
    refine gc_v (va_runV (As := []) (rest := []) hFx (tX8_step l dC dI kI kZ ad  (um (um (um M_1 2 3 10) 0 15 0) 0 10 (-1))  e42) ⟨(gc_B hFx ck_yX8_step lkM_X8_109 ⟨Nat.le_of_ble_eq_true rfl, Nat.le_of_ble_eq_true rfl⟩ rfl rfl), hg _ vi_yX8_step, hg _ vs_yX8_step⟩ (gp_V m_KnB (m_KnW hKn) hP (m_rc8 (c := 0) (by decide) hKn hP)) rfl rfl hl.1 rfl (lv_room (Nat.le_of_ble_eq_true rfl)) dX8_city_42 ⟨Nat.zero_le _, Nat.zero_le _⟩) hS (fun H locs hP hS => ?_)
    have hP : va_P (dC, dI) vwCl (m_w kI kZ ad M_2.1 M_2.2) H := hP
    obtain ⟨K45, eK45, h⟩ := exK (Lp := fun K => FX8_city_L45 K fuelN 1 M_2) h
    have hK45 : ∀ (k1_3 : Int32) (M_4 : MM) (H : Heap) (locs : List Loc) (ls : Array Slot), va_P (dC, dI) vwCl (m_w kI kZ ad M_4.1 M_4.2) H → va_S (m_A ad) s.heap H locs → lv_has ls 3 [(0, .ref (ad (0))), (1, .int (k1_3))] → K45 k1_3 M_4 = some (r0, M0) → W p l e (headSpec (wsA yX8_city cX8_city 3 (some .int)) ({ frames := 5, cells := 0, slots := 0, locals := 110 } : Room)).room s m (([.ref (ad (0))] : List Value).toArray) below meth c H locs 0 0 (MQ below (va_Qi (fun (r : Int32) (u : MM) => r = r0 ∧ u = M0) (gI (m_Wd dC dI kI kZ ad) (m_Kn dC dI kI kZ ad)) (m_A ad)) (([.ref (ad (0))] : List Value).toArray) s 0 0 (m_A ad)) (F0 m 72 ls []) := by
      intro k1_3 M_4 H locs ls hP hS hl h
      have h := useK2 eK45 h
      refine lv_aload_n hx hb dX8_city_72 rfl (lv_at hl 0 rfl) ?_
      refine lv_iconst (v := 0) hx hb dX8_city_73 (by decide) ?_
      refine va_put (D := (dC, dI)) (ci := 8) (v := .int (0)) (ty := .int) (C := RX8) (T := TX8) (N := 29) hx hb hg inX8 tyX8 tyX8_ok nmX8 hown hKn.1 hP (m_D hKn.2.1) hS (0) (m_at8 (c := 0) (by decide)) rfl 9 (Nat.le_of_ble_eq_true rfl) (hg _ lkF_X8_79) (fun _ h9 => h9) rfl (by decide +kernel) rfl rfl (Nat.le_of_ble_eq_true rfl) dX8_city_74 (fun H locs hP _ hS => ?_)
      have hP : va_P (dC, dI) vwCl (m_w kI kZ ad (um M_4 0 9 0).1 (um M_4 0 9 0).2) H := vp_eq (m_put8_9 (by decide) _) hP
      refine lv_iload_n hx hb dX8_city_77 rfl (lv_at hl 1 rfl) ?_
      refine lv_if_ne (tgt := 97) hx hb dX8_city_78 (by decide) (fun c_5 => ?_) (fun c_5 => ?_)
      · have h := ife_f c_5 h
        refine lv_iconst (v := 0) hx hb dX8_city_97 (by decide) ?_
        refine lv_istore_n (lv' := [(2, .int (0)), (0, .ref (ad (0))), (1, .int (k1_3))]) hx hb dX8_city_98 rfl hl (Nat.le_of_ble_eq_true rfl) rfl (fun ls hl => ?_)
        obtain ⟨K99, eK99, h⟩ := exK (Lp := fun K => FX8_city_L99 K fuelN 0 (um M_4 0 9 0)) h
        have hK99 : ∀ (M_6 : MM) (H : Heap) (locs : List Loc) (ls : Array Slot), va_P (dC, dI) vwCl (m_w kI kZ ad M_6.1 M_6.2) H → va_S (m_A ad) s.heap H locs → lv_has ls 3 [(0, .ref (ad (0)))] → K99 M_6 = some (r0, M0) → W p l e (headSpec (wsA yX8_city cX8_city 3 (some .int)) ({ frames := 5, cells := 0, slots := 0, locals := 110 } : Room)).room s m (([.ref (ad (0))] : List Value).toArray) below meth c H locs 0 0 (MQ below (va_Qi (fun (r : Int32) (u : MM) => r = r0 ∧ u = M0) (gI (m_Wd dC dI kI kZ ad) (m_Kn dC dI kI kZ ad)) (m_A ad)) (([.ref (ad (0))] : List Value).toArray) s 0 0 (m_A ad)) (F0 m 123 ls []) := by
          intro M_6 H locs ls hP hS hl h
          have h := useK1 eK99 h
          refine lv_aload_n hx hb dX8_city_123 rfl (lv_at hl 0 rfl) ?_
          obtain ⟨M_7, e124, h⟩ := bo_use h
          refine gc_v (va_runV (As := []) (rest := []) hFx (tX8_begins l dC dI kI kZ ad  M_6  e124) ⟨(gc_B hFx ck_yX8_begins lkM_X8_60 ⟨Nat.le_of_ble_eq_true rfl, Nat.le_of_ble_eq_true rfl⟩ rfl rfl), hg _ vi_yX8_begins, hg _ vs_yX8_begins⟩ (gp_V m_KnB (m_KnW hKn) hP (m_rc8 (c := 0) (by decide) hKn hP)) rfl rfl hl.1 rfl (lv_room (Nat.le_of_ble_eq_true rfl)) dX8_city_124 ⟨Nat.zero_le _, Nat.zero_le _⟩) hS (fun H locs hP hS => ?_)
          have hP : va_P (dC, dI) vwCl (m_w kI kZ ad M_7.1 M_7.2) H := hP
          refine lv_aload_n hx hb dX8_city_127 rfl (lv_at hl 0 rfl) ?_
          refine va_get (D := (dC, dI)) (ci := 8) (v := .ref (ad (1))) (C := RX8) (T := TX8) (N := 29) hx hb hg inX8 hown hKn.1 hP (0) (m_at8 (c := 0) (by decide)) rfl 0 (Nat.le_of_ble_eq_true rfl) (hg _ lkF_X8_7) (fun _ h9 => h9) rfl dX8_city_128 ?_
          refine lv_iconst (v := 2) hx hb dX8_city_131 (by decide) ?_
          refine m_iald (M := M_7) (a := 1) hx hb hKn hP (by decide) (j := 2) (by decide) (by decide) dX8_city_132 ?_
          exact W.iret (v := (M_7.1 1 2)) hx hb hr (fun t ht hW => ⟨⟨(M_7.1 1 2), M_7, rfl, Prod.mk.inj (Option.some.inj h), by rw [ht]; exact hP, m_KnW hKn t hW⟩, hS.F ht⟩) hS.2.2 dX8_city_133
        have hL99 : ∀ (k : Nat) (v2_8 : Int32) (M_9 : MM) (H : Heap) (locs : List Loc) (ls : Array Slot), va_P (dC, dI) vwCl (m_w kI kZ ad M_9.1 M_9.2) H → va_S (m_A ad) s.heap H locs → lv_has ls 3 [(0, .ref (ad (0))), (2, .int (v2_8))] → FX8_city_L99 K99 k v2_8 M_9 = some (r0, M0) → W p l e (headSpec (wsA yX8_city cX8_city 3 (some .int)) ({ frames := 5, cells := 0, slots := 0, locals := 110 } : Room)).room s m (([.ref (ad (0))] : List Value).toArray) below meth c H locs 0 0 (MQ below (va_Qi (fun (r : Int32) (u : MM) => r = r0 ∧ u = M0) (gI (m_Wd dC dI kI kZ ad) (m_Kn dC dI kI kZ ad)) (m_A ad)) (([.ref (ad (0))] : List Value).toArray) s 0 0 (m_A ad)) (F0 m 99 ls []) := by
          intro k
          induction k with
          | zero => intro v2_8 M_9 H locs ls hP hS hl h; cases h
          | succ k ih99 =>
            intro v2_8 M_9 H locs ls hP hS hl h
            unfold FX8_city_L99 at h
            refine lv_iload_n hx hb dX8_city_99 rfl (lv_at hl 1 rfl) ?_
            refine lv_bipush (v := 50) hx hb dX8_city_100 (by decide) ?_
            refine lv_icmp_ge (tgt := 123) hx hb dX8_city_102 (by decide) (fun c_10 => ?_) (fun c_10 => ?_)
            · have h := ife_t c_10 h
              exact hK99 M_9 _ _ _ hP hS (lv_sub hl [0] rfl) h
            · have h := ife_f c_10 h
              refine lv_aload_n hx hb dX8_city_105 rfl (lv_at hl 0 rfl) ?_
              refine va_get (D := (dC, dI)) (ci := 8) (v := .ref (ad (1))) (C := RX8) (T := TX8) (N := 29) hx hb hg inX8 hown hKn.1 hP (0) (m_at8 (c := 0) (by decide)) rfl 0 (Nat.le_of_ble_eq_true rfl) (hg _ lkF_X8_7) (fun _ h9 => h9) rfl dX8_city_106 ?_
              refine lv_iload_n hx hb dX8_city_109 rfl (lv_at hl 1 rfl) ?_
              refine lv_aload_n hx hb dX8_city_110 rfl (lv_at hl 0 rfl) ?_
              refine va_get (D := (dC, dI)) (ci := 8) (v := .ref (ad (2))) (C := RX8) (T := TX8) (N := 29) hx hb hg inX8 hown hKn.1 hP (0) (m_at8 (c := 0) (by decide)) rfl 1 (Nat.le_of_ble_eq_true rfl) (hg _ lkF_X8_13) (fun _ h9 => h9) rfl dX8_city_111 ?_
              refine lv_iload_n hx hb dX8_city_114 rfl (lv_at hl 1 rfl) ?_
              obtain ⟨hi115, h⟩ := if_use h
              refine m_iald (M := M_9) (a := 2) hx hb hKn hP (by decide) (j := (ix v2_8)) rfl hi115 dX8_city_115 ?_
              obtain ⟨hi116, h⟩ := if_use h
              refine m_iast (M := M_9) (a := 1) hx hb hKn hP hS (by decide) (x := (M_9.1 2 (ix v2_8))) (j := (ix v2_8)) rfl hi116 dX8_city_116 (fun H locs hP hS => ?_)
              have hP : va_P (dC, dI) vwCl (m_w kI kZ ad (um M_9 1 (ix v2_8) (M_9.1 2 (ix v2_8))).1 (um M_9 1 (ix v2_8) (M_9.1 2 (ix v2_8))).2) H := hP
              refine lv_iinc (v := (v2_8 + 1)) (lv' := [(2, .int ((v2_8 + 1))), (0, .ref (ad (0)))]) hx hb dX8_city_117 hl (k := 1) rfl rfl (Nat.le_of_ble_eq_true rfl) rfl (fun ls hl => ?_)
              refine lv_goto (tgt := 99) hx hb dX8_city_120 (by decide) ?_
              exact ih99 (v2_8 + 1) (um M_9 1 (ix v2_8) (M_9.1 2 (ix v2_8))) _ _ _ hP hS (lv_sub hl [1, 0] rfl) h
        exact hL99 fuelN 0 (um M_4 0 9 0) _ _ _ hP hS (lv_sub hl [1, 0] rfl) h
      · have h := ife_t c_5 h
        refine lv_aload_n hx hb dX8_city_81 rfl (lv_at hl 0 rfl) ?_
        refine lv_aload_n hx hb dX8_city_82 rfl (lv_at hl 0 rfl) ?_
        refine va_get (D := (dC, dI)) (ci := 8) (v := .int (((um M_4 0 9 0).1 0 16))) (C := RX8) (T := TX8) (N := 29) hx hb hg inX8 hown hKn.1 hP (0) (m_at8 (c := 0) (by decide)) rfl 16 (Nat.le_of_ble_eq_true rfl) (hg _ lkF_X8_90) (fun _ h9 => h9) rfl dX8_city_83 ?_
        refine va_put (D := (dC, dI)) (ci := 8) (v := .int (((um M_4 0 9 0).1 0 16))) (ty := .int) (C := RX8) (T := TX8) (N := 29) hx hb hg inX8 tyX8 tyX8_ok nmX8 hown hKn.1 hP (m_D hKn.2.1) hS (0) (m_at8 (c := 0) (by decide)) rfl 10 (Nat.le_of_ble_eq_true rfl) (hg _ lkF_X8_32) (fun _ h9 => h9) rfl (by decide +kernel) rfl rfl (Nat.le_of_ble_eq_true rfl) dX8_city_86 (fun H locs hP _ hS => ?_)
        have hP : va_P (dC, dI) vwCl (m_w kI kZ ad (um (um M_4 0 9 0) 0 10 ((um M_4 0 9 0).1 0 16)).1 (um (um M_4 0 9 0) 0 10 ((um M_4 0 9 0).1 0 16)).2) H := vp_eq (m_put8_10 (by decide) _) hP
        refine lv_bipush (v := -10) hx hb dX8_city_89 (by decide) ?_
        refine lv_aload_n hx hb dX8_city_91 rfl (lv_at hl 0 rfl) ?_
        refine va_get (D := (dC, dI)) (ci := 8) (v := .int (((um (um M_4 0 9 0) 0 10 ((um M_4 0 9 0).1 0 16)).1 0 20))) (C := RX8) (T := TX8) (N := 29) hx hb hg inX8 hown hKn.1 hP (0) (m_at8 (c := 0) (by decide)) rfl 20 (Nat.le_of_ble_eq_true rfl) (hg _ lkF_X8_106) (fun _ h9 => h9) rfl dX8_city_92 ?_
        refine lv_isub hx hb dX8_city_95 ?_
        exact W.iret (v := ((-10) - ((um (um M_4 0 9 0) 0 10 ((um M_4 0 9 0).1 0 16)).1 0 20))) hx hb hr (fun t ht hW => ⟨⟨((-10) - ((um (um M_4 0 9 0) 0 10 ((um M_4 0 9 0).1 0 16)).1 0 20)), um (um M_4 0 9 0) 0 10 ((um M_4 0 9 0).1 0 16), rfl, Prod.mk.inj (Option.some.inj h), by rw [ht]; exact hP, m_KnW hKn t hW⟩, hS.F ht⟩) hS.2.2 dX8_city_96
    have hL45 : ∀ (k : Nat) (v1_11 : Int32) (M_12 : MM) (H : Heap) (locs : List Loc) (ls : Array Slot), va_P (dC, dI) vwCl (m_w kI kZ ad M_12.1 M_12.2) H → va_S (m_A ad) s.heap H locs → lv_has ls 3 [(0, .ref (ad (0))), (1, .int (v1_11))] → FX8_city_L45 K45 k v1_11 M_12 = some (r0, M0) → W p l e (headSpec (wsA yX8_city cX8_city 3 (some .int)) ({ frames := 5, cells := 0, slots := 0, locals := 110 } : Room)).room s m (([.ref (ad (0))] : List Value).toArray) below meth c H locs 0 0 (MQ below (va_Qi (fun (r : Int32) (u : MM) => r = r0 ∧ u = M0) (gI (m_Wd dC dI kI kZ ad) (m_Kn dC dI kI kZ ad)) (m_A ad)) (([.ref (ad (0))] : List Value).toArray) s 0 0 (m_A ad)) (F0 m 45 ls []) := by
      intro k
      induction k with
      | zero => intro v1_11 M_12 H locs ls hP hS hl h; cases h
      | succ k ih45 =>
        intro v1_11 M_12 H locs ls hP hS hl h
        unfold FX8_city_L45 at h
        refine lv_aload_n hx hb dX8_city_45 rfl (lv_at hl 0 rfl) ?_
        refine va_get (D := (dC, dI)) (ci := 8) (v := .int ((M_12.1 0 17))) (C := RX8) (T := TX8) (N := 29) hx hb hg inX8 hown hKn.1 hP (0) (m_at8 (c := 0) (by decide)) rfl 17 (Nat.le_of_ble_eq_true rfl) (hg _ lkF_X8_93) (fun _ h9 => h9) rfl dX8_city_46 ?_
        refine lv_if_lt (tgt := 72) hx hb dX8_city_49 (by decide) (fun c_13 => ?_) (fun c_13 => ?_)
        · have h := ife_t c_13 h
          exact hK45 v1_11 M_12 _ _ _ hP hS (lv_sub hl [0, 1] rfl) h
        · have h := ife_f c_13 h
          refine lv_iload_n hx hb dX8_city_52 rfl (lv_at hl 1 rfl) ?_
          refine lv_if_eq (tgt := 72) hx hb dX8_city_53 (by decide) (fun c_14 => ?_) (fun c_14 => ?_)
          · have h := ife_t c_14 h
            exact hK45 v1_11 M_12 _ _ _ hP hS (lv_sub hl [0, 1] rfl) h
          · have h := ife_f c_14 h
            refine lv_aload_n hx hb dX8_city_56 rfl (lv_at hl 0 rfl) ?_
            obtain ⟨r_15, M_16, e57, h⟩ := bd_use h
            refine gc_i (va_runV (As := []) (rest := []) hFx (tX8_readsClause l dC dI kI kZ ad  M_12  e57) ⟨(gc_B hFx ck_yX8_readsClause lkM_X8_133 ⟨Nat.le_of_ble_eq_true rfl, Nat.le_of_ble_eq_true rfl⟩ rfl rfl), hg _ vi_yX8_readsClause, hg _ vs_yX8_readsClause⟩ (gp_V m_KnB (m_KnW hKn) hP (m_rc8 (c := 0) (by decide) hKn hP)) rfl rfl hl.1 rfl (lv_room (Nat.le_of_ble_eq_true rfl)) dX8_city_57 ⟨Nat.zero_le _, Nat.zero_le _⟩) hS (fun H locs hP hS => ?_)
            have hP : va_P (dC, dI) vwCl (m_w kI kZ ad M_16.1 M_16.2) H := hP
            refine lv_istore_n (lv' := [(1, .int (r_15)), (0, .ref (ad (0)))]) hx hb dX8_city_60 rfl hl (Nat.le_of_ble_eq_true rfl) rfl (fun ls hl => ?_)
            refine lv_iload_n hx hb dX8_city_61 rfl (lv_at hl 0 rfl) ?_
            refine lv_if_eq (tgt := 45) hx hb dX8_city_62 (by decide) (fun c_17 => ?_) (fun c_17 => ?_)
            · have h := ife_t c_17 h
              exact ih45 r_15 M_16 _ _ _ hP hS (lv_sub hl [1, 0] rfl) h
            · have h := ife_f c_17 h
              refine lv_aload_n hx hb dX8_city_65 rfl (lv_at hl 1 rfl) ?_
              obtain ⟨M_18, e66, h⟩ := bo_use h
              refine gc_v (va_runV (As := []) (rest := []) hFx (tX8_step l dC dI kI kZ ad  M_16  e66) ⟨(gc_B hFx ck_yX8_step lkM_X8_109 ⟨Nat.le_of_ble_eq_true rfl, Nat.le_of_ble_eq_true rfl⟩ rfl rfl), hg _ vi_yX8_step, hg _ vs_yX8_step⟩ (gp_V m_KnB (m_KnW hKn) hP (m_rc8 (c := 0) (by decide) hKn hP)) rfl rfl hl.1 rfl (lv_room (Nat.le_of_ble_eq_true rfl)) dX8_city_66 ⟨Nat.zero_le _, Nat.zero_le _⟩) hS (fun H locs hP hS => ?_)
              have hP : va_P (dC, dI) vwCl (m_w kI kZ ad M_18.1 M_18.2) H := hP
              refine lv_goto (tgt := 45) hx hb dX8_city_69 (by decide) ?_
              exact ih45 r_15 M_18 _ _ _ hP hS (lv_sub hl [1, 0] rfl) h
    exact hL45 fuelN 1 M_2 _ _ _ hP hS (lv_sub hl [1, 0] rfl) h
  have hL2 : ∀ (k : Nat) (v1_19 : Int32) (M_20 : MM) (H : Heap) (locs : List Loc) (ls : Array Slot), va_P (dC, dI) vwCl (m_w kI kZ ad M_20.1 M_20.2) H → va_S (m_A ad) s.heap H locs → lv_has ls 3 [(0, .ref (ad (0))), (1, .int (v1_19))] → FX8_city_L2 K2 k v1_19 M_20 = some (r0, M0) → W p l e (headSpec (wsA yX8_city cX8_city 3 (some .int)) ({ frames := 5, cells := 0, slots := 0, locals := 110 } : Room)).room s m (([.ref (ad (0))] : List Value).toArray) below meth c H locs 0 0 (MQ below (va_Qi (fun (r : Int32) (u : MM) => r = r0 ∧ u = M0) (gI (m_Wd dC dI kI kZ ad) (m_Kn dC dI kI kZ ad)) (m_A ad)) (([.ref (ad (0))] : List Value).toArray) s 0 0 (m_A ad)) (F0 m 2 ls []) := by
    intro k
    induction k with
    | zero => intro v1_19 M_20 H locs ls hP hS hl h; cases h
    | succ k ih2 =>
      intro v1_19 M_20 H locs ls hP hS hl h
      unfold FX8_city_L2 at h
      refine lv_iload_n hx hb dX8_city_2 rfl (lv_at hl 1 rfl) ?_
      refine lv_bipush (v := 50) hx hb dX8_city_3 (by decide) ?_
      refine lv_icmp_ge (tgt := 21) hx hb dX8_city_5 (by decide) (fun c_21 => ?_) (fun c_21 => ?_)
      · have h := ife_t c_21 h
        exact hK2 M_20 _ _ _ hP hS (lv_sub hl [0] rfl) h
      · have h := ife_f c_21 h
        refine lv_aload_n hx hb dX8_city_8 rfl (lv_at hl 0 rfl) ?_
        refine va_get (D := (dC, dI)) (ci := 8) (v := .ref (ad (2))) (C := RX8) (T := TX8) (N := 29) hx hb hg inX8 hown hKn.1 hP (0) (m_at8 (c := 0) (by decide)) rfl 1 (Nat.le_of_ble_eq_true rfl) (hg _ lkF_X8_13) (fun _ h9 => h9) rfl dX8_city_9 ?_
        refine lv_iload_n hx hb dX8_city_12 rfl (lv_at hl 1 rfl) ?_
        refine lv_iconst (v := 0) hx hb dX8_city_13 (by decide) ?_
        obtain ⟨hi14, h⟩ := if_use h
        refine m_iast (M := M_20) (a := 2) hx hb hKn hP hS (by decide) (x := 0) (j := (ix v1_19)) rfl hi14 dX8_city_14 (fun H locs hP hS => ?_)
        have hP : va_P (dC, dI) vwCl (m_w kI kZ ad (um M_20 2 (ix v1_19) 0).1 (um M_20 2 (ix v1_19) 0).2) H := hP
        refine lv_iinc (v := (v1_19 + 1)) (lv' := [(1, .int ((v1_19 + 1))), (0, .ref (ad (0)))]) hx hb dX8_city_15 hl (k := 1) rfl rfl (Nat.le_of_ble_eq_true rfl) rfl (fun ls hl => ?_)
        refine lv_goto (tgt := 2) hx hb dX8_city_18 (by decide) ?_
        exact ih2 (v1_19 + 1) (um M_20 2 (ix v1_19) 0) _ _ _ hP hS (lv_sub hl [1, 0] rfl) h
  exact hL2 fuelN 0 M _ _ _ hP hS (lv_sub hl [1, 0] rfl) h
noncomputable def FX8_convinces_L2 (b1 : Int32) (b2 : Int32) (K : MM → Option (Int32 × MM)) (k : Nat) (v3_2 : Int32) (M_3 : MM) : Option (Int32 × MM) := match k with
  | 0 => none
  | k + 1 => (if (1 <<< ((M_3.1 1 2) &&& 31)) ≤ v3_2 then K M_3 else bo (FX8_maySheet v3_2 b2 M_3) (fun (r_5 : Int32) => jn (α := MM → Option (Int32 × MM)) (fun (M_6 : MM) => FX8_convinces_L2 b1 b2 K k (v3_2 + 1) M_6) (fun J47 => (if r_5 = 0 then J47 M_3 else bd (FX8_triesTonight v3_2 M_3) (fun (r_8 : Int32) (M_9 : MM) => (if inb b1 17 then (if (M_9.1 10 (ix b1)) < (M_9.1 1 3) then J47 M_9 else some (1, M_9)) else none))))))
noncomputable def FX8_convinces (a1 : Int32) (a2 : Int32) (M : MM) : Option (Int32 × MM) :=
  FX8_convinces_L2 a1 a2 (fun (M_1 : MM) => some (0, M_1)) fuelN 0 M
set_option maxHeartbeats 4000000 in
set_option maxRecDepth 100000 in
theorem tX8_convinces (l : Launch) (dC : Nat → ClassId) (dI : Nat → Nat → Nat) (kI kZ : ClassId) (ad : Nat → Nat) (a1 : Int32) (a2 : Int32) (M : MM)  {r0 : Int32} {M0 : MM} (h : FX8_convinces a1 a2 M = some (r0, M0)) : Met l yX8_convinces (wsA yX8_convinces cX8_convinces 5 (some .boolean)) ({ frames := 4, cells := 0, slots := 0, locals := 92 } : Room) (va_Pc [.ref (ad (0)), .int (a1), .int (a2)] (gI (m_Wd dC dI kI kZ ad) (m_Kn dC dI kI kZ ad) M)) (va_Qi (fun (r : Int32) (u : MM) => r = r0 ∧ u = M0) (gI (m_Wd dC dI kI kZ ad) (m_Kn dC dI kI kZ ad)) (m_A ad)) 0 0 (m_A ad) := by
  refine Met.ofW (cc := cX8_convinces) (maxL := 5) (ret := (some .boolean)) (by decide) rfl ?_
  intro p e s m args below meth c s₁ B hml hv
  obtain ⟨rfl, hP, hKn⟩ := hv
  have hx := B.exec
  have hb := B.bytes
  have hr := B.returns
  have hts := atoms_spec (ws := wsA yX8_convinces cX8_convinces 5 (some .boolean)) B.pre
  have hg : ∀ w ∈ lw_good, w.before _ s = true := fun w h => hts w (List.mem_cons_of_mem _ h)
  have hown : s.vm.findClass RX8 = some m.cls := findClass_of_methodNamed B.named
  have hlocks := B.notSynchronized
  have hS : va_S (m_A ad) s.heap s.heap [] := va_S.rf
  have hFx : gFix p c cX8_convinces 5 s m _ RX8 := ⟨hx, hb, hml, hown, hg⟩
  have hP : va_P (dC, dI) vwCl (m_w kI kZ ad M.1 M.2) s.heap := hP
  have hl := lv_entry ([.ref (ad (0)), .int (a1), .int (a2)]) (n := 5) (Nat.le_of_ble_eq_true rfl)
  rw [lg_entry_eq]
  generalize (lg_sl ([.ref (ad (0)), .int (a1), .int (a2)]) ++ List.replicate (5 - (lg_sl ([.ref (ad (0)), .int (a1), .int (a2)])).length) Slot.unset).toArray = ls at hl ⊢
  have hl : lv_has ls 5 [(0, .ref (ad (0))), (1, .int (a1)), (2, .int (a2))] := hl
  unfold FX8_convinces at h
  refine lv_iconst (v := 0) hx hb dX8_convinces_0 (by decide) ?_
  refine lv_istore_n (lv' := [(3, .int (0)), (0, .ref (ad (0))), (1, .int (a1)), (2, .int (a2))]) hx hb dX8_convinces_1 rfl hl (Nat.le_of_ble_eq_true rfl) rfl (fun ls hl => ?_)
  obtain ⟨K2, eK2, h⟩ := exK (Lp := fun K => FX8_convinces_L2 a1 a2 K fuelN 0 M) h
  have hK2 : ∀ (M_1 : MM) (H : Heap) (locs : List Loc) (ls : Array Slot), va_P (dC, dI) vwCl (m_w kI kZ ad M_1.1 M_1.2) H → va_S (m_A ad) s.heap H locs → lv_has ls 5 [] → K2 M_1 = some (r0, M0) → W p l e (headSpec (wsA yX8_convinces cX8_convinces 5 (some .boolean)) ({ frames := 4, cells := 0, slots := 0, locals := 92 } : Room)).room s m (([.ref (ad (0)), .int (a1), .int (a2)] : List Value).toArray) below meth c H locs 0 0 (MQ below (va_Qi (fun (r : Int32) (u : MM) => r = r0 ∧ u = M0) (gI (m_Wd dC dI kI kZ ad) (m_Kn dC dI kI kZ ad)) (m_A ad)) (([.ref (ad (0)), .int (a1), .int (a2)] : List Value).toArray) s 0 0 (m_A ad)) (F0 m 53 ls []) := by
    intro M_1 H locs ls hP hS hl h
    have h := useK1 eK2 h
    refine lv_iconst (v := 0) hx hb dX8_convinces_53 (by decide) ?_
    exact W.zret (v := 0) hx hb hr rfl (fun t ht hW => ⟨⟨0, M_1, rfl, Prod.mk.inj (Option.some.inj h), by rw [ht]; exact hP, m_KnW hKn t hW⟩, hS.F ht⟩) hS.2.2 dX8_convinces_54
  have hL2 : ∀ (k : Nat) (v3_2 : Int32) (M_3 : MM) (H : Heap) (locs : List Loc) (ls : Array Slot), va_P (dC, dI) vwCl (m_w kI kZ ad M_3.1 M_3.2) H → va_S (m_A ad) s.heap H locs → lv_has ls 5 [(0, .ref (ad (0))), (1, .int (a1)), (2, .int (a2)), (3, .int (v3_2))] → FX8_convinces_L2 a1 a2 K2 k v3_2 M_3 = some (r0, M0) → W p l e (headSpec (wsA yX8_convinces cX8_convinces 5 (some .boolean)) ({ frames := 4, cells := 0, slots := 0, locals := 92 } : Room)).room s m (([.ref (ad (0)), .int (a1), .int (a2)] : List Value).toArray) below meth c H locs 0 0 (MQ below (va_Qi (fun (r : Int32) (u : MM) => r = r0 ∧ u = M0) (gI (m_Wd dC dI kI kZ ad) (m_Kn dC dI kI kZ ad)) (m_A ad)) (([.ref (ad (0)), .int (a1), .int (a2)] : List Value).toArray) s 0 0 (m_A ad)) (F0 m 2 ls []) := by
    intro k
    induction k with
    | zero => intro v3_2 M_3 H locs ls hP hS hl h; cases h
    | succ k ih2 =>
      intro v3_2 M_3 H locs ls hP hS hl h
      unfold FX8_convinces_L2 at h
      refine lv_iload_n hx hb dX8_convinces_2 rfl (lv_at hl 3 rfl) ?_
      refine lv_iconst (v := 1) hx hb dX8_convinces_3 (by decide) ?_
      refine lv_aload_n hx hb dX8_convinces_4 rfl (lv_at hl 0 rfl) ?_
      refine va_get (D := (dC, dI)) (ci := 8) (v := .ref (ad (1))) (C := RX8) (T := TX8) (N := 29) hx hb hg inX8 hown hKn.1 hP (0) (m_at8 (c := 0) (by decide)) rfl 0 (Nat.le_of_ble_eq_true rfl) (hg _ lkF_X8_7) (fun _ h9 => h9) rfl dX8_convinces_5 ?_
      refine lv_iconst (v := 2) hx hb dX8_convinces_8 (by decide) ?_
      refine m_iald (M := M_3) (a := 1) hx hb hKn hP (by decide) (j := 2) (by decide) (by decide) dX8_convinces_9 ?_
      refine lv_ishl hx hb dX8_convinces_10 ?_
      refine lv_icmp_ge (tgt := 53) hx hb dX8_convinces_11 (by decide) (fun c_4 => ?_) (fun c_4 => ?_)
      · have h := ife_t c_4 h
        exact hK2 M_3 _ _ _ hP hS (lv_sub hl [] rfl) h
      · have h := ife_f c_4 h
        refine lv_aload_n hx hb dX8_convinces_14 rfl (lv_at hl 0 rfl) ?_
        refine lv_iload_n hx hb dX8_convinces_15 rfl (lv_at hl 3 rfl) ?_
        refine lv_iload_n hx hb dX8_convinces_16 rfl (lv_at hl 2 rfl) ?_
        obtain ⟨r_5, e17, h⟩ := bo_use h
        refine gc_i (va_runV (As := [.int (v3_2), .int (a2)]) (rest := []) hFx (tX8_maySheet l dC dI kI kZ ad v3_2 a2 M_3  e17) ⟨(gc_B hFx ck_yX8_maySheet lkM_X8_176 ⟨Nat.le_of_ble_eq_true rfl, Nat.le_of_ble_eq_true rfl⟩ rfl rfl), hg _ vi_yX8_maySheet, hg _ vs_yX8_maySheet⟩ (gp_V m_KnB (m_KnW hKn) hP (m_rc8 (c := 0) (by decide) hKn hP)) rfl rfl hl.1 rfl (lv_room (Nat.le_of_ble_eq_true rfl)) dX8_convinces_17 ⟨Nat.zero_le _, Nat.zero_le _⟩) hS (fun H locs hP hS => ?_)
        have hP : va_P (dC, dI) vwCl (m_w kI kZ ad M_3.1 M_3.2) H := hP
        obtain ⟨J47, eJ47, h⟩ := jn_use h
        have hJ47 : ∀ (M_6 : MM) (H : Heap) (locs : List Loc) (ls : Array Slot), va_P (dC, dI) vwCl (m_w kI kZ ad M_6.1 M_6.2) H → va_S (m_A ad) s.heap H locs → lv_has ls 5 [(0, .ref (ad (0))), (1, .int (a1)), (2, .int (a2)), (3, .int (v3_2))] → J47 M_6 = some (r0, M0) → W p l e (headSpec (wsA yX8_convinces cX8_convinces 5 (some .boolean)) ({ frames := 4, cells := 0, slots := 0, locals := 92 } : Room)).room s m (([.ref (ad (0)), .int (a1), .int (a2)] : List Value).toArray) below meth c H locs 0 0 (MQ below (va_Qi (fun (r : Int32) (u : MM) => r = r0 ∧ u = M0) (gI (m_Wd dC dI kI kZ ad) (m_Kn dC dI kI kZ ad)) (m_A ad)) (([.ref (ad (0)), .int (a1), .int (a2)] : List Value).toArray) s 0 0 (m_A ad)) (F0 m 47 ls []) := by
          intro M_6 H locs ls hP hS hl h
          have h := useK1 eJ47 h
          refine lv_iinc (v := (v3_2 + 1)) (lv' := [(3, .int ((v3_2 + 1))), (0, .ref (ad (0))), (1, .int (a1)), (2, .int (a2))]) hx hb dX8_convinces_47 hl (k := 3) rfl rfl (Nat.le_of_ble_eq_true rfl) rfl (fun ls hl => ?_)
          refine lv_goto (tgt := 2) hx hb dX8_convinces_50 (by decide) ?_
          exact ih2 (v3_2 + 1) M_6 _ _ _ hP hS (lv_sub hl [1, 2, 3, 0] rfl) h
        refine lv_if_eq (tgt := 47) hx hb dX8_convinces_20 (by decide) (fun c_7 => ?_) (fun c_7 => ?_)
        · have h := ife_t c_7 h
          exact hJ47 M_3 _ _ _ hP hS (lv_sub hl [0, 1, 2, 3] rfl) h
        · have h := ife_f c_7 h
          refine lv_aload_n hx hb dX8_convinces_23 rfl (lv_at hl 0 rfl) ?_
          refine lv_iload_n hx hb dX8_convinces_24 rfl (lv_at hl 3 rfl) ?_
          obtain ⟨r_8, M_9, e25, h⟩ := bd_use h
          refine gc_i (va_runV (As := [.int (v3_2)]) (rest := []) hFx (tX8_triesTonight l dC dI kI kZ ad v3_2 M_3  e25) ⟨(gc_B hFx ck_yX8_triesTonight lkM_X8_207 ⟨Nat.le_of_ble_eq_true rfl, Nat.le_of_ble_eq_true rfl⟩ rfl rfl), hg _ vi_yX8_triesTonight, hg _ vs_yX8_triesTonight⟩ (gp_V m_KnB (m_KnW hKn) hP (m_rc8 (c := 0) (by decide) hKn hP)) rfl rfl hl.1 rfl (lv_room (Nat.le_of_ble_eq_true rfl)) dX8_convinces_25 ⟨Nat.zero_le _, Nat.zero_le _⟩) hS (fun H locs hP hS => ?_)
          have hP : va_P (dC, dI) vwCl (m_w kI kZ ad M_9.1 M_9.2) H := hP
          refine lv_istore (lv' := [(4, .int (r_8)), (0, .ref (ad (0))), (1, .int (a1)), (2, .int (a2)), (3, .int (v3_2))]) hx hb dX8_convinces_28 hl (Nat.le_of_ble_eq_true rfl) rfl (fun ls hl => ?_)
          refine lv_aload_n hx hb dX8_convinces_30 rfl (lv_at hl 1 rfl) ?_
          refine va_get (D := (dC, dI)) (ci := 8) (v := .ref (ad (10))) (C := RX8) (T := TX8) (N := 29) hx hb hg inX8 hown hKn.1 hP (0) (m_at8 (c := 0) (by decide)) rfl 21 (Nat.le_of_ble_eq_true rfl) (hg _ lkF_X8_42) (fun _ h9 => h9) rfl dX8_convinces_31 ?_
          refine lv_iload_n hx hb dX8_convinces_34 rfl (lv_at hl 2 rfl) ?_
          obtain ⟨hi35, h⟩ := if_use h
          refine m_iald (M := M_9) (a := 10) hx hb hKn hP (by decide) (j := (ix a1)) rfl hi35 dX8_convinces_35 ?_
          refine lv_aload_n hx hb dX8_convinces_36 rfl (lv_at hl 1 rfl) ?_
          refine va_get (D := (dC, dI)) (ci := 8) (v := .ref (ad (1))) (C := RX8) (T := TX8) (N := 29) hx hb hg inX8 hown hKn.1 hP (0) (m_at8 (c := 0) (by decide)) rfl 0 (Nat.le_of_ble_eq_true rfl) (hg _ lkF_X8_7) (fun _ h9 => h9) rfl dX8_convinces_37 ?_
          refine lv_iconst (v := 3) hx hb dX8_convinces_40 (by decide) ?_
          refine m_iald (M := M_9) (a := 1) hx hb hKn hP (by decide) (j := 3) (by decide) (by decide) dX8_convinces_41 ?_
          refine lv_icmp_lt (tgt := 47) hx hb dX8_convinces_42 (by decide) (fun c_10 => ?_) (fun c_10 => ?_)
          · have h := ife_t c_10 h
            exact hJ47 M_9 _ _ _ hP hS (lv_sub hl [1, 2, 3, 4] rfl) h
          · have h := ife_f c_10 h
            refine lv_iconst (v := 1) hx hb dX8_convinces_45 (by decide) ?_
            exact W.zret (v := 1) hx hb hr rfl (fun t ht hW => ⟨⟨1, M_9, rfl, Prod.mk.inj (Option.some.inj h), by rw [ht]; exact hP, m_KnW hKn t hW⟩, hS.F ht⟩) hS.2.2 dX8_convinces_46
  exact hL2 fuelN 0 M _ _ _ hP hS (lv_sub hl [1, 2, 3, 0] rfl) h
noncomputable def FX8_costOf_L4 (b1 : Int32) (M : MM) (K : Int32 → Option Int32) (k : Nat) (v2_2 : Int32) (v3_3 : Int32) : Option Int32 := match k with
  | 0 => none
  | k + 1 => (if (M.1 1 2) ≤ v3_3 then K v2_2 else bo (FX8_has b1 v3_3) (fun (r_5 : Int32) => jn (α := Int32 → Option Int32) (fun (s_6 : Int32) => FX8_costOf_L4 b1 M K k (v2_2 + s_6) (v3_3 + 1)) (fun J36 => (if r_5 = 0 then J36 0 else (if inb (42 + v3_3) 50 then J36 (M.1 1 (ix (42 + v3_3))) else none)))))
noncomputable def FX8_costOf (a1 : Int32) (M : MM) : Option Int32 :=
  FX8_costOf_L4 a1 M (fun (k2_1 : Int32) => some k2_1) fuelN 0 0
set_option maxHeartbeats 4000000 in
set_option maxRecDepth 100000 in
theorem tX8_costOf (l : Launch) (dC : Nat → ClassId) (dI : Nat → Nat → Nat) (kI kZ : ClassId) (ad : Nat → Nat) (a1 : Int32) (M : MM)  {r0 : Int32} (h : FX8_costOf a1 M = some r0) : Met l yX8_costOf (wsA yX8_costOf cX8_costOf 4 (some .int)) ({ frames := 1, cells := 0, slots := 0, locals := 21 } : Room) (va_Pc [.ref (ad (0)), .int (a1)] (gI (m_Wd dC dI kI kZ ad) (m_Kn dC dI kI kZ ad) M)) (va_Qi (fun (r : Int32) (u : MM) => r = r0 ∧ u = M) (gI (m_Wd dC dI kI kZ ad) (m_Kn dC dI kI kZ ad)) (m_A ad)) 0 0 (m_A ad) := by
  refine Met.ofW (cc := cX8_costOf) (maxL := 4) (ret := (some .int)) (by decide) rfl ?_
  intro p e s m args below meth c s₁ B hml hv
  obtain ⟨rfl, hP, hKn⟩ := hv
  have hx := B.exec
  have hb := B.bytes
  have hr := B.returns
  have hts := atoms_spec (ws := wsA yX8_costOf cX8_costOf 4 (some .int)) B.pre
  have hg : ∀ w ∈ lw_good, w.before _ s = true := fun w h => hts w (List.mem_cons_of_mem _ h)
  have hown : s.vm.findClass RX8 = some m.cls := findClass_of_methodNamed B.named
  have hlocks := B.notSynchronized
  have hS : va_S (m_A ad) s.heap s.heap [] := va_S.rf
  have hFx : gFix p c cX8_costOf 4 s m _ RX8 := ⟨hx, hb, hml, hown, hg⟩
  have hP : va_P (dC, dI) vwCl (m_w kI kZ ad M.1 M.2) s.heap := hP
  have hl := lv_entry ([.ref (ad (0)), .int (a1)]) (n := 4) (Nat.le_of_ble_eq_true rfl)
  rw [lg_entry_eq]
  generalize (lg_sl ([.ref (ad (0)), .int (a1)]) ++ List.replicate (4 - (lg_sl ([.ref (ad (0)), .int (a1)])).length) Slot.unset).toArray = ls at hl ⊢
  have hl : lv_has ls 4 [(0, .ref (ad (0))), (1, .int (a1))] := hl
  unfold FX8_costOf at h
  refine lv_iconst (v := 0) hx hb dX8_costOf_0 (by decide) ?_
  refine lv_istore_n (lv' := [(2, .int (0)), (0, .ref (ad (0))), (1, .int (a1))]) hx hb dX8_costOf_1 rfl hl (Nat.le_of_ble_eq_true rfl) rfl (fun ls hl => ?_)
  refine lv_iconst (v := 0) hx hb dX8_costOf_2 (by decide) ?_
  refine lv_istore_n (lv' := [(3, .int (0)), (2, .int (0)), (0, .ref (ad (0))), (1, .int (a1))]) hx hb dX8_costOf_3 rfl hl (Nat.le_of_ble_eq_true rfl) rfl (fun ls hl => ?_)
  obtain ⟨K4, eK4, h⟩ := exK (Lp := fun K => FX8_costOf_L4 a1 M K fuelN 0 0) h
  have hK4 : ∀ (k2_1 : Int32) (H : Heap) (locs : List Loc) (ls : Array Slot), va_P (dC, dI) vwCl (m_w kI kZ ad M.1 M.2) H → va_S (m_A ad) s.heap H locs → lv_has ls 4 [(2, .int (k2_1))] → K4 k2_1 = some r0 → W p l e (headSpec (wsA yX8_costOf cX8_costOf 4 (some .int)) ({ frames := 1, cells := 0, slots := 0, locals := 21 } : Room)).room s m (([.ref (ad (0)), .int (a1)] : List Value).toArray) below meth c H locs 0 0 (MQ below (va_Qi (fun (r : Int32) (u : MM) => r = r0 ∧ u = M) (gI (m_Wd dC dI kI kZ ad) (m_Kn dC dI kI kZ ad)) (m_A ad)) (([.ref (ad (0)), .int (a1)] : List Value).toArray) s 0 0 (m_A ad)) (F0 m 44 ls []) := by
    intro k2_1 H locs ls hP hS hl h
    have h := useK1 eK4 h
    refine lv_iload_n hx hb dX8_costOf_44 rfl (lv_at hl 0 rfl) ?_
    exact W.iret (v := k2_1) hx hb hr (fun t ht hW => ⟨⟨k2_1, M, rfl, ⟨Option.some.inj h, rfl⟩, by rw [ht]; exact hP, m_KnW hKn t hW⟩, hS.F ht⟩) hS.2.2 dX8_costOf_45
  have hL4 : ∀ (k : Nat) (v2_2 : Int32) (v3_3 : Int32) (H : Heap) (locs : List Loc) (ls : Array Slot), va_P (dC, dI) vwCl (m_w kI kZ ad M.1 M.2) H → va_S (m_A ad) s.heap H locs → lv_has ls 4 [(0, .ref (ad (0))), (1, .int (a1)), (2, .int (v2_2)), (3, .int (v3_3))] → FX8_costOf_L4 a1 M K4 k v2_2 v3_3 = some r0 → W p l e (headSpec (wsA yX8_costOf cX8_costOf 4 (some .int)) ({ frames := 1, cells := 0, slots := 0, locals := 21 } : Room)).room s m (([.ref (ad (0)), .int (a1)] : List Value).toArray) below meth c H locs 0 0 (MQ below (va_Qi (fun (r : Int32) (u : MM) => r = r0 ∧ u = M) (gI (m_Wd dC dI kI kZ ad) (m_Kn dC dI kI kZ ad)) (m_A ad)) (([.ref (ad (0)), .int (a1)] : List Value).toArray) s 0 0 (m_A ad)) (F0 m 4 ls []) := by
    intro k
    induction k with
    | zero => intro v2_2 v3_3 H locs ls hP hS hl h; cases h
    | succ k ih4 =>
      intro v2_2 v3_3 H locs ls hP hS hl h
      unfold FX8_costOf_L4 at h
      refine lv_iload_n hx hb dX8_costOf_4 rfl (lv_at hl 3 rfl) ?_
      refine lv_aload_n hx hb dX8_costOf_5 rfl (lv_at hl 0 rfl) ?_
      refine va_get (D := (dC, dI)) (ci := 8) (v := .ref (ad (1))) (C := RX8) (T := TX8) (N := 29) hx hb hg inX8 hown hKn.1 hP (0) (m_at8 (c := 0) (by decide)) rfl 0 (Nat.le_of_ble_eq_true rfl) (hg _ lkF_X8_7) (fun _ h9 => h9) rfl dX8_costOf_6 ?_
      refine lv_iconst (v := 2) hx hb dX8_costOf_9 (by decide) ?_
      refine m_iald (M := M) (a := 1) hx hb hKn hP (by decide) (j := 2) (by decide) (by decide) dX8_costOf_10 ?_
      refine lv_icmp_ge (tgt := 44) hx hb dX8_costOf_11 (by decide) (fun c_4 => ?_) (fun c_4 => ?_)
      · have h := ife_t c_4 h
        exact hK4 v2_2 _ _ _ hP hS (lv_sub hl [2] rfl) h
      · have h := ife_f c_4 h
        refine lv_iload_n hx hb dX8_costOf_14 rfl (lv_at hl 2 rfl) ?_
        refine lv_iload_n hx hb dX8_costOf_15 rfl (lv_at hl 1 rfl) ?_
        refine lv_iload_n hx hb dX8_costOf_16 rfl (lv_at hl 3 rfl) ?_
        obtain ⟨r_5, e17, h⟩ := bo_use h
        refine gc_i (va_runS (As := [.int (a1), .int (v3_3)]) (rest := [.int (v2_2)]) hFx (tX8_has l dC dI kI kZ ad a1 v3_3 M  e17) ⟨(gc_B hFx ck_yX8_has lkM_X8_147 ⟨Nat.le_of_ble_eq_true rfl, Nat.le_of_ble_eq_true rfl⟩ rfl rfl), hg _ st_yX8_has⟩ (gp_S m_KnB (m_KnW hKn) hP) rfl rfl hl.1 rfl (lv_room (Nat.le_of_ble_eq_true rfl)) dX8_costOf_17 ⟨Nat.zero_le _, Nat.zero_le _⟩) hS (fun H locs hP hS => ?_)
        have hP : va_P (dC, dI) vwCl (m_w kI kZ ad M.1 M.2) H := hP
        obtain ⟨J36, eJ36, h⟩ := jn_use h
        have hJ36 : ∀ (s_6 : Int32) (H : Heap) (locs : List Loc) (ls : Array Slot), va_P (dC, dI) vwCl (m_w kI kZ ad M.1 M.2) H → va_S (m_A ad) s.heap H locs → lv_has ls 4 [(0, .ref (ad (0))), (1, .int (a1)), (3, .int (v3_3))] → J36 s_6 = some r0 → W p l e (headSpec (wsA yX8_costOf cX8_costOf 4 (some .int)) ({ frames := 1, cells := 0, slots := 0, locals := 21 } : Room)).room s m (([.ref (ad (0)), .int (a1)] : List Value).toArray) below meth c H locs 0 0 (MQ below (va_Qi (fun (r : Int32) (u : MM) => r = r0 ∧ u = M) (gI (m_Wd dC dI kI kZ ad) (m_Kn dC dI kI kZ ad)) (m_A ad)) (([.ref (ad (0)), .int (a1)] : List Value).toArray) s 0 0 (m_A ad)) (F0 m 36 ls [.int (s_6), .int (v2_2)]) := by
          intro s_6 H locs ls hP hS hl h
          have h := useK1 eJ36 h
          refine lv_iadd hx hb dX8_costOf_36 ?_
          refine lv_istore_n (lv' := [(2, .int ((v2_2 + s_6))), (0, .ref (ad (0))), (1, .int (a1)), (3, .int (v3_3))]) hx hb dX8_costOf_37 rfl hl (Nat.le_of_ble_eq_true rfl) rfl (fun ls hl => ?_)
          refine lv_iinc (v := (v3_3 + 1)) (lv' := [(3, .int ((v3_3 + 1))), (2, .int ((v2_2 + s_6))), (0, .ref (ad (0))), (1, .int (a1))]) hx hb dX8_costOf_38 hl (k := 3) rfl rfl (Nat.le_of_ble_eq_true rfl) rfl (fun ls hl => ?_)
          refine lv_goto (tgt := 4) hx hb dX8_costOf_41 (by decide) ?_
          exact ih4 (v2_2 + s_6) (v3_3 + 1) _ _ _ hP hS (lv_sub hl [2, 3, 1, 0] rfl) h
        refine lv_if_eq (tgt := 35) hx hb dX8_costOf_20 (by decide) (fun c_7 => ?_) (fun c_7 => ?_)
        · have h := ife_t c_7 h
          refine lv_iconst (v := 0) hx hb dX8_costOf_35 (by decide) ?_
          exact hJ36 0 _ _ _ hP hS (lv_sub hl [0, 1, 3] rfl) h
        · have h := ife_f c_7 h
          refine lv_aload_n hx hb dX8_costOf_23 rfl (lv_at hl 0 rfl) ?_
          refine va_get (D := (dC, dI)) (ci := 8) (v := .ref (ad (1))) (C := RX8) (T := TX8) (N := 29) hx hb hg inX8 hown hKn.1 hP (0) (m_at8 (c := 0) (by decide)) rfl 0 (Nat.le_of_ble_eq_true rfl) (hg _ lkF_X8_7) (fun _ h9 => h9) rfl dX8_costOf_24 ?_
          refine lv_bipush (v := 42) hx hb dX8_costOf_27 (by decide) ?_
          refine lv_iload_n hx hb dX8_costOf_29 rfl (lv_at hl 3 rfl) ?_
          refine lv_iadd hx hb dX8_costOf_30 ?_
          obtain ⟨hi31, h⟩ := if_use h
          refine m_iald (M := M) (a := 1) hx hb hKn hP (by decide) (j := (ix (42 + v3_3))) rfl hi31 dX8_costOf_31 ?_
          refine lv_goto (tgt := 36) hx hb dX8_costOf_32 (by decide) ?_
          exact hJ36 (M.1 1 (ix (42 + v3_3))) _ _ _ hP hS (lv_sub hl [0, 1, 3] rfl) h
  exact hL4 fuelN 0 0 _ _ _ hP hS (lv_sub hl [2, 3, 1, 0] rfl) h
noncomputable def FX8_draw (a1 : Int32) (M : MM) : Option (Int32 × MM) :=
  (if ((a1).toInt64) = 0 then none else some ((Int64.toInt32 ((((us M (((M.2 * 1103515245) + 12345) - ((M.2 * 1103515245) + 12345) / 2147483648 * 2147483648)).2) / 65536) - (((us M (((M.2 * 1103515245) + 12345) - ((M.2 * 1103515245) + 12345) / 2147483648 * 2147483648)).2) / 65536) / ((a1).toInt64) * ((a1).toInt64))), us M (((M.2 * 1103515245) + 12345) - ((M.2 * 1103515245) + 12345) / 2147483648 * 2147483648)))
set_option maxHeartbeats 4000000 in
set_option maxRecDepth 100000 in
theorem tX8_draw (l : Launch) (dC : Nat → ClassId) (dI : Nat → Nat → Nat) (kI kZ : ClassId) (ad : Nat → Nat) (a1 : Int32) (M : MM)  {r0 : Int32} {M0 : MM} (h : FX8_draw a1 M = some (r0, M0)) : Met l yX8_draw (wsA yX8_draw cX8_draw 2 (some .int)) ({ frames := 0, cells := 0, slots := 0, locals := 0 } : Room) (va_Pc [.ref (ad (0)), .int (a1)] (gI (m_Wd dC dI kI kZ ad) (m_Kn dC dI kI kZ ad) M)) (va_Qi (fun (r : Int32) (u : MM) => r = r0 ∧ u = M0) (gI (m_Wd dC dI kI kZ ad) (m_Kn dC dI kI kZ ad)) (m_A ad)) 0 0 (m_A ad) := by
  refine Met.ofW (cc := cX8_draw) (maxL := 2) (ret := (some .int)) (by decide) rfl ?_
  intro p e s m args below meth c s₁ B hml hv
  obtain ⟨rfl, hP, hKn⟩ := hv
  have hx := B.exec
  have hb := B.bytes
  have hr := B.returns
  have hts := atoms_spec (ws := wsA yX8_draw cX8_draw 2 (some .int)) B.pre
  have hg : ∀ w ∈ lw_good, w.before _ s = true := fun w h => hts w (List.mem_cons_of_mem _ h)
  have hown : s.vm.findClass RX8 = some m.cls := findClass_of_methodNamed B.named
  have hlocks := B.notSynchronized
  have hS : va_S (m_A ad) s.heap s.heap [] := va_S.rf
  have hFx : gFix p c cX8_draw 2 s m _ RX8 := ⟨hx, hb, hml, hown, hg⟩
  have hP : va_P (dC, dI) vwCl (m_w kI kZ ad M.1 M.2) s.heap := hP
  have hl := lv_entry ([.ref (ad (0)), .int (a1)]) (n := 2) (Nat.le_of_ble_eq_true rfl)
  rw [lg_entry_eq]
  generalize (lg_sl ([.ref (ad (0)), .int (a1)]) ++ List.replicate (2 - (lg_sl ([.ref (ad (0)), .int (a1)])).length) Slot.unset).toArray = ls at hl ⊢
  have hl : lv_has ls 2 [(0, .ref (ad (0))), (1, .int (a1))] := hl
  unfold FX8_draw at h
  refine lv_aload_n hx hb dX8_draw_0 rfl (lv_at hl 0 rfl) ?_
  refine lv_aload_n hx hb dX8_draw_1 rfl (lv_at hl 0 rfl) ?_
  refine va_get (D := (dC, dI)) (ci := 8) (v := .long (M.2)) (C := RX8) (T := TX8) (N := 29) hx hb hg inX8 hown hKn.1 hP (0) (m_at8 (c := 0) (by decide)) rfl 7 (Nat.le_of_ble_eq_true rfl) (hg _ lkF_X8_190) (fun _ h9 => h9) rfl dX8_draw_2 ?_
  refine lv_ldc2 hx hb hown (hg _ kc_X8_194) dX8_draw_5 ?_
  refine lv_lmul hx hb dX8_draw_8 ?_
  refine lv_ldc2 hx hb hown (hg _ kc_X8_196) dX8_draw_9 ?_
  refine lv_ladd hx hb dX8_draw_12 ?_
  refine lv_ldc2 hx hb hown (hg _ kc_X8_198) dX8_draw_13 ?_
  refine lv_lrem hx hb dX8_draw_16 (by decide) ?_
  refine va_put (D := (dC, dI)) (ci := 8) (v := .long ((((M.2 * 1103515245) + 12345) - ((M.2 * 1103515245) + 12345) / 2147483648 * 2147483648))) (ty := .long) (C := RX8) (T := TX8) (N := 29) hx hb hg inX8 tyX8 tyX8_ok nmX8 hown hKn.1 hP (m_D hKn.2.1) hS (0) (m_at8 (c := 0) (by decide)) rfl 7 (Nat.le_of_ble_eq_true rfl) (hg _ lkF_X8_190) (fun _ h9 => h9) rfl (by decide +kernel) rfl rfl (Nat.le_of_ble_eq_true rfl) dX8_draw_17 (fun H locs hP _ hS => ?_)
  have hP : va_P (dC, dI) vwCl (m_w kI kZ ad (us M (((M.2 * 1103515245) + 12345) - ((M.2 * 1103515245) + 12345) / 2147483648 * 2147483648)).1 (us M (((M.2 * 1103515245) + 12345) - ((M.2 * 1103515245) + 12345) / 2147483648 * 2147483648)).2) H := vp_eq (m_put8_7 (by decide) _) hP
  refine lv_aload_n hx hb dX8_draw_20 rfl (lv_at hl 0 rfl) ?_
  refine va_get (D := (dC, dI)) (ci := 8) (v := .long ((us M (((M.2 * 1103515245) + 12345) - ((M.2 * 1103515245) + 12345) / 2147483648 * 2147483648)).2)) (C := RX8) (T := TX8) (N := 29) hx hb hg inX8 hown hKn.1 hP (0) (m_at8 (c := 0) (by decide)) rfl 7 (Nat.le_of_ble_eq_true rfl) (hg _ lkF_X8_190) (fun _ h9 => h9) rfl dX8_draw_21 ?_
  refine lv_ldc2 hx hb hown (hg _ kc_X8_200) dX8_draw_24 ?_
  refine lv_ldiv hx hb dX8_draw_27 (by decide) ?_
  refine lv_iload_n hx hb dX8_draw_28 rfl (lv_at hl 1 rfl) ?_
  refine lv_i2l (v := ((a1).toInt64)) hx hb dX8_draw_29 rfl ?_
  obtain ⟨hd30, h⟩ := ifn_use h
  refine lv_lrem hx hb dX8_draw_30 hd30 ?_
  refine lv_l2i (v := (Int64.toInt32 ((((us M (((M.2 * 1103515245) + 12345) - ((M.2 * 1103515245) + 12345) / 2147483648 * 2147483648)).2) / 65536) - (((us M (((M.2 * 1103515245) + 12345) - ((M.2 * 1103515245) + 12345) / 2147483648 * 2147483648)).2) / 65536) / ((a1).toInt64) * ((a1).toInt64)))) hx hb dX8_draw_31 rfl ?_
  exact W.iret (v := (Int64.toInt32 ((((us M (((M.2 * 1103515245) + 12345) - ((M.2 * 1103515245) + 12345) / 2147483648 * 2147483648)).2) / 65536) - (((us M (((M.2 * 1103515245) + 12345) - ((M.2 * 1103515245) + 12345) / 2147483648 * 2147483648)).2) / 65536) / ((a1).toInt64) * ((a1).toInt64)))) hx hb hr (fun t ht hW => ⟨⟨(Int64.toInt32 ((((us M (((M.2 * 1103515245) + 12345) - ((M.2 * 1103515245) + 12345) / 2147483648 * 2147483648)).2) / 65536) - (((us M (((M.2 * 1103515245) + 12345) - ((M.2 * 1103515245) + 12345) / 2147483648 * 2147483648)).2) / 65536) / ((a1).toInt64) * ((a1).toInt64))), us M (((M.2 * 1103515245) + 12345) - ((M.2 * 1103515245) + 12345) / 2147483648 * 2147483648), rfl, Prod.mk.inj (Option.some.inj h), by rw [ht]; exact hP, m_KnW hKn t hW⟩, hS.F ht⟩) hS.2.2 dX8_draw_32
noncomputable def FX8_remember_L11 (K : MM → Option MM) (k : Nat) (v1_5 : Int32) (M_6 : MM) : Option MM := match k with
  | 0 => none
  | k + 1 => (if 323 ≤ v1_5 then K M_6 else (if inb (v1_5 + 17) 340 then (if inb v1_5 340 then FX8_remember_L11 K k (v1_5 + 1) (um M_6 4 (ix v1_5) (M_6.1 4 (ix (v1_5 + 17)))) else none) else none))
noncomputable def FX8_remember  (M : MM) : Option MM :=
  jn (α := MM → Option MM) (fun (M_1 : MM) => bo (FX8_copies 3 0 4 (17 * (M_1.1 0 4)) 17 M_1) (fun (M_2 : MM) => some (um M_2 0 4 ((M_2.1 0 4) + 1)))) (fun J49 => (if (M.1 0 4) = 20 then FX8_remember_L11 (fun (M_4 : MM) => J49 (um M_4 0 4 ((M_4.1 0 4) - 1))) fuelN 0 M else J49 M))
set_option maxHeartbeats 4000000 in
set_option maxRecDepth 100000 in
theorem tX8_remember (l : Launch) (dC : Nat → ClassId) (dI : Nat → Nat → Nat) (kI kZ : ClassId) (ad : Nat → Nat)  (M : MM)  {M0 : MM} (h : FX8_remember  M = some M0) : Met l yX8_remember (wsA yX8_remember cX8_remember 2 none) ({ frames := 1, cells := 0, slots := 0, locals := 25 } : Room) (va_Pc [.ref (ad (0))] (gI (m_Wd dC dI kI kZ ad) (m_Kn dC dI kI kZ ad) M)) (va_Qv (fun (u : MM) => u = M0) (gI (m_Wd dC dI kI kZ ad) (m_Kn dC dI kI kZ ad)) (m_A ad)) 0 0 (m_A ad) := by
  refine Met.ofW (cc := cX8_remember) (maxL := 2) (ret := none) (by decide) rfl ?_
  intro p e s m args below meth c s₁ B hml hv
  obtain ⟨rfl, hP, hKn⟩ := hv
  have hx := B.exec
  have hb := B.bytes
  have hr := B.returns
  have hts := atoms_spec (ws := wsA yX8_remember cX8_remember 2 none) B.pre
  have hg : ∀ w ∈ lw_good, w.before _ s = true := fun w h => hts w (List.mem_cons_of_mem _ h)
  have hown : s.vm.findClass RX8 = some m.cls := findClass_of_methodNamed B.named
  have hlocks := B.notSynchronized
  have hS : va_S (m_A ad) s.heap s.heap [] := va_S.rf
  have hFx : gFix p c cX8_remember 2 s m _ RX8 := ⟨hx, hb, hml, hown, hg⟩
  have hP : va_P (dC, dI) vwCl (m_w kI kZ ad M.1 M.2) s.heap := hP
  have hl := lv_entry ([.ref (ad (0))]) (n := 2) (Nat.le_of_ble_eq_true rfl)
  rw [lg_entry_eq]
  generalize (lg_sl ([.ref (ad (0))]) ++ List.replicate (2 - (lg_sl ([.ref (ad (0))])).length) Slot.unset).toArray = ls at hl ⊢
  have hl : lv_has ls 2 [(0, .ref (ad (0)))] := hl
  unfold FX8_remember at h
  refine lv_aload_n hx hb dX8_remember_0 rfl (lv_at hl 0 rfl) ?_
  refine va_get (D := (dC, dI)) (ci := 8) (v := .int ((M.1 0 4))) (C := RX8) (T := TX8) (N := 29) hx hb hg inX8 hown hKn.1 hP (0) (m_at8 (c := 0) (by decide)) rfl 4 (Nat.le_of_ble_eq_true rfl) (hg _ lkF_X8_63) (fun _ h9 => h9) rfl dX8_remember_1 ?_
  refine lv_bipush (v := 20) hx hb dX8_remember_4 (by decide) ?_
  obtain ⟨J49, eJ49, h⟩ := jn_use h
  have hJ49 : ∀ (M_1 : MM) (H : Heap) (locs : List Loc) (ls : Array Slot), va_P (dC, dI) vwCl (m_w kI kZ ad M_1.1 M_1.2) H → va_S (m_A ad) s.heap H locs → lv_has ls 2 [(0, .ref (ad (0)))] → J49 M_1 = some M0 → W p l e (headSpec (wsA yX8_remember cX8_remember 2 none) ({ frames := 1, cells := 0, slots := 0, locals := 25 } : Room)).room s m (([.ref (ad (0))] : List Value).toArray) below meth c H locs 0 0 (MQ below (va_Qv (fun (u : MM) => u = M0) (gI (m_Wd dC dI kI kZ ad) (m_Kn dC dI kI kZ ad)) (m_A ad)) (([.ref (ad (0))] : List Value).toArray) s 0 0 (m_A ad)) (F0 m 49 ls []) := by
    intro M_1 H locs ls hP hS hl h
    have h := useK1 eJ49 h
    refine lv_aload_n hx hb dX8_remember_49 rfl (lv_at hl 0 rfl) ?_
    refine va_get (D := (dC, dI)) (ci := 8) (v := .ref (ad (3))) (C := RX8) (T := TX8) (N := 29) hx hb hg inX8 hown hKn.1 hP (0) (m_at8 (c := 0) (by decide)) rfl 2 (Nat.le_of_ble_eq_true rfl) (hg _ lkF_X8_16) (fun _ h9 => h9) rfl dX8_remember_50 ?_
    refine lv_iconst (v := 0) hx hb dX8_remember_53 (by decide) ?_
    refine lv_aload_n hx hb dX8_remember_54 rfl (lv_at hl 0 rfl) ?_
    refine va_get (D := (dC, dI)) (ci := 8) (v := .ref (ad (4))) (C := RX8) (T := TX8) (N := 29) hx hb hg inX8 hown hKn.1 hP (0) (m_at8 (c := 0) (by decide)) rfl 3 (Nat.le_of_ble_eq_true rfl) (hg _ lkF_X8_19) (fun _ h9 => h9) rfl dX8_remember_55 ?_
    refine lv_bipush (v := 17) hx hb dX8_remember_58 (by decide) ?_
    refine lv_aload_n hx hb dX8_remember_60 rfl (lv_at hl 0 rfl) ?_
    refine va_get (D := (dC, dI)) (ci := 8) (v := .int ((M_1.1 0 4))) (C := RX8) (T := TX8) (N := 29) hx hb hg inX8 hown hKn.1 hP (0) (m_at8 (c := 0) (by decide)) rfl 4 (Nat.le_of_ble_eq_true rfl) (hg _ lkF_X8_63) (fun _ h9 => h9) rfl dX8_remember_61 ?_
    refine lv_imul hx hb dX8_remember_64 ?_
    refine lv_bipush (v := 17) hx hb dX8_remember_65 (by decide) ?_
    obtain ⟨M_2, e67, h⟩ := bo_use h
    refine gc_v (va_runS (As := [.ref (ad (3)), .int (0), .ref (ad (4)), .int ((17 * (M_1.1 0 4))), .int (17)]) (rest := []) hFx (tX8_copies l dC dI kI kZ ad 3 0 4 (17 * (M_1.1 0 4)) 17 M_1 (by decide) (by decide) e67) ⟨(gc_B hFx ck_yX8_copies lkM_X8_165 ⟨Nat.le_of_ble_eq_true rfl, Nat.le_of_ble_eq_true rfl⟩ rfl rfl), hg _ st_yX8_copies⟩ (gp_S m_KnB (m_KnW hKn) hP) rfl rfl hl.1 rfl (lv_room (Nat.le_of_ble_eq_true rfl)) dX8_remember_67 ⟨Nat.zero_le _, Nat.zero_le _⟩) hS (fun H locs hP hS => ?_)
    have hP : va_P (dC, dI) vwCl (m_w kI kZ ad M_2.1 M_2.2) H := hP
    refine lv_aload_n hx hb dX8_remember_70 rfl (lv_at hl 0 rfl) ?_
    refine lv_dup hx hb dX8_remember_71 rfl ?_
    refine va_get (D := (dC, dI)) (ci := 8) (v := .int ((M_2.1 0 4))) (C := RX8) (T := TX8) (N := 29) hx hb hg inX8 hown hKn.1 hP (0) (m_at8 (c := 0) (by decide)) rfl 4 (Nat.le_of_ble_eq_true rfl) (hg _ lkF_X8_63) (fun _ h9 => h9) rfl dX8_remember_72 ?_
    refine lv_iconst (v := 1) hx hb dX8_remember_75 (by decide) ?_
    refine lv_iadd hx hb dX8_remember_76 ?_
    refine va_put (D := (dC, dI)) (ci := 8) (v := .int (((M_2.1 0 4) + 1))) (ty := .int) (C := RX8) (T := TX8) (N := 29) hx hb hg inX8 tyX8 tyX8_ok nmX8 hown hKn.1 hP (m_D hKn.2.1) hS (0) (m_at8 (c := 0) (by decide)) rfl 4 (Nat.le_of_ble_eq_true rfl) (hg _ lkF_X8_63) (fun _ h9 => h9) rfl (by decide +kernel) rfl rfl (Nat.le_of_ble_eq_true rfl) dX8_remember_77 (fun H locs hP _ hS => ?_)
    have hP : va_P (dC, dI) vwCl (m_w kI kZ ad (um M_2 0 4 ((M_2.1 0 4) + 1)).1 (um M_2 0 4 ((M_2.1 0 4) + 1)).2) H := vp_eq (m_put8_4 (by decide) _) hP
    exact W.vret hx hb hr (fun t ht hW => ⟨⟨um M_2 0 4 ((M_2.1 0 4) + 1), rfl, Option.some.inj h, by rw [ht]; exact hP, m_KnW hKn t hW⟩, hS.F ht⟩) hS.2.2 dX8_remember_80
  refine lv_icmp_ne (tgt := 49) hx hb dX8_remember_6 (by decide) (fun c_3 => ?_) (fun c_3 => ?_)
  · have h := ife_f c_3 h
    exact hJ49 M _ _ _ hP hS (lv_sub hl [0] rfl) h
  · have h := ife_t c_3 h
    refine lv_iconst (v := 0) hx hb dX8_remember_9 (by decide) ?_
    refine lv_istore_n (lv' := [(1, .int (0)), (0, .ref (ad (0)))]) hx hb dX8_remember_10 rfl hl (Nat.le_of_ble_eq_true rfl) rfl (fun ls hl => ?_)
    obtain ⟨K11, eK11, h⟩ := exK (Lp := fun K => FX8_remember_L11 K fuelN 0 M) h
    have hK11 : ∀ (M_4 : MM) (H : Heap) (locs : List Loc) (ls : Array Slot), va_P (dC, dI) vwCl (m_w kI kZ ad M_4.1 M_4.2) H → va_S (m_A ad) s.heap H locs → lv_has ls 2 [(0, .ref (ad (0)))] → K11 M_4 = some M0 → W p l e (headSpec (wsA yX8_remember cX8_remember 2 none) ({ frames := 1, cells := 0, slots := 0, locals := 25 } : Room)).room s m (([.ref (ad (0))] : List Value).toArray) below meth c H locs 0 0 (MQ below (va_Qv (fun (u : MM) => u = M0) (gI (m_Wd dC dI kI kZ ad) (m_Kn dC dI kI kZ ad)) (m_A ad)) (([.ref (ad (0))] : List Value).toArray) s 0 0 (m_A ad)) (F0 m 39 ls []) := by
      intro M_4 H locs ls hP hS hl h
      have h := useK1 eK11 h
      refine lv_aload_n hx hb dX8_remember_39 rfl (lv_at hl 0 rfl) ?_
      refine lv_dup hx hb dX8_remember_40 rfl ?_
      refine va_get (D := (dC, dI)) (ci := 8) (v := .int ((M_4.1 0 4))) (C := RX8) (T := TX8) (N := 29) hx hb hg inX8 hown hKn.1 hP (0) (m_at8 (c := 0) (by decide)) rfl 4 (Nat.le_of_ble_eq_true rfl) (hg _ lkF_X8_63) (fun _ h9 => h9) rfl dX8_remember_41 ?_
      refine lv_iconst (v := 1) hx hb dX8_remember_44 (by decide) ?_
      refine lv_isub hx hb dX8_remember_45 ?_
      refine va_put (D := (dC, dI)) (ci := 8) (v := .int (((M_4.1 0 4) - 1))) (ty := .int) (C := RX8) (T := TX8) (N := 29) hx hb hg inX8 tyX8 tyX8_ok nmX8 hown hKn.1 hP (m_D hKn.2.1) hS (0) (m_at8 (c := 0) (by decide)) rfl 4 (Nat.le_of_ble_eq_true rfl) (hg _ lkF_X8_63) (fun _ h9 => h9) rfl (by decide +kernel) rfl rfl (Nat.le_of_ble_eq_true rfl) dX8_remember_46 (fun H locs hP _ hS => ?_)
      have hP : va_P (dC, dI) vwCl (m_w kI kZ ad (um M_4 0 4 ((M_4.1 0 4) - 1)).1 (um M_4 0 4 ((M_4.1 0 4) - 1)).2) H := vp_eq (m_put8_4 (by decide) _) hP
      exact hJ49 (um M_4 0 4 ((M_4.1 0 4) - 1)) _ _ _ hP hS (lv_sub hl [0] rfl) h
    have hL11 : ∀ (k : Nat) (v1_5 : Int32) (M_6 : MM) (H : Heap) (locs : List Loc) (ls : Array Slot), va_P (dC, dI) vwCl (m_w kI kZ ad M_6.1 M_6.2) H → va_S (m_A ad) s.heap H locs → lv_has ls 2 [(0, .ref (ad (0))), (1, .int (v1_5))] → FX8_remember_L11 K11 k v1_5 M_6 = some M0 → W p l e (headSpec (wsA yX8_remember cX8_remember 2 none) ({ frames := 1, cells := 0, slots := 0, locals := 25 } : Room)).room s m (([.ref (ad (0))] : List Value).toArray) below meth c H locs 0 0 (MQ below (va_Qv (fun (u : MM) => u = M0) (gI (m_Wd dC dI kI kZ ad) (m_Kn dC dI kI kZ ad)) (m_A ad)) (([.ref (ad (0))] : List Value).toArray) s 0 0 (m_A ad)) (F0 m 11 ls []) := by
      intro k
      induction k with
      | zero => intro v1_5 M_6 H locs ls hP hS hl h; cases h
      | succ k ih11 =>
        intro v1_5 M_6 H locs ls hP hS hl h
        unfold FX8_remember_L11 at h
        refine lv_iload_n hx hb dX8_remember_11 rfl (lv_at hl 1 rfl) ?_
        refine lv_sipush (v := 323) hx hb dX8_remember_12 (by decide) ?_
        refine lv_icmp_ge (tgt := 39) hx hb dX8_remember_15 (by decide) (fun c_7 => ?_) (fun c_7 => ?_)
        · have h := ife_t c_7 h
          exact hK11 M_6 _ _ _ hP hS (lv_sub hl [0] rfl) h
        · have h := ife_f c_7 h
          refine lv_aload_n hx hb dX8_remember_18 rfl (lv_at hl 0 rfl) ?_
          refine va_get (D := (dC, dI)) (ci := 8) (v := .ref (ad (4))) (C := RX8) (T := TX8) (N := 29) hx hb hg inX8 hown hKn.1 hP (0) (m_at8 (c := 0) (by decide)) rfl 3 (Nat.le_of_ble_eq_true rfl) (hg _ lkF_X8_19) (fun _ h9 => h9) rfl dX8_remember_19 ?_
          refine lv_iload_n hx hb dX8_remember_22 rfl (lv_at hl 1 rfl) ?_
          refine lv_aload_n hx hb dX8_remember_23 rfl (lv_at hl 0 rfl) ?_
          refine va_get (D := (dC, dI)) (ci := 8) (v := .ref (ad (4))) (C := RX8) (T := TX8) (N := 29) hx hb hg inX8 hown hKn.1 hP (0) (m_at8 (c := 0) (by decide)) rfl 3 (Nat.le_of_ble_eq_true rfl) (hg _ lkF_X8_19) (fun _ h9 => h9) rfl dX8_remember_24 ?_
          refine lv_iload_n hx hb dX8_remember_27 rfl (lv_at hl 1 rfl) ?_
          refine lv_bipush (v := 17) hx hb dX8_remember_28 (by decide) ?_
          refine lv_iadd hx hb dX8_remember_30 ?_
          obtain ⟨hi31, h⟩ := if_use h
          refine m_iald (M := M_6) (a := 4) hx hb hKn hP (by decide) (j := (ix (v1_5 + 17))) rfl hi31 dX8_remember_31 ?_
          obtain ⟨hi32, h⟩ := if_use h
          refine m_iast (M := M_6) (a := 4) hx hb hKn hP hS (by decide) (x := (M_6.1 4 (ix (v1_5 + 17)))) (j := (ix v1_5)) rfl hi32 dX8_remember_32 (fun H locs hP hS => ?_)
          have hP : va_P (dC, dI) vwCl (m_w kI kZ ad (um M_6 4 (ix v1_5) (M_6.1 4 (ix (v1_5 + 17)))).1 (um M_6 4 (ix v1_5) (M_6.1 4 (ix (v1_5 + 17)))).2) H := hP
          refine lv_iinc (v := (v1_5 + 1)) (lv' := [(1, .int ((v1_5 + 1))), (0, .ref (ad (0)))]) hx hb dX8_remember_33 hl (k := 1) rfl rfl (Nat.le_of_ble_eq_true rfl) rfl (fun ls hl => ?_)
          refine lv_goto (tgt := 11) hx hb dX8_remember_36 (by decide) ?_
          exact ih11 (v1_5 + 1) (um M_6 4 (ix v1_5) (M_6.1 4 (ix (v1_5 + 17)))) _ _ _ hP hS (lv_sub hl [1, 0] rfl) h
    exact hL11 fuelN 0 M _ _ _ hP hS (lv_sub hl [1, 0] rfl) h
noncomputable def FX8_prints (a1 : Int32) (M : MM) : Option MM :=
  bd (FX8_readsSheet 3 a1 M) (fun (r_1 : Int32) (M_2 : MM) => some (um (um M_2 3 16 r_1) 3 14 (((um M_2 3 16 r_1).1 3 14) + 1)))
set_option maxHeartbeats 4000000 in
set_option maxRecDepth 100000 in
theorem tX8_prints (l : Launch) (dC : Nat → ClassId) (dI : Nat → Nat → Nat) (kI kZ : ClassId) (ad : Nat → Nat) (a1 : Int32) (M : MM)  {M0 : MM} (h : FX8_prints a1 M = some M0) : Met l yX8_prints (wsA yX8_prints cX8_prints 2 none) ({ frames := 3, cells := 0, slots := 0, locals := 71 } : Room) (va_Pc [.ref (ad (0)), .int (a1)] (gI (m_Wd dC dI kI kZ ad) (m_Kn dC dI kI kZ ad) M)) (va_Qv (fun (u : MM) => u = M0) (gI (m_Wd dC dI kI kZ ad) (m_Kn dC dI kI kZ ad)) (m_A ad)) 0 0 (m_A ad) := by
  refine Met.ofW (cc := cX8_prints) (maxL := 2) (ret := none) (by decide) rfl ?_
  intro p e s m args below meth c s₁ B hml hv
  obtain ⟨rfl, hP, hKn⟩ := hv
  have hx := B.exec
  have hb := B.bytes
  have hr := B.returns
  have hts := atoms_spec (ws := wsA yX8_prints cX8_prints 2 none) B.pre
  have hg : ∀ w ∈ lw_good, w.before _ s = true := fun w h => hts w (List.mem_cons_of_mem _ h)
  have hown : s.vm.findClass RX8 = some m.cls := findClass_of_methodNamed B.named
  have hlocks := B.notSynchronized
  have hS : va_S (m_A ad) s.heap s.heap [] := va_S.rf
  have hFx : gFix p c cX8_prints 2 s m _ RX8 := ⟨hx, hb, hml, hown, hg⟩
  have hP : va_P (dC, dI) vwCl (m_w kI kZ ad M.1 M.2) s.heap := hP
  have hl := lv_entry ([.ref (ad (0)), .int (a1)]) (n := 2) (Nat.le_of_ble_eq_true rfl)
  rw [lg_entry_eq]
  generalize (lg_sl ([.ref (ad (0)), .int (a1)]) ++ List.replicate (2 - (lg_sl ([.ref (ad (0)), .int (a1)])).length) Slot.unset).toArray = ls at hl ⊢
  have hl : lv_has ls 2 [(0, .ref (ad (0))), (1, .int (a1))] := hl
  unfold FX8_prints at h
  refine lv_aload_n hx hb dX8_prints_0 rfl (lv_at hl 0 rfl) ?_
  refine va_get (D := (dC, dI)) (ci := 8) (v := .ref (ad (3))) (C := RX8) (T := TX8) (N := 29) hx hb hg inX8 hown hKn.1 hP (0) (m_at8 (c := 0) (by decide)) rfl 2 (Nat.le_of_ble_eq_true rfl) (hg _ lkF_X8_16) (fun _ h9 => h9) rfl dX8_prints_1 ?_
  refine lv_bipush (v := 16) hx hb dX8_prints_4 (by decide) ?_
  refine lv_aload_n hx hb dX8_prints_6 rfl (lv_at hl 0 rfl) ?_
  refine lv_aload_n hx hb dX8_prints_7 rfl (lv_at hl 0 rfl) ?_
  refine va_get (D := (dC, dI)) (ci := 8) (v := .ref (ad (3))) (C := RX8) (T := TX8) (N := 29) hx hb hg inX8 hown hKn.1 hP (0) (m_at8 (c := 0) (by decide)) rfl 2 (Nat.le_of_ble_eq_true rfl) (hg _ lkF_X8_16) (fun _ h9 => h9) rfl dX8_prints_8 ?_
  refine lv_iload_n hx hb dX8_prints_11 rfl (lv_at hl 1 rfl) ?_
  obtain ⟨r_1, M_2, e12, h⟩ := bd_use h
  refine gc_i (va_runV (As := [.ref (ad (3)), .int (a1)]) (rest := [.int (16), .ref (ad (3))]) hFx (tX8_readsSheet l dC dI kI kZ ad 3 a1 M (by decide) e12) ⟨(gc_B hFx ck_yX8_readsSheet lkM_X8_169 ⟨Nat.le_of_ble_eq_true rfl, Nat.le_of_ble_eq_true rfl⟩ rfl rfl), hg _ vi_yX8_readsSheet, hg _ vs_yX8_readsSheet⟩ (gp_V m_KnB (m_KnW hKn) hP (m_rc8 (c := 0) (by decide) hKn hP)) rfl rfl hl.1 rfl (lv_room (Nat.le_of_ble_eq_true rfl)) dX8_prints_12 ⟨Nat.zero_le _, Nat.zero_le _⟩) hS (fun H locs hP hS => ?_)
  have hP : va_P (dC, dI) vwCl (m_w kI kZ ad M_2.1 M_2.2) H := hP
  refine m_iast (M := M_2) (a := 3) hx hb hKn hP hS (by decide) (x := r_1) (j := 16) (by decide) (by decide) dX8_prints_15 (fun H locs hP hS => ?_)
  have hP : va_P (dC, dI) vwCl (m_w kI kZ ad (um M_2 3 16 r_1).1 (um M_2 3 16 r_1).2) H := hP
  refine lv_aload_n hx hb dX8_prints_16 rfl (lv_at hl 0 rfl) ?_
  refine va_get (D := (dC, dI)) (ci := 8) (v := .ref (ad (3))) (C := RX8) (T := TX8) (N := 29) hx hb hg inX8 hown hKn.1 hP (0) (m_at8 (c := 0) (by decide)) rfl 2 (Nat.le_of_ble_eq_true rfl) (hg _ lkF_X8_16) (fun _ h9 => h9) rfl dX8_prints_17 ?_
  refine lv_bipush (v := 14) hx hb dX8_prints_20 (by decide) ?_
  refine lv_dup2_11 hx hb dX8_prints_22 rfl rfl ?_
  refine m_iald (M := (um M_2 3 16 r_1)) (a := 3) hx hb hKn hP (by decide) (j := 14) (by decide) (by decide) dX8_prints_23 ?_
  refine lv_iconst (v := 1) hx hb dX8_prints_24 (by decide) ?_
  refine lv_iadd hx hb dX8_prints_25 ?_
  refine m_iast (M := (um M_2 3 16 r_1)) (a := 3) hx hb hKn hP hS (by decide) (x := (((um M_2 3 16 r_1).1 3 14) + 1)) (j := 14) (by decide) (by decide) dX8_prints_26 (fun H locs hP hS => ?_)
  have hP : va_P (dC, dI) vwCl (m_w kI kZ ad (um (um M_2 3 16 r_1) 3 14 (((um M_2 3 16 r_1).1 3 14) + 1)).1 (um (um M_2 3 16 r_1) 3 14 (((um M_2 3 16 r_1).1 3 14) + 1)).2) H := hP
  exact W.vret hx hb hr (fun t ht hW => ⟨⟨um (um M_2 3 16 r_1) 3 14 (((um M_2 3 16 r_1).1 3 14) + 1), rfl, Option.some.inj h, by rw [ht]; exact hP, m_KnW hKn t hW⟩, hS.F ht⟩) hS.2.2 dX8_prints_27
noncomputable def FX8_drift_L58 (b1 : Int32) (b2 : Int32) (K : Int32 → MM → Option (Int32 × MM)) (k : Nat) (v3_13 : Int32) (v4_14 : Int32) (M_15 : MM) : Option (Int32 × MM) := match k with
  | 0 => none
  | k + 1 => (if (M_15.1 1 2) ≤ v4_14 then K v3_13 M_15 else bo (FX8_has (M_15.1 3 13) v4_14) (fun (r_17 : Int32) => jn (α := Int32 → MM → Option (Int32 × MM)) (fun (j3_18 : Int32) (M_19 : MM) => FX8_drift_L58 b1 b2 K k j3_18 (v4_14 + 1) M_19) (fun J116 => (if r_17 = 0 then J116 v3_13 M_15 else bo (FX8_bits v3_13) (fun (r_21 : Int32) => (if (M_15.1 1 0) ≤ r_21 then J116 v3_13 M_15 else bd (FX8_draw 3 M_15) (fun (r_23 : Int32) (M_24 : MM) => jn (α := Int32 → Option (Int32 × MM)) (fun (s_25 : Int32) => J116 (v3_13 ||| s_25) M_24) (fun J114 => (if r_23 = 0 then J114 (1 <<< (v4_14 &&& 31)) else J114 0)))))))))
noncomputable def FX8_drift_L48 (b1 : Int32) (K : MM → Option (Int32 × MM)) (k : Nat) (v2_7 : Int32) (M_8 : MM) : Option (Int32 × MM) := match k with
  | 0 => none
  | k + 1 => (if b1 ≤ v2_7 then K M_8 else FX8_drift_L58 b1 v2_7 (fun (k3_10 : Int32) (M_11 : MM) => bo (FX8_prints k3_10 M_11) (fun (M_12 : MM) => FX8_drift_L48 b1 K k (v2_7 + 1) M_12)) fuelN 0 0 M_8)
noncomputable def FX8_drift (a1 : Int32) (M : MM) : Option (Int32 × MM) :=
  bo (FX8_in ((a1).toInt64) 1 60) (fun (r_1 : Int32) => (if r_1 = 0 then some ((-1000000002), M) else (if (M.1 1 1) = 0 then some ((-1000000003), M) else (if (M.1 3 14) ≤ 90000 then bo (FX8_remember  M) (fun (M_5 : MM) => FX8_drift_L48 a1 (fun (M_6 : MM) => some ((M_6.1 3 14), M_6)) fuelN 0 M_5) else some ((-1000000004), M)))))
set_option maxHeartbeats 4000000 in
set_option maxRecDepth 100000 in
theorem tX8_drift (l : Launch) (dC : Nat → ClassId) (dI : Nat → Nat → Nat) (kI kZ : ClassId) (ad : Nat → Nat) (a1 : Int32) (M : MM)  {r0 : Int32} {M0 : MM} (h : FX8_drift a1 M = some (r0, M0)) : Met l yX8_drift (wsA yX8_drift cX8_drift 5 (some .int)) ({ frames := 4, cells := 0, slots := 0, locals := 92 } : Room) (va_Pc [.ref (ad (0)), .int (a1)] (gI (m_Wd dC dI kI kZ ad) (m_Kn dC dI kI kZ ad) M)) (va_Qi (fun (r : Int32) (u : MM) => r = r0 ∧ u = M0) (gI (m_Wd dC dI kI kZ ad) (m_Kn dC dI kI kZ ad)) (m_A ad)) 0 0 (m_A ad) := by
  refine Met.ofW (cc := cX8_drift) (maxL := 5) (ret := (some .int)) (by decide) rfl ?_
  intro p e s m args below meth c s₁ B hml hv
  obtain ⟨rfl, hP, hKn⟩ := hv
  have hx := B.exec
  have hb := B.bytes
  have hr := B.returns
  have hts := atoms_spec (ws := wsA yX8_drift cX8_drift 5 (some .int)) B.pre
  have hg : ∀ w ∈ lw_good, w.before _ s = true := fun w h => hts w (List.mem_cons_of_mem _ h)
  have hown : s.vm.findClass RX8 = some m.cls := findClass_of_methodNamed B.named
  have hlocks := B.notSynchronized
  have hS : va_S (m_A ad) s.heap s.heap [] := va_S.rf
  have hFx : gFix p c cX8_drift 5 s m _ RX8 := ⟨hx, hb, hml, hown, hg⟩
  have hP : va_P (dC, dI) vwCl (m_w kI kZ ad M.1 M.2) s.heap := hP
  have hl := lv_entry ([.ref (ad (0)), .int (a1)]) (n := 5) (Nat.le_of_ble_eq_true rfl)
  rw [lg_entry_eq]
  generalize (lg_sl ([.ref (ad (0)), .int (a1)]) ++ List.replicate (5 - (lg_sl ([.ref (ad (0)), .int (a1)])).length) Slot.unset).toArray = ls at hl ⊢
  have hl : lv_has ls 5 [(0, .ref (ad (0))), (1, .int (a1))] := hl
  unfold FX8_drift at h
  refine lv_iload_n hx hb dX8_drift_0 rfl (lv_at hl 1 rfl) ?_
  refine lv_i2l (v := ((a1).toInt64)) hx hb dX8_drift_1 rfl ?_
  refine lv_lconst (v := 1) hx hb dX8_drift_2 (by decide) ?_
  refine lv_ldc2 hx hb hown (hg _ kc_X8_202) dX8_drift_3 ?_
  obtain ⟨r_1, e6, h⟩ := bo_use h
  refine gc_i (va_runS (As := [.long (((a1).toInt64)), .long (1), .long (60)]) (rest := []) hFx (tX8_in l dC dI kI kZ ad ((a1).toInt64) 1 60 M  e6) ⟨(gc_B hFx ck_yX8_in lkM_X8_74 ⟨Nat.le_of_ble_eq_true rfl, Nat.le_of_ble_eq_true rfl⟩ rfl rfl), hg _ st_yX8_in⟩ (gp_S m_KnB (m_KnW hKn) hP) rfl rfl hl.1 rfl (lv_room (Nat.le_of_ble_eq_true rfl)) dX8_drift_6 ⟨Nat.zero_le _, Nat.zero_le _⟩) hS (fun H locs hP hS => ?_)
  have hP : va_P (dC, dI) vwCl (m_w kI kZ ad M.1 M.2) H := hP
  refine lv_if_ne (tgt := 15) hx hb dX8_drift_9 (by decide) (fun c_2 => ?_) (fun c_2 => ?_)
  · have h := ife_f c_2 h
    refine lv_aload_n hx hb dX8_drift_15 rfl (lv_at hl 0 rfl) ?_
    refine va_get (D := (dC, dI)) (ci := 8) (v := .ref (ad (1))) (C := RX8) (T := TX8) (N := 29) hx hb hg inX8 hown hKn.1 hP (0) (m_at8 (c := 0) (by decide)) rfl 0 (Nat.le_of_ble_eq_true rfl) (hg _ lkF_X8_7) (fun _ h9 => h9) rfl dX8_drift_16 ?_
    refine lv_iconst (v := 1) hx hb dX8_drift_19 (by decide) ?_
    refine m_iald (M := M) (a := 1) hx hb hKn hP (by decide) (j := 1) (by decide) (by decide) dX8_drift_20 ?_
    refine lv_if_ne (tgt := 27) hx hb dX8_drift_21 (by decide) (fun c_3 => ?_) (fun c_3 => ?_)
    · have h := ife_f c_3 h
      refine lv_aload_n hx hb dX8_drift_27 rfl (lv_at hl 0 rfl) ?_
      refine va_get (D := (dC, dI)) (ci := 8) (v := .ref (ad (3))) (C := RX8) (T := TX8) (N := 29) hx hb hg inX8 hown hKn.1 hP (0) (m_at8 (c := 0) (by decide)) rfl 2 (Nat.le_of_ble_eq_true rfl) (hg _ lkF_X8_16) (fun _ h9 => h9) rfl dX8_drift_28 ?_
      refine lv_bipush (v := 14) hx hb dX8_drift_31 (by decide) ?_
      refine m_iald (M := M) (a := 3) hx hb hKn hP (by decide) (j := 14) (by decide) (by decide) dX8_drift_33 ?_
      refine lv_ldc hx hb hown (hg _ kc_X8_180) dX8_drift_34 ?_
      refine lv_icmp_le (tgt := 42) hx hb dX8_drift_36 (by decide) (fun c_4 => ?_) (fun c_4 => ?_)
      · have h := ife_t c_4 h
        refine lv_aload_n hx hb dX8_drift_42 rfl (lv_at hl 0 rfl) ?_
        obtain ⟨M_5, e43, h⟩ := bo_use h
        refine gc_v (va_runV (As := []) (rest := []) hFx (tX8_remember l dC dI kI kZ ad  M  e43) ⟨(gc_B hFx ck_yX8_remember lkM_X8_181 ⟨Nat.le_of_ble_eq_true rfl, Nat.le_of_ble_eq_true rfl⟩ rfl rfl), hg _ vi_yX8_remember, hg _ vs_yX8_remember⟩ (gp_V m_KnB (m_KnW hKn) hP (m_rc8 (c := 0) (by decide) hKn hP)) rfl rfl hl.1 rfl (lv_room (Nat.le_of_ble_eq_true rfl)) dX8_drift_43 ⟨Nat.zero_le _, Nat.zero_le _⟩) hS (fun H locs hP hS => ?_)
        have hP : va_P (dC, dI) vwCl (m_w kI kZ ad M_5.1 M_5.2) H := hP
        refine lv_iconst (v := 0) hx hb dX8_drift_46 (by decide) ?_
        refine lv_istore_n (lv' := [(2, .int (0)), (0, .ref (ad (0))), (1, .int (a1))]) hx hb dX8_drift_47 rfl hl (Nat.le_of_ble_eq_true rfl) rfl (fun ls hl => ?_)
        obtain ⟨K48, eK48, h⟩ := exK (Lp := fun K => FX8_drift_L48 a1 K fuelN 0 M_5) h
        have hK48 : ∀ (M_6 : MM) (H : Heap) (locs : List Loc) (ls : Array Slot), va_P (dC, dI) vwCl (m_w kI kZ ad M_6.1 M_6.2) H → va_S (m_A ad) s.heap H locs → lv_has ls 5 [(0, .ref (ad (0)))] → K48 M_6 = some (r0, M0) → W p l e (headSpec (wsA yX8_drift cX8_drift 5 (some .int)) ({ frames := 4, cells := 0, slots := 0, locals := 92 } : Room)).room s m (([.ref (ad (0)), .int (a1)] : List Value).toArray) below meth c H locs 0 0 (MQ below (va_Qi (fun (r : Int32) (u : MM) => r = r0 ∧ u = M0) (gI (m_Wd dC dI kI kZ ad) (m_Kn dC dI kI kZ ad)) (m_A ad)) (([.ref (ad (0)), .int (a1)] : List Value).toArray) s 0 0 (m_A ad)) (F0 m 133 ls []) := by
          intro M_6 H locs ls hP hS hl h
          have h := useK1 eK48 h
          refine lv_aload_n hx hb dX8_drift_133 rfl (lv_at hl 0 rfl) ?_
          refine va_get (D := (dC, dI)) (ci := 8) (v := .ref (ad (3))) (C := RX8) (T := TX8) (N := 29) hx hb hg inX8 hown hKn.1 hP (0) (m_at8 (c := 0) (by decide)) rfl 2 (Nat.le_of_ble_eq_true rfl) (hg _ lkF_X8_16) (fun _ h9 => h9) rfl dX8_drift_134 ?_
          refine lv_bipush (v := 14) hx hb dX8_drift_137 (by decide) ?_
          refine m_iald (M := M_6) (a := 3) hx hb hKn hP (by decide) (j := 14) (by decide) (by decide) dX8_drift_139 ?_
          exact W.iret (v := (M_6.1 3 14)) hx hb hr (fun t ht hW => ⟨⟨(M_6.1 3 14), M_6, rfl, Prod.mk.inj (Option.some.inj h), by rw [ht]; exact hP, m_KnW hKn t hW⟩, hS.F ht⟩) hS.2.2 dX8_drift_140
        have hL48 : ∀ (k : Nat) (v2_7 : Int32) (M_8 : MM) (H : Heap) (locs : List Loc) (ls : Array Slot), va_P (dC, dI) vwCl (m_w kI kZ ad M_8.1 M_8.2) H → va_S (m_A ad) s.heap H locs → lv_has ls 5 [(0, .ref (ad (0))), (1, .int (a1)), (2, .int (v2_7))] → FX8_drift_L48 a1 K48 k v2_7 M_8 = some (r0, M0) → W p l e (headSpec (wsA yX8_drift cX8_drift 5 (some .int)) ({ frames := 4, cells := 0, slots := 0, locals := 92 } : Room)).room s m (([.ref (ad (0)), .int (a1)] : List Value).toArray) below meth c H locs 0 0 (MQ below (va_Qi (fun (r : Int32) (u : MM) => r = r0 ∧ u = M0) (gI (m_Wd dC dI kI kZ ad) (m_Kn dC dI kI kZ ad)) (m_A ad)) (([.ref (ad (0)), .int (a1)] : List Value).toArray) s 0 0 (m_A ad)) (F0 m 48 ls []) := by
          intro k
          induction k with
          | zero => intro v2_7 M_8 H locs ls hP hS hl h; cases h
          | succ k ih48 =>
            intro v2_7 M_8 H locs ls hP hS hl h
            unfold FX8_drift_L48 at h
            refine lv_iload_n hx hb dX8_drift_48 rfl (lv_at hl 2 rfl) ?_
            refine lv_iload_n hx hb dX8_drift_49 rfl (lv_at hl 1 rfl) ?_
            refine lv_icmp_ge (tgt := 133) hx hb dX8_drift_50 (by decide) (fun c_9 => ?_) (fun c_9 => ?_)
            · have h := ife_t c_9 h
              exact hK48 M_8 _ _ _ hP hS (lv_sub hl [0] rfl) h
            · have h := ife_f c_9 h
              refine lv_iconst (v := 0) hx hb dX8_drift_53 (by decide) ?_
              refine lv_istore_n (lv' := [(3, .int (0)), (0, .ref (ad (0))), (1, .int (a1)), (2, .int (v2_7))]) hx hb dX8_drift_54 rfl hl (Nat.le_of_ble_eq_true rfl) rfl (fun ls hl => ?_)
              refine lv_iconst (v := 0) hx hb dX8_drift_55 (by decide) ?_
              refine lv_istore (lv' := [(4, .int (0)), (3, .int (0)), (0, .ref (ad (0))), (1, .int (a1)), (2, .int (v2_7))]) hx hb dX8_drift_56 hl (Nat.le_of_ble_eq_true rfl) rfl (fun ls hl => ?_)
              obtain ⟨K58, eK58, h⟩ := exK (Lp := fun K48 => FX8_drift_L58 a1 v2_7 K48 fuelN 0 0 M_8) h
              have hK58 : ∀ (k3_10 : Int32) (M_11 : MM) (H : Heap) (locs : List Loc) (ls : Array Slot), va_P (dC, dI) vwCl (m_w kI kZ ad M_11.1 M_11.2) H → va_S (m_A ad) s.heap H locs → lv_has ls 5 [(0, .ref (ad (0))), (1, .int (a1)), (2, .int (v2_7)), (3, .int (k3_10))] → K58 k3_10 M_11 = some (r0, M0) → W p l e (headSpec (wsA yX8_drift cX8_drift 5 (some .int)) ({ frames := 4, cells := 0, slots := 0, locals := 92 } : Room)).room s m (([.ref (ad (0)), .int (a1)] : List Value).toArray) below meth c H locs 0 0 (MQ below (va_Qi (fun (r : Int32) (u : MM) => r = r0 ∧ u = M0) (gI (m_Wd dC dI kI kZ ad) (m_Kn dC dI kI kZ ad)) (m_A ad)) (([.ref (ad (0)), .int (a1)] : List Value).toArray) s 0 0 (m_A ad)) (F0 m 122 ls []) := by
                intro k3_10 M_11 H locs ls hP hS hl h
                have h := useK2 eK58 h
                refine lv_aload_n hx hb dX8_drift_122 rfl (lv_at hl 0 rfl) ?_
                refine lv_iload_n hx hb dX8_drift_123 rfl (lv_at hl 3 rfl) ?_
                obtain ⟨M_12, e124, h⟩ := bo_use h
                refine gc_v (va_runV (As := [.int (k3_10)]) (rest := []) hFx (tX8_prints l dC dI kI kZ ad k3_10 M_11  e124) ⟨(gc_B hFx ck_yX8_prints lkM_X8_184 ⟨Nat.le_of_ble_eq_true rfl, Nat.le_of_ble_eq_true rfl⟩ rfl rfl), hg _ vi_yX8_prints, hg _ vs_yX8_prints⟩ (gp_V m_KnB (m_KnW hKn) hP (m_rc8 (c := 0) (by decide) hKn hP)) rfl rfl hl.1 rfl (lv_room (Nat.le_of_ble_eq_true rfl)) dX8_drift_124 ⟨Nat.zero_le _, Nat.zero_le _⟩) hS (fun H locs hP hS => ?_)
                have hP : va_P (dC, dI) vwCl (m_w kI kZ ad M_12.1 M_12.2) H := hP
                refine lv_iinc (v := (v2_7 + 1)) (lv' := [(2, .int ((v2_7 + 1))), (0, .ref (ad (0))), (1, .int (a1)), (3, .int (k3_10))]) hx hb dX8_drift_127 hl (k := 2) rfl rfl (Nat.le_of_ble_eq_true rfl) rfl (fun ls hl => ?_)
                refine lv_goto (tgt := 48) hx hb dX8_drift_130 (by decide) ?_
                exact ih48 (v2_7 + 1) M_12 _ _ _ hP hS (lv_sub hl [1, 2, 0] rfl) h
              have hL58 : ∀ (k : Nat) (v3_13 : Int32) (v4_14 : Int32) (M_15 : MM) (H : Heap) (locs : List Loc) (ls : Array Slot), va_P (dC, dI) vwCl (m_w kI kZ ad M_15.1 M_15.2) H → va_S (m_A ad) s.heap H locs → lv_has ls 5 [(0, .ref (ad (0))), (1, .int (a1)), (2, .int (v2_7)), (3, .int (v3_13)), (4, .int (v4_14))] → FX8_drift_L58 a1 v2_7 K58 k v3_13 v4_14 M_15 = some (r0, M0) → W p l e (headSpec (wsA yX8_drift cX8_drift 5 (some .int)) ({ frames := 4, cells := 0, slots := 0, locals := 92 } : Room)).room s m (([.ref (ad (0)), .int (a1)] : List Value).toArray) below meth c H locs 0 0 (MQ below (va_Qi (fun (r : Int32) (u : MM) => r = r0 ∧ u = M0) (gI (m_Wd dC dI kI kZ ad) (m_Kn dC dI kI kZ ad)) (m_A ad)) (([.ref (ad (0)), .int (a1)] : List Value).toArray) s 0 0 (m_A ad)) (F0 m 58 ls []) := by
                intro k
                induction k with
                | zero => intro v3_13 v4_14 M_15 H locs ls hP hS hl h; cases h
                | succ k ih58 =>
                  intro v3_13 v4_14 M_15 H locs ls hP hS hl h
                  unfold FX8_drift_L58 at h
                  refine lv_iload hx hb dX8_drift_58 (lv_at hl 4 rfl) ?_
                  refine lv_aload_n hx hb dX8_drift_60 rfl (lv_at hl 0 rfl) ?_
                  refine va_get (D := (dC, dI)) (ci := 8) (v := .ref (ad (1))) (C := RX8) (T := TX8) (N := 29) hx hb hg inX8 hown hKn.1 hP (0) (m_at8 (c := 0) (by decide)) rfl 0 (Nat.le_of_ble_eq_true rfl) (hg _ lkF_X8_7) (fun _ h9 => h9) rfl dX8_drift_61 ?_
                  refine lv_iconst (v := 2) hx hb dX8_drift_64 (by decide) ?_
                  refine m_iald (M := M_15) (a := 1) hx hb hKn hP (by decide) (j := 2) (by decide) (by decide) dX8_drift_65 ?_
                  refine lv_icmp_ge (tgt := 122) hx hb dX8_drift_66 (by decide) (fun c_16 => ?_) (fun c_16 => ?_)
                  · have h := ife_t c_16 h
                    exact hK58 v3_13 M_15 _ _ _ hP hS (lv_sub hl [0, 1, 2, 3] rfl) h
                  · have h := ife_f c_16 h
                    refine lv_aload_n hx hb dX8_drift_69 rfl (lv_at hl 0 rfl) ?_
                    refine va_get (D := (dC, dI)) (ci := 8) (v := .ref (ad (3))) (C := RX8) (T := TX8) (N := 29) hx hb hg inX8 hown hKn.1 hP (0) (m_at8 (c := 0) (by decide)) rfl 2 (Nat.le_of_ble_eq_true rfl) (hg _ lkF_X8_16) (fun _ h9 => h9) rfl dX8_drift_70 ?_
                    refine lv_bipush (v := 13) hx hb dX8_drift_73 (by decide) ?_
                    refine m_iald (M := M_15) (a := 3) hx hb hKn hP (by decide) (j := 13) (by decide) (by decide) dX8_drift_75 ?_
                    refine lv_iload hx hb dX8_drift_76 (lv_at hl 4 rfl) ?_
                    obtain ⟨r_17, e78, h⟩ := bo_use h
                    refine gc_i (va_runS (As := [.int ((M_15.1 3 13)), .int (v4_14)]) (rest := []) hFx (tX8_has l dC dI kI kZ ad (M_15.1 3 13) v4_14 M_15  e78) ⟨(gc_B hFx ck_yX8_has lkM_X8_147 ⟨Nat.le_of_ble_eq_true rfl, Nat.le_of_ble_eq_true rfl⟩ rfl rfl), hg _ st_yX8_has⟩ (gp_S m_KnB (m_KnW hKn) hP) rfl rfl hl.1 rfl (lv_room (Nat.le_of_ble_eq_true rfl)) dX8_drift_78 ⟨Nat.zero_le _, Nat.zero_le _⟩) hS (fun H locs hP hS => ?_)
                    have hP : va_P (dC, dI) vwCl (m_w kI kZ ad M_15.1 M_15.2) H := hP
                    obtain ⟨J116, eJ116, h⟩ := jn_use h
                    have hJ116 : ∀ (j3_18 : Int32) (M_19 : MM) (H : Heap) (locs : List Loc) (ls : Array Slot), va_P (dC, dI) vwCl (m_w kI kZ ad M_19.1 M_19.2) H → va_S (m_A ad) s.heap H locs → lv_has ls 5 [(0, .ref (ad (0))), (1, .int (a1)), (2, .int (v2_7)), (4, .int (v4_14)), (3, .int (j3_18))] → J116 j3_18 M_19 = some (r0, M0) → W p l e (headSpec (wsA yX8_drift cX8_drift 5 (some .int)) ({ frames := 4, cells := 0, slots := 0, locals := 92 } : Room)).room s m (([.ref (ad (0)), .int (a1)] : List Value).toArray) below meth c H locs 0 0 (MQ below (va_Qi (fun (r : Int32) (u : MM) => r = r0 ∧ u = M0) (gI (m_Wd dC dI kI kZ ad) (m_Kn dC dI kI kZ ad)) (m_A ad)) (([.ref (ad (0)), .int (a1)] : List Value).toArray) s 0 0 (m_A ad)) (F0 m 116 ls []) := by
                      intro j3_18 M_19 H locs ls hP hS hl h
                      have h := useK2 eJ116 h
                      refine lv_iinc (v := (v4_14 + 1)) (lv' := [(4, .int ((v4_14 + 1))), (0, .ref (ad (0))), (1, .int (a1)), (2, .int (v2_7)), (3, .int (j3_18))]) hx hb dX8_drift_116 hl (k := 3) rfl rfl (Nat.le_of_ble_eq_true rfl) rfl (fun ls hl => ?_)
                      refine lv_goto (tgt := 58) hx hb dX8_drift_119 (by decide) ?_
                      exact ih58 j3_18 (v4_14 + 1) M_19 _ _ _ hP hS (lv_sub hl [1, 2, 3, 4, 0] rfl) h
                    refine lv_if_eq (tgt := 116) hx hb dX8_drift_81 (by decide) (fun c_20 => ?_) (fun c_20 => ?_)
                    · have h := ife_t c_20 h
                      exact hJ116 v3_13 M_15 _ _ _ hP hS (lv_sub hl [0, 1, 2, 4, 3] rfl) h
                    · have h := ife_f c_20 h
                      refine lv_iload_n hx hb dX8_drift_84 rfl (lv_at hl 3 rfl) ?_
                      obtain ⟨r_21, e85, h⟩ := bo_use h
                      refine gc_i (va_runS (As := [.int (v3_13)]) (rest := []) hFx (tX8_bits l dC dI kI kZ ad v3_13 M_15  e85) ⟨(gc_B hFx ck_yX8_bits lkM_X8_162 ⟨Nat.le_of_ble_eq_true rfl, Nat.le_of_ble_eq_true rfl⟩ rfl rfl), hg _ st_yX8_bits⟩ (gp_S m_KnB (m_KnW hKn) hP) rfl rfl hl.1 rfl (lv_room (Nat.le_of_ble_eq_true rfl)) dX8_drift_85 ⟨Nat.zero_le _, Nat.zero_le _⟩) hS (fun H locs hP hS => ?_)
                      have hP : va_P (dC, dI) vwCl (m_w kI kZ ad M_15.1 M_15.2) H := hP
                      refine lv_aload_n hx hb dX8_drift_88 rfl (lv_at hl 0 rfl) ?_
                      refine va_get (D := (dC, dI)) (ci := 8) (v := .ref (ad (1))) (C := RX8) (T := TX8) (N := 29) hx hb hg inX8 hown hKn.1 hP (0) (m_at8 (c := 0) (by decide)) rfl 0 (Nat.le_of_ble_eq_true rfl) (hg _ lkF_X8_7) (fun _ h9 => h9) rfl dX8_drift_89 ?_
                      refine lv_iconst (v := 0) hx hb dX8_drift_92 (by decide) ?_
                      refine m_iald (M := M_15) (a := 1) hx hb hKn hP (by decide) (j := 0) (by decide) (by decide) dX8_drift_93 ?_
                      refine lv_icmp_ge (tgt := 116) hx hb dX8_drift_94 (by decide) (fun c_22 => ?_) (fun c_22 => ?_)
                      · have h := ife_t c_22 h
                        exact hJ116 v3_13 M_15 _ _ _ hP hS (lv_sub hl [0, 1, 2, 4, 3] rfl) h
                      · have h := ife_f c_22 h
                        refine lv_iload_n hx hb dX8_drift_97 rfl (lv_at hl 3 rfl) ?_
                        refine lv_aload_n hx hb dX8_drift_98 rfl (lv_at hl 0 rfl) ?_
                        refine lv_iconst (v := 3) hx hb dX8_drift_99 (by decide) ?_
                        obtain ⟨r_23, M_24, e100, h⟩ := bd_use h
                        refine gc_i (va_runV (As := [.int (3)]) (rest := [.int (v3_13)]) hFx (tX8_draw l dC dI kI kZ ad 3 M_15  e100) ⟨(gc_B hFx ck_yX8_draw lkM_X8_204 ⟨Nat.le_of_ble_eq_true rfl, Nat.le_of_ble_eq_true rfl⟩ rfl rfl), hg _ vi_yX8_draw, hg _ vs_yX8_draw⟩ (gp_V m_KnB (m_KnW hKn) hP (m_rc8 (c := 0) (by decide) hKn hP)) rfl rfl hl.1 rfl (lv_room (Nat.le_of_ble_eq_true rfl)) dX8_drift_100 ⟨Nat.zero_le _, Nat.zero_le _⟩) hS (fun H locs hP hS => ?_)
                        have hP : va_P (dC, dI) vwCl (m_w kI kZ ad M_24.1 M_24.2) H := hP
                        obtain ⟨J114, eJ114, h⟩ := jn_use h
                        have hJ114 : ∀ (s_25 : Int32) (H : Heap) (locs : List Loc) (ls : Array Slot), va_P (dC, dI) vwCl (m_w kI kZ ad M_24.1 M_24.2) H → va_S (m_A ad) s.heap H locs → lv_has ls 5 [(0, .ref (ad (0))), (1, .int (a1)), (2, .int (v2_7)), (4, .int (v4_14))] → J114 s_25 = some (r0, M0) → W p l e (headSpec (wsA yX8_drift cX8_drift 5 (some .int)) ({ frames := 4, cells := 0, slots := 0, locals := 92 } : Room)).room s m (([.ref (ad (0)), .int (a1)] : List Value).toArray) below meth c H locs 0 0 (MQ below (va_Qi (fun (r : Int32) (u : MM) => r = r0 ∧ u = M0) (gI (m_Wd dC dI kI kZ ad) (m_Kn dC dI kI kZ ad)) (m_A ad)) (([.ref (ad (0)), .int (a1)] : List Value).toArray) s 0 0 (m_A ad)) (F0 m 114 ls [.int (s_25), .int (v3_13)]) := by
                          intro s_25 H locs ls hP hS hl h
                          have h := useK1 eJ114 h
                          refine lv_ior hx hb dX8_drift_114 ?_
                          refine lv_istore_n (lv' := [(3, .int ((v3_13 ||| s_25))), (0, .ref (ad (0))), (1, .int (a1)), (2, .int (v2_7)), (4, .int (v4_14))]) hx hb dX8_drift_115 rfl hl (Nat.le_of_ble_eq_true rfl) rfl (fun ls hl => ?_)
                          exact hJ116 (v3_13 ||| s_25) M_24 _ _ _ hP hS (lv_sub hl [1, 2, 3, 4, 0] rfl) h
                        refine lv_if_ne (tgt := 113) hx hb dX8_drift_103 (by decide) (fun c_26 => ?_) (fun c_26 => ?_)
                        · have h := ife_f c_26 h
                          refine lv_iconst (v := 0) hx hb dX8_drift_113 (by decide) ?_
                          exact hJ114 0 _ _ _ hP hS (lv_sub hl [0, 1, 2, 4] rfl) h
                        · have h := ife_t c_26 h
                          refine lv_iconst (v := 1) hx hb dX8_drift_106 (by decide) ?_
                          refine lv_iload hx hb dX8_drift_107 (lv_at hl 4 rfl) ?_
                          refine lv_ishl hx hb dX8_drift_109 ?_
                          refine lv_goto (tgt := 114) hx hb dX8_drift_110 (by decide) ?_
                          exact hJ114 (1 <<< (v4_14 &&& 31)) _ _ _ hP hS (lv_sub hl [0, 1, 2, 4] rfl) h
              exact hL58 fuelN 0 0 M_8 _ _ _ hP hS (lv_sub hl [2, 3, 4, 1, 0] rfl) h
        exact hL48 fuelN 0 M_5 _ _ _ hP hS (lv_sub hl [1, 2, 0] rfl) h
      · have h := ife_f c_4 h
        refine lv_ldc hx hb hown (hg _ kc_X8_82) dX8_drift_39 ?_
        exact W.iret (v := (-1000000004)) hx hb hr (fun t ht hW => ⟨⟨(-1000000004), M, rfl, Prod.mk.inj (Option.some.inj h), by rw [ht]; exact hP, m_KnW hKn t hW⟩, hS.F ht⟩) hS.2.2 dX8_drift_41
    · have h := ife_t c_3 h
      refine lv_ldc hx hb hown (hg _ kc_X8_179) dX8_drift_24 ?_
      exact W.iret (v := (-1000000003)) hx hb hr (fun t ht hW => ⟨⟨(-1000000003), M, rfl, Prod.mk.inj (Option.some.inj h), by rw [ht]; exact hP, m_KnW hKn t hW⟩, hS.F ht⟩) hS.2.2 dX8_drift_26
  · have h := ife_t c_2 h
    refine lv_ldc hx hb hown (hg _ kc_X8_78) dX8_drift_12 ?_
    exact W.iret (v := (-1000000002)) hx hb hr (fun t ht hW => ⟨⟨(-1000000002), M, rfl, Prod.mk.inj (Option.some.inj h), by rw [ht]; exact hP, m_KnW hKn t hW⟩, hS.F ht⟩) hS.2.2 dX8_drift_14
noncomputable def FX8_isFact (a1 : Int32) (M : MM) : Option Int32 :=
  bo (FX8_in ((a1).toInt64) 0 ((((M.1 1 2) - 1)).toInt64)) (fun (r_1 : Int32) => if bo01 r_1 then some r_1 else none)
set_option maxHeartbeats 4000000 in
set_option maxRecDepth 100000 in
theorem tX8_isFact (l : Launch) (dC : Nat → ClassId) (dI : Nat → Nat → Nat) (kI kZ : ClassId) (ad : Nat → Nat) (a1 : Int32) (M : MM)  {r0 : Int32} (h : FX8_isFact a1 M = some r0) : Met l yX8_isFact (wsA yX8_isFact cX8_isFact 2 (some .boolean)) ({ frames := 1, cells := 0, slots := 0, locals := 25 } : Room) (va_Pc [.ref (ad (0)), .int (a1)] (gI (m_Wd dC dI kI kZ ad) (m_Kn dC dI kI kZ ad) M)) (va_Qi (fun (r : Int32) (u : MM) => r = r0 ∧ u = M) (gI (m_Wd dC dI kI kZ ad) (m_Kn dC dI kI kZ ad)) (m_A ad)) 0 0 (m_A ad) := by
  refine Met.ofW (cc := cX8_isFact) (maxL := 2) (ret := (some .boolean)) (by decide) rfl ?_
  intro p e s m args below meth c s₁ B hml hv
  obtain ⟨rfl, hP, hKn⟩ := hv
  have hx := B.exec
  have hb := B.bytes
  have hr := B.returns
  have hts := atoms_spec (ws := wsA yX8_isFact cX8_isFact 2 (some .boolean)) B.pre
  have hg : ∀ w ∈ lw_good, w.before _ s = true := fun w h => hts w (List.mem_cons_of_mem _ h)
  have hown : s.vm.findClass RX8 = some m.cls := findClass_of_methodNamed B.named
  have hlocks := B.notSynchronized
  have hS : va_S (m_A ad) s.heap s.heap [] := va_S.rf
  have hFx : gFix p c cX8_isFact 2 s m _ RX8 := ⟨hx, hb, hml, hown, hg⟩
  have hP : va_P (dC, dI) vwCl (m_w kI kZ ad M.1 M.2) s.heap := hP
  have hl := lv_entry ([.ref (ad (0)), .int (a1)]) (n := 2) (Nat.le_of_ble_eq_true rfl)
  rw [lg_entry_eq]
  generalize (lg_sl ([.ref (ad (0)), .int (a1)]) ++ List.replicate (2 - (lg_sl ([.ref (ad (0)), .int (a1)])).length) Slot.unset).toArray = ls at hl ⊢
  have hl : lv_has ls 2 [(0, .ref (ad (0))), (1, .int (a1))] := hl
  unfold FX8_isFact at h
  refine lv_iload_n hx hb dX8_isFact_0 rfl (lv_at hl 1 rfl) ?_
  refine lv_i2l (v := ((a1).toInt64)) hx hb dX8_isFact_1 rfl ?_
  refine lv_lconst (v := 0) hx hb dX8_isFact_2 (by decide) ?_
  refine lv_aload_n hx hb dX8_isFact_3 rfl (lv_at hl 0 rfl) ?_
  refine va_get (D := (dC, dI)) (ci := 8) (v := .ref (ad (1))) (C := RX8) (T := TX8) (N := 29) hx hb hg inX8 hown hKn.1 hP (0) (m_at8 (c := 0) (by decide)) rfl 0 (Nat.le_of_ble_eq_true rfl) (hg _ lkF_X8_7) (fun _ h9 => h9) rfl dX8_isFact_4 ?_
  refine lv_iconst (v := 2) hx hb dX8_isFact_7 (by decide) ?_
  refine m_iald (M := M) (a := 1) hx hb hKn hP (by decide) (j := 2) (by decide) (by decide) dX8_isFact_8 ?_
  refine lv_iconst (v := 1) hx hb dX8_isFact_9 (by decide) ?_
  refine lv_isub hx hb dX8_isFact_10 ?_
  refine lv_i2l (v := ((((M.1 1 2) - 1)).toInt64)) hx hb dX8_isFact_11 rfl ?_
  obtain ⟨r_1, e12, h⟩ := bo_use h
  refine gc_i (va_runS (As := [.long (((a1).toInt64)), .long (0), .long (((((M.1 1 2) - 1)).toInt64))]) (rest := []) hFx (tX8_in l dC dI kI kZ ad ((a1).toInt64) 0 ((((M.1 1 2) - 1)).toInt64) M  e12) ⟨(gc_B hFx ck_yX8_in lkM_X8_74 ⟨Nat.le_of_ble_eq_true rfl, Nat.le_of_ble_eq_true rfl⟩ rfl rfl), hg _ st_yX8_in⟩ (gp_S m_KnB (m_KnW hKn) hP) rfl rfl hl.1 rfl (lv_room (Nat.le_of_ble_eq_true rfl)) dX8_isFact_12 ⟨Nat.zero_le _, Nat.zero_le _⟩) hS (fun H locs hP hS => ?_)
  have hP : va_P (dC, dI) vwCl (m_w kI kZ ad M.1 M.2) H := hP
  obtain ⟨hbo, h⟩ := if_use h
  exact W.zret (v := r_1) hx hb hr (narrow_b01 hbo) (fun t ht hW => ⟨⟨r_1, M, rfl, ⟨Option.some.inj h, rfl⟩, by rw [ht]; exact hP, m_KnW hKn t hW⟩, hS.F ht⟩) hS.2.2 dX8_isFact_15
noncomputable def FX8_fact (a1 : Int32) (a2 : Int32) (M : MM) : Option Int32 :=
  bo (FX8_isFact a1 M) (fun (r_1 : Int32) => (if r_1 = 0 then some (-1000000001) else jn (α := Option Int32) ((if inb ((10 + (8 * a2)) + a1) 50 then some (M.1 1 (ix ((10 + (8 * a2)) + a1))) else none)) (fun J56 => (if a2 = 0 then J56 else (if a2 = 1 then J56 else (if a2 = 2 then (if inb (26 + a1) 50 then (if (M.1 1 (ix (26 + a1))) = 9 then some (-1) else (if inb (26 + a1) 50 then some (M.1 1 (ix (26 + a1))) else none)) else none) else (if a2 = 3 then J56 else (if a2 = 4 then J56 else (if a2 = 5 then bo (FX8_has (M.1 3 13) a1) (fun (r_10 : Int32) => (if r_10 = 0 then some 0 else some 1)) else (if a2 = 6 then (if inb (5 + a1) 17 then some (M.1 3 (ix (5 + a1))) else none) else some (-1000000002)))))))))))
set_option maxHeartbeats 4000000 in
set_option maxRecDepth 100000 in
theorem tX8_fact (l : Launch) (dC : Nat → ClassId) (dI : Nat → Nat → Nat) (kI kZ : ClassId) (ad : Nat → Nat) (a1 : Int32) (a2 : Int32) (M : MM)  {r0 : Int32} (h : FX8_fact a1 a2 M = some r0) : Met l yX8_fact (wsA yX8_fact cX8_fact 3 (some .int)) ({ frames := 2, cells := 0, slots := 0, locals := 46 } : Room) (va_Pc [.ref (ad (0)), .int (a1), .int (a2)] (gI (m_Wd dC dI kI kZ ad) (m_Kn dC dI kI kZ ad) M)) (va_Qi (fun (r : Int32) (u : MM) => r = r0 ∧ u = M) (gI (m_Wd dC dI kI kZ ad) (m_Kn dC dI kI kZ ad)) (m_A ad)) 0 0 (m_A ad) := by
  refine Met.ofW (cc := cX8_fact) (maxL := 3) (ret := (some .int)) (by decide) rfl ?_
  intro p e s m args below meth c s₁ B hml hv
  obtain ⟨rfl, hP, hKn⟩ := hv
  have hx := B.exec
  have hb := B.bytes
  have hr := B.returns
  have hts := atoms_spec (ws := wsA yX8_fact cX8_fact 3 (some .int)) B.pre
  have hg : ∀ w ∈ lw_good, w.before _ s = true := fun w h => hts w (List.mem_cons_of_mem _ h)
  have hown : s.vm.findClass RX8 = some m.cls := findClass_of_methodNamed B.named
  have hlocks := B.notSynchronized
  have hS : va_S (m_A ad) s.heap s.heap [] := va_S.rf
  have hFx : gFix p c cX8_fact 3 s m _ RX8 := ⟨hx, hb, hml, hown, hg⟩
  have hP : va_P (dC, dI) vwCl (m_w kI kZ ad M.1 M.2) s.heap := hP
  have hl := lv_entry ([.ref (ad (0)), .int (a1), .int (a2)]) (n := 3) (Nat.le_of_ble_eq_true rfl)
  rw [lg_entry_eq]
  generalize (lg_sl ([.ref (ad (0)), .int (a1), .int (a2)]) ++ List.replicate (3 - (lg_sl ([.ref (ad (0)), .int (a1), .int (a2)])).length) Slot.unset).toArray = ls at hl ⊢
  have hl : lv_has ls 3 [(0, .ref (ad (0))), (1, .int (a1)), (2, .int (a2))] := hl
  unfold FX8_fact at h
  refine lv_aload_n hx hb dX8_fact_0 rfl (lv_at hl 0 rfl) ?_
  refine lv_iload_n hx hb dX8_fact_1 rfl (lv_at hl 1 rfl) ?_
  obtain ⟨r_1, e2, h⟩ := bo_use h
  refine gc_i (va_runV (As := [.int (a1)]) (rest := []) hFx (tX8_isFact l dC dI kI kZ ad a1 M  e2) ⟨(gc_B hFx ck_yX8_isFact lkM_X8_144 ⟨Nat.le_of_ble_eq_true rfl, Nat.le_of_ble_eq_true rfl⟩ rfl rfl), hg _ vi_yX8_isFact, hg _ vs_yX8_isFact⟩ (gp_V m_KnB (m_KnW hKn) hP (m_rc8 (c := 0) (by decide) hKn hP)) rfl rfl hl.1 rfl (lv_room (Nat.le_of_ble_eq_true rfl)) dX8_fact_2 ⟨Nat.zero_le _, Nat.zero_le _⟩) hS (fun H locs hP hS => ?_)
  have hP : va_P (dC, dI) vwCl (m_w kI kZ ad M.1 M.2) H := hP
  refine lv_if_ne (tgt := 11) hx hb dX8_fact_5 (by decide) (fun c_2 => ?_) (fun c_2 => ?_)
  · have h := ife_f c_2 h
    refine lv_iload_n hx hb dX8_fact_11 rfl (lv_at hl 2 rfl) ?_
    obtain ⟨J56, eJ56, h⟩ := jn_use h
    have hJ56 : ∀  (H : Heap) (locs : List Loc) (ls : Array Slot), va_P (dC, dI) vwCl (m_w kI kZ ad M.1 M.2) H → va_S (m_A ad) s.heap H locs → lv_has ls 3 [(0, .ref (ad (0))), (1, .int (a1)), (2, .int (a2))] → J56  = some r0 → W p l e (headSpec (wsA yX8_fact cX8_fact 3 (some .int)) ({ frames := 2, cells := 0, slots := 0, locals := 46 } : Room)).room s m (([.ref (ad (0)), .int (a1), .int (a2)] : List Value).toArray) below meth c H locs 0 0 (MQ below (va_Qi (fun (r : Int32) (u : MM) => r = r0 ∧ u = M) (gI (m_Wd dC dI kI kZ ad) (m_Kn dC dI kI kZ ad)) (m_A ad)) (([.ref (ad (0)), .int (a1), .int (a2)] : List Value).toArray) s 0 0 (m_A ad)) (F0 m 56 ls []) := by
      intro  H locs ls hP hS hl h
      have h := useK0 eJ56 h
      refine lv_aload_n hx hb dX8_fact_56 rfl (lv_at hl 0 rfl) ?_
      refine va_get (D := (dC, dI)) (ci := 8) (v := .ref (ad (1))) (C := RX8) (T := TX8) (N := 29) hx hb hg inX8 hown hKn.1 hP (0) (m_at8 (c := 0) (by decide)) rfl 0 (Nat.le_of_ble_eq_true rfl) (hg _ lkF_X8_7) (fun _ h9 => h9) rfl dX8_fact_57 ?_
      refine lv_bipush (v := 10) hx hb dX8_fact_60 (by decide) ?_
      refine lv_bipush (v := 8) hx hb dX8_fact_62 (by decide) ?_
      refine lv_iload_n hx hb dX8_fact_64 rfl (lv_at hl 2 rfl) ?_
      refine lv_imul hx hb dX8_fact_65 ?_
      refine lv_iadd hx hb dX8_fact_66 ?_
      refine lv_iload_n hx hb dX8_fact_67 rfl (lv_at hl 1 rfl) ?_
      refine lv_iadd hx hb dX8_fact_68 ?_
      obtain ⟨hi69, h⟩ := if_use h
      refine m_iald (M := M) (a := 1) hx hb hKn hP (by decide) (j := (ix ((10 + (8 * a2)) + a1))) rfl hi69 dX8_fact_69 ?_
      exact W.iret (v := (M.1 1 (ix ((10 + (8 * a2)) + a1)))) hx hb hr (fun t ht hW => ⟨⟨(M.1 1 (ix ((10 + (8 * a2)) + a1))), M, rfl, ⟨Option.some.inj h, rfl⟩, by rw [ht]; exact hP, m_KnW hKn t hW⟩, hS.F ht⟩) hS.2.2 dX8_fact_70
    by_cases c_3 : a2 = 0
    · have h := ife_t c_3 h
      refine lv_tableIn (off := 44) (tgt := 56) hx hb dX8_fact_12 (by rw [c_3]; decide) (by rw [c_3]; decide) (by rw [c_3]; rfl) (by decide) ?_
      exact hJ56 _ _ _ hP hS (lv_sub hl [0, 1, 2] rfl) h
    have h := ife_f c_3 h
    by_cases c_4 : a2 = 1
    · have h := ife_t c_4 h
      refine lv_tableIn (off := 44) (tgt := 56) hx hb dX8_fact_12 (by rw [c_4]; decide) (by rw [c_4]; decide) (by rw [c_4]; rfl) (by decide) ?_
      exact hJ56 _ _ _ hP hS (lv_sub hl [0, 1, 2] rfl) h
    have h := ife_f c_4 h
    by_cases c_5 : a2 = 2
    · have h := ife_t c_5 h
      refine lv_tableIn (off := 59) (tgt := 71) hx hb dX8_fact_12 (by rw [c_5]; decide) (by rw [c_5]; decide) (by rw [c_5]; rfl) (by decide) ?_
      refine lv_aload_n hx hb dX8_fact_71 rfl (lv_at hl 0 rfl) ?_
      refine va_get (D := (dC, dI)) (ci := 8) (v := .ref (ad (1))) (C := RX8) (T := TX8) (N := 29) hx hb hg inX8 hown hKn.1 hP (0) (m_at8 (c := 0) (by decide)) rfl 0 (Nat.le_of_ble_eq_true rfl) (hg _ lkF_X8_7) (fun _ h9 => h9) rfl dX8_fact_72 ?_
      refine lv_bipush (v := 26) hx hb dX8_fact_75 (by decide) ?_
      refine lv_iload_n hx hb dX8_fact_77 rfl (lv_at hl 1 rfl) ?_
      refine lv_iadd hx hb dX8_fact_78 ?_
      obtain ⟨hi79, h⟩ := if_use h
      refine m_iald (M := M) (a := 1) hx hb hKn hP (by decide) (j := (ix (26 + a1))) rfl hi79 dX8_fact_79 ?_
      refine lv_bipush (v := 9) hx hb dX8_fact_80 (by decide) ?_
      refine lv_icmp_ne (tgt := 89) hx hb dX8_fact_82 (by decide) (fun c_6 => ?_) (fun c_6 => ?_)
      · have h := ife_f c_6 h
        refine lv_aload_n hx hb dX8_fact_89 rfl (lv_at hl 0 rfl) ?_
        refine va_get (D := (dC, dI)) (ci := 8) (v := .ref (ad (1))) (C := RX8) (T := TX8) (N := 29) hx hb hg inX8 hown hKn.1 hP (0) (m_at8 (c := 0) (by decide)) rfl 0 (Nat.le_of_ble_eq_true rfl) (hg _ lkF_X8_7) (fun _ h9 => h9) rfl dX8_fact_90 ?_
        refine lv_bipush (v := 26) hx hb dX8_fact_93 (by decide) ?_
        refine lv_iload_n hx hb dX8_fact_95 rfl (lv_at hl 1 rfl) ?_
        refine lv_iadd hx hb dX8_fact_96 ?_
        obtain ⟨hi97, h⟩ := if_use h
        refine m_iald (M := M) (a := 1) hx hb hKn hP (by decide) (j := (ix (26 + a1))) rfl hi97 dX8_fact_97 ?_
        exact W.iret (v := (M.1 1 (ix (26 + a1)))) hx hb hr (fun t ht hW => ⟨⟨(M.1 1 (ix (26 + a1))), M, rfl, ⟨Option.some.inj h, rfl⟩, by rw [ht]; exact hP, m_KnW hKn t hW⟩, hS.F ht⟩) hS.2.2 dX8_fact_98
      · have h := ife_t c_6 h
        refine lv_iconst (v := -1) hx hb dX8_fact_85 (by decide) ?_
        refine lv_goto (tgt := 98) hx hb dX8_fact_86 (by decide) ?_
        exact W.iret (v := (-1)) hx hb hr (fun t ht hW => ⟨⟨(-1), M, rfl, ⟨Option.some.inj h, rfl⟩, by rw [ht]; exact hP, m_KnW hKn t hW⟩, hS.F ht⟩) hS.2.2 dX8_fact_98
    have h := ife_f c_5 h
    by_cases c_7 : a2 = 3
    · have h := ife_t c_7 h
      refine lv_tableIn (off := 44) (tgt := 56) hx hb dX8_fact_12 (by rw [c_7]; decide) (by rw [c_7]; decide) (by rw [c_7]; rfl) (by decide) ?_
      exact hJ56 _ _ _ hP hS (lv_sub hl [0, 1, 2] rfl) h
    have h := ife_f c_7 h
    by_cases c_8 : a2 = 4
    · have h := ife_t c_8 h
      refine lv_tableIn (off := 44) (tgt := 56) hx hb dX8_fact_12 (by rw [c_8]; decide) (by rw [c_8]; decide) (by rw [c_8]; rfl) (by decide) ?_
      exact hJ56 _ _ _ hP hS (lv_sub hl [0, 1, 2] rfl) h
    have h := ife_f c_8 h
    by_cases c_9 : a2 = 5
    · have h := ife_t c_9 h
      refine lv_tableIn (off := 87) (tgt := 99) hx hb dX8_fact_12 (by rw [c_9]; decide) (by rw [c_9]; decide) (by rw [c_9]; rfl) (by decide) ?_
      refine lv_aload_n hx hb dX8_fact_99 rfl (lv_at hl 0 rfl) ?_
      refine va_get (D := (dC, dI)) (ci := 8) (v := .ref (ad (3))) (C := RX8) (T := TX8) (N := 29) hx hb hg inX8 hown hKn.1 hP (0) (m_at8 (c := 0) (by decide)) rfl 2 (Nat.le_of_ble_eq_true rfl) (hg _ lkF_X8_16) (fun _ h9 => h9) rfl dX8_fact_100 ?_
      refine lv_bipush (v := 13) hx hb dX8_fact_103 (by decide) ?_
      refine m_iald (M := M) (a := 3) hx hb hKn hP (by decide) (j := 13) (by decide) (by decide) dX8_fact_105 ?_
      refine lv_iload_n hx hb dX8_fact_106 rfl (lv_at hl 1 rfl) ?_
      obtain ⟨r_10, e107, h⟩ := bo_use h
      refine gc_i (va_runS (As := [.int ((M.1 3 13)), .int (a1)]) (rest := []) hFx (tX8_has l dC dI kI kZ ad (M.1 3 13) a1 M  e107) ⟨(gc_B hFx ck_yX8_has lkM_X8_147 ⟨Nat.le_of_ble_eq_true rfl, Nat.le_of_ble_eq_true rfl⟩ rfl rfl), hg _ st_yX8_has⟩ (gp_S m_KnB (m_KnW hKn) hP) rfl rfl hl.1 rfl (lv_room (Nat.le_of_ble_eq_true rfl)) dX8_fact_107 ⟨Nat.zero_le _, Nat.zero_le _⟩) hS (fun H locs hP hS => ?_)
      have hP : va_P (dC, dI) vwCl (m_w kI kZ ad M.1 M.2) H := hP
      refine lv_if_eq (tgt := 117) hx hb dX8_fact_110 (by decide) (fun c_11 => ?_) (fun c_11 => ?_)
      · have h := ife_t c_11 h
        refine lv_iconst (v := 0) hx hb dX8_fact_117 (by decide) ?_
        exact W.iret (v := 0) hx hb hr (fun t ht hW => ⟨⟨0, M, rfl, ⟨Option.some.inj h, rfl⟩, by rw [ht]; exact hP, m_KnW hKn t hW⟩, hS.F ht⟩) hS.2.2 dX8_fact_118
      · have h := ife_f c_11 h
        refine lv_iconst (v := 1) hx hb dX8_fact_113 (by decide) ?_
        refine lv_goto (tgt := 118) hx hb dX8_fact_114 (by decide) ?_
        exact W.iret (v := 1) hx hb hr (fun t ht hW => ⟨⟨1, M, rfl, ⟨Option.some.inj h, rfl⟩, by rw [ht]; exact hP, m_KnW hKn t hW⟩, hS.F ht⟩) hS.2.2 dX8_fact_118
    have h := ife_f c_9 h
    by_cases c_12 : a2 = 6
    · have h := ife_t c_12 h
      refine lv_tableIn (off := 107) (tgt := 119) hx hb dX8_fact_12 (by rw [c_12]; decide) (by rw [c_12]; decide) (by rw [c_12]; rfl) (by decide) ?_
      refine lv_aload_n hx hb dX8_fact_119 rfl (lv_at hl 0 rfl) ?_
      refine va_get (D := (dC, dI)) (ci := 8) (v := .ref (ad (3))) (C := RX8) (T := TX8) (N := 29) hx hb hg inX8 hown hKn.1 hP (0) (m_at8 (c := 0) (by decide)) rfl 2 (Nat.le_of_ble_eq_true rfl) (hg _ lkF_X8_16) (fun _ h9 => h9) rfl dX8_fact_120 ?_
      refine lv_iconst (v := 5) hx hb dX8_fact_123 (by decide) ?_
      refine lv_iload_n hx hb dX8_fact_124 rfl (lv_at hl 1 rfl) ?_
      refine lv_iadd hx hb dX8_fact_125 ?_
      obtain ⟨hi126, h⟩ := if_use h
      refine m_iald (M := M) (a := 3) hx hb hKn hP (by decide) (j := (ix (5 + a1))) rfl hi126 dX8_fact_126 ?_
      exact W.iret (v := (M.1 3 (ix (5 + a1)))) hx hb hr (fun t ht hW => ⟨⟨(M.1 3 (ix (5 + a1))), M, rfl, ⟨Option.some.inj h, rfl⟩, by rw [ht]; exact hP, m_KnW hKn t hW⟩, hS.F ht⟩) hS.2.2 dX8_fact_127
    have h := ife_f c_12 h
    have n0_c_3 := lv_neT (a := 0) c_3 (by decide)
    have n1_c_4 := lv_neT (a := 1) c_4 (by decide)
    have n2_c_5 := lv_neT (a := 2) c_5 (by decide)
    have n3_c_7 := lv_neT (a := 3) c_7 (by decide)
    have n4_c_8 := lv_neT (a := 4) c_8 (by decide)
    have n5_c_9 := lv_neT (a := 5) c_9 (by decide)
    have n6_c_12 := lv_neT (a := 6) c_12 (by decide)
    refine lv_tableOut (tgt := 128) hx hb dX8_fact_12 (by omega) (by decide) ?_
    refine lv_ldc hx hb hown (hg _ kc_X8_78) dX8_fact_128 ?_
    exact W.iret (v := (-1000000002)) hx hb hr (fun t ht hW => ⟨⟨(-1000000002), M, rfl, ⟨Option.some.inj h, rfl⟩, by rw [ht]; exact hP, m_KnW hKn t hW⟩, hS.F ht⟩) hS.2.2 dX8_fact_130
  · have h := ife_t c_2 h
    refine lv_ldc hx hb hown (hg _ kc_X8_143) dX8_fact_8 ?_
    exact W.iret (v := (-1000000001)) hx hb hr (fun t ht hW => ⟨⟨(-1000000001), M, rfl, ⟨Option.some.inj h, rfl⟩, by rw [ht]; exact hP, m_KnW hKn t hW⟩, hS.F ht⟩) hS.2.2 dX8_fact_10
noncomputable def FX8_fault  (M : MM) : Option Int32 :=
  some (M.1 0 10)
set_option maxHeartbeats 4000000 in
set_option maxRecDepth 100000 in
theorem tX8_fault (l : Launch) (dC : Nat → ClassId) (dI : Nat → Nat → Nat) (kI kZ : ClassId) (ad : Nat → Nat)  (M : MM)  {r0 : Int32} (h : FX8_fault  M = some r0) : Met l yX8_fault (wsA yX8_fault cX8_fault 1 (some .int)) ({ frames := 0, cells := 0, slots := 0, locals := 0 } : Room) (va_Pc [.ref (ad (0))] (gI (m_Wd dC dI kI kZ ad) (m_Kn dC dI kI kZ ad) M)) (va_Qi (fun (r : Int32) (u : MM) => r = r0 ∧ u = M) (gI (m_Wd dC dI kI kZ ad) (m_Kn dC dI kI kZ ad)) (m_A ad)) 0 0 (m_A ad) := by
  refine Met.ofW (cc := cX8_fault) (maxL := 1) (ret := (some .int)) (by decide) rfl ?_
  intro p e s m args below meth c s₁ B hml hv
  obtain ⟨rfl, hP, hKn⟩ := hv
  have hx := B.exec
  have hb := B.bytes
  have hr := B.returns
  have hts := atoms_spec (ws := wsA yX8_fault cX8_fault 1 (some .int)) B.pre
  have hg : ∀ w ∈ lw_good, w.before _ s = true := fun w h => hts w (List.mem_cons_of_mem _ h)
  have hown : s.vm.findClass RX8 = some m.cls := findClass_of_methodNamed B.named
  have hlocks := B.notSynchronized
  have hS : va_S (m_A ad) s.heap s.heap [] := va_S.rf
  have hFx : gFix p c cX8_fault 1 s m _ RX8 := ⟨hx, hb, hml, hown, hg⟩
  have hP : va_P (dC, dI) vwCl (m_w kI kZ ad M.1 M.2) s.heap := hP
  have hl := lv_entry ([.ref (ad (0))]) (n := 1) (Nat.le_of_ble_eq_true rfl)
  rw [lg_entry_eq]
  generalize (lg_sl ([.ref (ad (0))]) ++ List.replicate (1 - (lg_sl ([.ref (ad (0))])).length) Slot.unset).toArray = ls at hl ⊢
  have hl : lv_has ls 1 [(0, .ref (ad (0)))] := hl
  unfold FX8_fault at h
  refine lv_aload_n hx hb dX8_fault_0 rfl (lv_at hl 0 rfl) ?_
  refine va_get (D := (dC, dI)) (ci := 8) (v := .int ((M.1 0 10))) (C := RX8) (T := TX8) (N := 29) hx hb hg inX8 hown hKn.1 hP (0) (m_at8 (c := 0) (by decide)) rfl 10 (Nat.le_of_ble_eq_true rfl) (hg _ lkF_X8_32) (fun _ h9 => h9) rfl dX8_fault_1 ?_
  exact W.iret (v := (M.1 0 10)) hx hb hr (fun t ht hW => ⟨⟨(M.1 0 10), M, rfl, ⟨Option.some.inj h, rfl⟩, by rw [ht]; exact hP, m_KnW hKn t hW⟩, hS.F ht⟩) hS.2.2 dX8_fault_4
noncomputable def FX8_feed (a1 : Int32) (M : MM) : Option (Int32 × MM) :=
  bo (FX8_in ((a1).toInt64) 0 255) (fun (r_1 : Int32) => (if r_1 = 0 then some ((-1000000002), M) else (if (M.1 0 9) = 240 then some ((-1000000004), M) else (if inb (M.1 0 9) 240 then some (((um (um M 7 (ix (M.1 0 9)) a1) 0 9 (((um M 7 (ix (M.1 0 9)) a1).1 0 9) + 1)).1 0 9), um (um M 7 (ix (M.1 0 9)) a1) 0 9 (((um M 7 (ix (M.1 0 9)) a1).1 0 9) + 1)) else none))))
set_option maxHeartbeats 4000000 in
set_option maxRecDepth 100000 in
theorem tX8_feed (l : Launch) (dC : Nat → ClassId) (dI : Nat → Nat → Nat) (kI kZ : ClassId) (ad : Nat → Nat) (a1 : Int32) (M : MM)  {r0 : Int32} {M0 : MM} (h : FX8_feed a1 M = some (r0, M0)) : Met l yX8_feed (wsA yX8_feed cX8_feed 2 (some .int)) ({ frames := 1, cells := 0, slots := 0, locals := 25 } : Room) (va_Pc [.ref (ad (0)), .int (a1)] (gI (m_Wd dC dI kI kZ ad) (m_Kn dC dI kI kZ ad) M)) (va_Qi (fun (r : Int32) (u : MM) => r = r0 ∧ u = M0) (gI (m_Wd dC dI kI kZ ad) (m_Kn dC dI kI kZ ad)) (m_A ad)) 0 0 (m_A ad) := by
  refine Met.ofW (cc := cX8_feed) (maxL := 2) (ret := (some .int)) (by decide) rfl ?_
  intro p e s m args below meth c s₁ B hml hv
  obtain ⟨rfl, hP, hKn⟩ := hv
  have hx := B.exec
  have hb := B.bytes
  have hr := B.returns
  have hts := atoms_spec (ws := wsA yX8_feed cX8_feed 2 (some .int)) B.pre
  have hg : ∀ w ∈ lw_good, w.before _ s = true := fun w h => hts w (List.mem_cons_of_mem _ h)
  have hown : s.vm.findClass RX8 = some m.cls := findClass_of_methodNamed B.named
  have hlocks := B.notSynchronized
  have hS : va_S (m_A ad) s.heap s.heap [] := va_S.rf
  have hFx : gFix p c cX8_feed 2 s m _ RX8 := ⟨hx, hb, hml, hown, hg⟩
  have hP : va_P (dC, dI) vwCl (m_w kI kZ ad M.1 M.2) s.heap := hP
  have hl := lv_entry ([.ref (ad (0)), .int (a1)]) (n := 2) (Nat.le_of_ble_eq_true rfl)
  rw [lg_entry_eq]
  generalize (lg_sl ([.ref (ad (0)), .int (a1)]) ++ List.replicate (2 - (lg_sl ([.ref (ad (0)), .int (a1)])).length) Slot.unset).toArray = ls at hl ⊢
  have hl : lv_has ls 2 [(0, .ref (ad (0))), (1, .int (a1))] := hl
  unfold FX8_feed at h
  refine lv_iload_n hx hb dX8_feed_0 rfl (lv_at hl 1 rfl) ?_
  refine lv_i2l (v := ((a1).toInt64)) hx hb dX8_feed_1 rfl ?_
  refine lv_lconst (v := 0) hx hb dX8_feed_2 (by decide) ?_
  refine lv_ldc2 hx hb hown (hg _ kc_X8_72) dX8_feed_3 ?_
  obtain ⟨r_1, e6, h⟩ := bo_use h
  refine gc_i (va_runS (As := [.long (((a1).toInt64)), .long (0), .long (255)]) (rest := []) hFx (tX8_in l dC dI kI kZ ad ((a1).toInt64) 0 255 M  e6) ⟨(gc_B hFx ck_yX8_in lkM_X8_74 ⟨Nat.le_of_ble_eq_true rfl, Nat.le_of_ble_eq_true rfl⟩ rfl rfl), hg _ st_yX8_in⟩ (gp_S m_KnB (m_KnW hKn) hP) rfl rfl hl.1 rfl (lv_room (Nat.le_of_ble_eq_true rfl)) dX8_feed_6 ⟨Nat.zero_le _, Nat.zero_le _⟩) hS (fun H locs hP hS => ?_)
  have hP : va_P (dC, dI) vwCl (m_w kI kZ ad M.1 M.2) H := hP
  refine lv_if_ne (tgt := 15) hx hb dX8_feed_9 (by decide) (fun c_2 => ?_) (fun c_2 => ?_)
  · have h := ife_f c_2 h
    refine lv_aload_n hx hb dX8_feed_15 rfl (lv_at hl 0 rfl) ?_
    refine va_get (D := (dC, dI)) (ci := 8) (v := .int ((M.1 0 9))) (C := RX8) (T := TX8) (N := 29) hx hb hg inX8 hown hKn.1 hP (0) (m_at8 (c := 0) (by decide)) rfl 9 (Nat.le_of_ble_eq_true rfl) (hg _ lkF_X8_79) (fun _ h9 => h9) rfl dX8_feed_16 ?_
    refine lv_sipush (v := 240) hx hb dX8_feed_19 (by decide) ?_
    refine lv_icmp_ne (tgt := 28) hx hb dX8_feed_22 (by decide) (fun c_3 => ?_) (fun c_3 => ?_)
    · have h := ife_f c_3 h
      refine lv_aload_n hx hb dX8_feed_28 rfl (lv_at hl 0 rfl) ?_
      refine va_get (D := (dC, dI)) (ci := 8) (v := .ref (ad (7))) (C := RX8) (T := TX8) (N := 29) hx hb hg inX8 hown hKn.1 hP (0) (m_at8 (c := 0) (by decide)) rfl 8 (Nat.le_of_ble_eq_true rfl) (hg _ lkF_X8_29) (fun _ h9 => h9) rfl dX8_feed_29 ?_
      refine lv_aload_n hx hb dX8_feed_32 rfl (lv_at hl 0 rfl) ?_
      refine va_get (D := (dC, dI)) (ci := 8) (v := .int ((M.1 0 9))) (C := RX8) (T := TX8) (N := 29) hx hb hg inX8 hown hKn.1 hP (0) (m_at8 (c := 0) (by decide)) rfl 9 (Nat.le_of_ble_eq_true rfl) (hg _ lkF_X8_79) (fun _ h9 => h9) rfl dX8_feed_33 ?_
      refine lv_iload_n hx hb dX8_feed_36 rfl (lv_at hl 1 rfl) ?_
      obtain ⟨hi37, h⟩ := if_use h
      refine m_iast (M := M) (a := 7) hx hb hKn hP hS (by decide) (x := a1) (j := (ix (M.1 0 9))) rfl hi37 dX8_feed_37 (fun H locs hP hS => ?_)
      have hP : va_P (dC, dI) vwCl (m_w kI kZ ad (um M 7 (ix (M.1 0 9)) a1).1 (um M 7 (ix (M.1 0 9)) a1).2) H := hP
      refine lv_aload_n hx hb dX8_feed_38 rfl (lv_at hl 0 rfl) ?_
      refine lv_dup hx hb dX8_feed_39 rfl ?_
      refine va_get (D := (dC, dI)) (ci := 8) (v := .int (((um M 7 (ix (M.1 0 9)) a1).1 0 9))) (C := RX8) (T := TX8) (N := 29) hx hb hg inX8 hown hKn.1 hP (0) (m_at8 (c := 0) (by decide)) rfl 9 (Nat.le_of_ble_eq_true rfl) (hg _ lkF_X8_79) (fun _ h9 => h9) rfl dX8_feed_40 ?_
      refine lv_iconst (v := 1) hx hb dX8_feed_43 (by decide) ?_
      refine lv_iadd hx hb dX8_feed_44 ?_
      refine va_put (D := (dC, dI)) (ci := 8) (v := .int ((((um M 7 (ix (M.1 0 9)) a1).1 0 9) + 1))) (ty := .int) (C := RX8) (T := TX8) (N := 29) hx hb hg inX8 tyX8 tyX8_ok nmX8 hown hKn.1 hP (m_D hKn.2.1) hS (0) (m_at8 (c := 0) (by decide)) rfl 9 (Nat.le_of_ble_eq_true rfl) (hg _ lkF_X8_79) (fun _ h9 => h9) rfl (by decide +kernel) rfl rfl (Nat.le_of_ble_eq_true rfl) dX8_feed_45 (fun H locs hP _ hS => ?_)
      have hP : va_P (dC, dI) vwCl (m_w kI kZ ad (um (um M 7 (ix (M.1 0 9)) a1) 0 9 (((um M 7 (ix (M.1 0 9)) a1).1 0 9) + 1)).1 (um (um M 7 (ix (M.1 0 9)) a1) 0 9 (((um M 7 (ix (M.1 0 9)) a1).1 0 9) + 1)).2) H := vp_eq (m_put8_9 (by decide) _) hP
      refine lv_aload_n hx hb dX8_feed_48 rfl (lv_at hl 0 rfl) ?_
      refine va_get (D := (dC, dI)) (ci := 8) (v := .int (((um (um M 7 (ix (M.1 0 9)) a1) 0 9 (((um M 7 (ix (M.1 0 9)) a1).1 0 9) + 1)).1 0 9))) (C := RX8) (T := TX8) (N := 29) hx hb hg inX8 hown hKn.1 hP (0) (m_at8 (c := 0) (by decide)) rfl 9 (Nat.le_of_ble_eq_true rfl) (hg _ lkF_X8_79) (fun _ h9 => h9) rfl dX8_feed_49 ?_
      exact W.iret (v := ((um (um M 7 (ix (M.1 0 9)) a1) 0 9 (((um M 7 (ix (M.1 0 9)) a1).1 0 9) + 1)).1 0 9)) hx hb hr (fun t ht hW => ⟨⟨((um (um M 7 (ix (M.1 0 9)) a1) 0 9 (((um M 7 (ix (M.1 0 9)) a1).1 0 9) + 1)).1 0 9), um (um M 7 (ix (M.1 0 9)) a1) 0 9 (((um M 7 (ix (M.1 0 9)) a1).1 0 9) + 1), rfl, Prod.mk.inj (Option.some.inj h), by rw [ht]; exact hP, m_KnW hKn t hW⟩, hS.F ht⟩) hS.2.2 dX8_feed_52
    · have h := ife_t c_3 h
      refine lv_ldc hx hb hown (hg _ kc_X8_82) dX8_feed_25 ?_
      exact W.iret (v := (-1000000004)) hx hb hr (fun t ht hW => ⟨⟨(-1000000004), M, rfl, Prod.mk.inj (Option.some.inj h), by rw [ht]; exact hP, m_KnW hKn t hW⟩, hS.F ht⟩) hS.2.2 dX8_feed_27
  · have h := ife_t c_2 h
    refine lv_ldc hx hb hown (hg _ kc_X8_78) dX8_feed_12 ?_
    exact W.iret (v := (-1000000002)) hx hb hr (fun t ht hW => ⟨⟨(-1000000002), M, rfl, Prod.mk.inj (Option.some.inj h), by rw [ht]; exact hP, m_KnW hKn t hW⟩, hS.F ht⟩) hS.2.2 dX8_feed_14
noncomputable def FX8_goBack (a1 : Int32) (M : MM) : Option (Int32 × MM) :=
  bo (FX8_in ((a1).toInt64) 0 1) (fun (r_1 : Int32) => (if r_1 = 0 then some ((-1000000001), M) else (if inb a1 2 then (if (M.1 6 (ix a1)) = 0 then some ((-1000000003), M) else bo (FX8_copies 5 (18 * a1) 3 0 17 M) (fun (M_4 : MM) => (if inb ((18 * a1) + 17) 36 then some (1, um (us M_4 (((M_4.1 5 (ix ((18 * a1) + 17)))).toInt64)) 0 4 0) else none))) else none)))
set_option maxHeartbeats 4000000 in
set_option maxRecDepth 100000 in
theorem tX8_goBack (l : Launch) (dC : Nat → ClassId) (dI : Nat → Nat → Nat) (kI kZ : ClassId) (ad : Nat → Nat) (a1 : Int32) (M : MM)  {r0 : Int32} {M0 : MM} (h : FX8_goBack a1 M = some (r0, M0)) : Met l yX8_goBack (wsA yX8_goBack cX8_goBack 2 (some .int)) ({ frames := 1, cells := 0, slots := 0, locals := 25 } : Room) (va_Pc [.ref (ad (0)), .int (a1)] (gI (m_Wd dC dI kI kZ ad) (m_Kn dC dI kI kZ ad) M)) (va_Qi (fun (r : Int32) (u : MM) => r = r0 ∧ u = M0) (gI (m_Wd dC dI kI kZ ad) (m_Kn dC dI kI kZ ad)) (m_A ad)) 0 0 (m_A ad) := by
  refine Met.ofW (cc := cX8_goBack) (maxL := 2) (ret := (some .int)) (by decide) rfl ?_
  intro p e s m args below meth c s₁ B hml hv
  obtain ⟨rfl, hP, hKn⟩ := hv
  have hx := B.exec
  have hb := B.bytes
  have hr := B.returns
  have hts := atoms_spec (ws := wsA yX8_goBack cX8_goBack 2 (some .int)) B.pre
  have hg : ∀ w ∈ lw_good, w.before _ s = true := fun w h => hts w (List.mem_cons_of_mem _ h)
  have hown : s.vm.findClass RX8 = some m.cls := findClass_of_methodNamed B.named
  have hlocks := B.notSynchronized
  have hS : va_S (m_A ad) s.heap s.heap [] := va_S.rf
  have hFx : gFix p c cX8_goBack 2 s m _ RX8 := ⟨hx, hb, hml, hown, hg⟩
  have hP : va_P (dC, dI) vwCl (m_w kI kZ ad M.1 M.2) s.heap := hP
  have hl := lv_entry ([.ref (ad (0)), .int (a1)]) (n := 2) (Nat.le_of_ble_eq_true rfl)
  rw [lg_entry_eq]
  generalize (lg_sl ([.ref (ad (0)), .int (a1)]) ++ List.replicate (2 - (lg_sl ([.ref (ad (0)), .int (a1)])).length) Slot.unset).toArray = ls at hl ⊢
  have hl : lv_has ls 2 [(0, .ref (ad (0))), (1, .int (a1))] := hl
  unfold FX8_goBack at h
  refine lv_iload_n hx hb dX8_goBack_0 rfl (lv_at hl 1 rfl) ?_
  refine lv_i2l (v := ((a1).toInt64)) hx hb dX8_goBack_1 rfl ?_
  refine lv_lconst (v := 0) hx hb dX8_goBack_2 (by decide) ?_
  refine lv_lconst (v := 1) hx hb dX8_goBack_3 (by decide) ?_
  obtain ⟨r_1, e4, h⟩ := bo_use h
  refine gc_i (va_runS (As := [.long (((a1).toInt64)), .long (0), .long (1)]) (rest := []) hFx (tX8_in l dC dI kI kZ ad ((a1).toInt64) 0 1 M  e4) ⟨(gc_B hFx ck_yX8_in lkM_X8_74 ⟨Nat.le_of_ble_eq_true rfl, Nat.le_of_ble_eq_true rfl⟩ rfl rfl), hg _ st_yX8_in⟩ (gp_S m_KnB (m_KnW hKn) hP) rfl rfl hl.1 rfl (lv_room (Nat.le_of_ble_eq_true rfl)) dX8_goBack_4 ⟨Nat.zero_le _, Nat.zero_le _⟩) hS (fun H locs hP hS => ?_)
  have hP : va_P (dC, dI) vwCl (m_w kI kZ ad M.1 M.2) H := hP
  refine lv_if_ne (tgt := 13) hx hb dX8_goBack_7 (by decide) (fun c_2 => ?_) (fun c_2 => ?_)
  · have h := ife_f c_2 h
    refine lv_aload_n hx hb dX8_goBack_13 rfl (lv_at hl 0 rfl) ?_
    refine va_get (D := (dC, dI)) (ci := 8) (v := .ref (ad (6))) (C := RX8) (T := TX8) (N := 29) hx hb hg inX8 hown hKn.1 hP (0) (m_at8 (c := 0) (by decide)) rfl 6 (Nat.le_of_ble_eq_true rfl) (hg _ lkF_X8_25) (fun _ h9 => h9) rfl dX8_goBack_14 ?_
    refine lv_iload_n hx hb dX8_goBack_17 rfl (lv_at hl 1 rfl) ?_
    obtain ⟨hi18, h⟩ := if_use h
    refine m_zald (M := M) hx hb hKn hP (j := (ix a1)) rfl hi18 dX8_goBack_18 ?_
    refine lv_if_ne (tgt := 25) hx hb dX8_goBack_19 (by decide) (fun c_3 => ?_) (fun c_3 => ?_)
    · have h := ife_f c_3 h
      refine lv_aload_n hx hb dX8_goBack_25 rfl (lv_at hl 0 rfl) ?_
      refine va_get (D := (dC, dI)) (ci := 8) (v := .ref (ad (5))) (C := RX8) (T := TX8) (N := 29) hx hb hg inX8 hown hKn.1 hP (0) (m_at8 (c := 0) (by decide)) rfl 5 (Nat.le_of_ble_eq_true rfl) (hg _ lkF_X8_22) (fun _ h9 => h9) rfl dX8_goBack_26 ?_
      refine lv_bipush (v := 18) hx hb dX8_goBack_29 (by decide) ?_
      refine lv_iload_n hx hb dX8_goBack_31 rfl (lv_at hl 1 rfl) ?_
      refine lv_imul hx hb dX8_goBack_32 ?_
      refine lv_aload_n hx hb dX8_goBack_33 rfl (lv_at hl 0 rfl) ?_
      refine va_get (D := (dC, dI)) (ci := 8) (v := .ref (ad (3))) (C := RX8) (T := TX8) (N := 29) hx hb hg inX8 hown hKn.1 hP (0) (m_at8 (c := 0) (by decide)) rfl 2 (Nat.le_of_ble_eq_true rfl) (hg _ lkF_X8_16) (fun _ h9 => h9) rfl dX8_goBack_34 ?_
      refine lv_iconst (v := 0) hx hb dX8_goBack_37 (by decide) ?_
      refine lv_bipush (v := 17) hx hb dX8_goBack_38 (by decide) ?_
      obtain ⟨M_4, e40, h⟩ := bo_use h
      refine gc_v (va_runS (As := [.ref (ad (5)), .int ((18 * a1)), .ref (ad (3)), .int (0), .int (17)]) (rest := []) hFx (tX8_copies l dC dI kI kZ ad 5 (18 * a1) 3 0 17 M (by decide) (by decide) e40) ⟨(gc_B hFx ck_yX8_copies lkM_X8_165 ⟨Nat.le_of_ble_eq_true rfl, Nat.le_of_ble_eq_true rfl⟩ rfl rfl), hg _ st_yX8_copies⟩ (gp_S m_KnB (m_KnW hKn) hP) rfl rfl hl.1 rfl (lv_room (Nat.le_of_ble_eq_true rfl)) dX8_goBack_40 ⟨Nat.zero_le _, Nat.zero_le _⟩) hS (fun H locs hP hS => ?_)
      have hP : va_P (dC, dI) vwCl (m_w kI kZ ad M_4.1 M_4.2) H := hP
      refine lv_aload_n hx hb dX8_goBack_43 rfl (lv_at hl 0 rfl) ?_
      refine lv_aload_n hx hb dX8_goBack_44 rfl (lv_at hl 0 rfl) ?_
      refine va_get (D := (dC, dI)) (ci := 8) (v := .ref (ad (5))) (C := RX8) (T := TX8) (N := 29) hx hb hg inX8 hown hKn.1 hP (0) (m_at8 (c := 0) (by decide)) rfl 5 (Nat.le_of_ble_eq_true rfl) (hg _ lkF_X8_22) (fun _ h9 => h9) rfl dX8_goBack_45 ?_
      refine lv_bipush (v := 18) hx hb dX8_goBack_48 (by decide) ?_
      refine lv_iload_n hx hb dX8_goBack_50 rfl (lv_at hl 1 rfl) ?_
      refine lv_imul hx hb dX8_goBack_51 ?_
      refine lv_bipush (v := 17) hx hb dX8_goBack_52 (by decide) ?_
      refine lv_iadd hx hb dX8_goBack_54 ?_
      obtain ⟨hi55, h⟩ := if_use h
      refine m_iald (M := M_4) (a := 5) hx hb hKn hP (by decide) (j := (ix ((18 * a1) + 17))) rfl hi55 dX8_goBack_55 ?_
      refine lv_i2l (v := (((M_4.1 5 (ix ((18 * a1) + 17)))).toInt64)) hx hb dX8_goBack_56 rfl ?_
      refine va_put (D := (dC, dI)) (ci := 8) (v := .long ((((M_4.1 5 (ix ((18 * a1) + 17)))).toInt64))) (ty := .long) (C := RX8) (T := TX8) (N := 29) hx hb hg inX8 tyX8 tyX8_ok nmX8 hown hKn.1 hP (m_D hKn.2.1) hS (0) (m_at8 (c := 0) (by decide)) rfl 7 (Nat.le_of_ble_eq_true rfl) (hg _ lkF_X8_190) (fun _ h9 => h9) rfl (by decide +kernel) rfl rfl (Nat.le_of_ble_eq_true rfl) dX8_goBack_57 (fun H locs hP _ hS => ?_)
      have hP : va_P (dC, dI) vwCl (m_w kI kZ ad (us M_4 (((M_4.1 5 (ix ((18 * a1) + 17)))).toInt64)).1 (us M_4 (((M_4.1 5 (ix ((18 * a1) + 17)))).toInt64)).2) H := vp_eq (m_put8_7 (by decide) _) hP
      refine lv_aload_n hx hb dX8_goBack_60 rfl (lv_at hl 0 rfl) ?_
      refine lv_iconst (v := 0) hx hb dX8_goBack_61 (by decide) ?_
      refine va_put (D := (dC, dI)) (ci := 8) (v := .int (0)) (ty := .int) (C := RX8) (T := TX8) (N := 29) hx hb hg inX8 tyX8 tyX8_ok nmX8 hown hKn.1 hP (m_D hKn.2.1) hS (0) (m_at8 (c := 0) (by decide)) rfl 4 (Nat.le_of_ble_eq_true rfl) (hg _ lkF_X8_63) (fun _ h9 => h9) rfl (by decide +kernel) rfl rfl (Nat.le_of_ble_eq_true rfl) dX8_goBack_62 (fun H locs hP _ hS => ?_)
      have hP : va_P (dC, dI) vwCl (m_w kI kZ ad (um (us M_4 (((M_4.1 5 (ix ((18 * a1) + 17)))).toInt64)) 0 4 0).1 (um (us M_4 (((M_4.1 5 (ix ((18 * a1) + 17)))).toInt64)) 0 4 0).2) H := vp_eq (m_put8_4 (by decide) _) hP
      refine lv_iconst (v := 1) hx hb dX8_goBack_65 (by decide) ?_
      exact W.iret (v := 1) hx hb hr (fun t ht hW => ⟨⟨1, um (us M_4 (((M_4.1 5 (ix ((18 * a1) + 17)))).toInt64)) 0 4 0, rfl, Prod.mk.inj (Option.some.inj h), by rw [ht]; exact hP, m_KnW hKn t hW⟩, hS.F ht⟩) hS.2.2 dX8_goBack_66
    · have h := ife_t c_3 h
      refine lv_ldc hx hb hown (hg _ kc_X8_179) dX8_goBack_22 ?_
      exact W.iret (v := (-1000000003)) hx hb hr (fun t ht hW => ⟨⟨(-1000000003), M, rfl, Prod.mk.inj (Option.some.inj h), by rw [ht]; exact hP, m_KnW hKn t hW⟩, hS.F ht⟩) hS.2.2 dX8_goBack_24
  · have h := ife_t c_2 h
    refine lv_ldc hx hb hown (hg _ kc_X8_143) dX8_goBack_10 ?_
    exact W.iret (v := (-1000000001)) hx hb hr (fun t ht hW => ⟨⟨(-1000000001), M, rfl, Prod.mk.inj (Option.some.inj h), by rw [ht]; exact hP, m_KnW hKn t hW⟩, hS.F ht⟩) hS.2.2 dX8_goBack_12
noncomputable def FX8_goes (a1 : Int32) (M : MM) : Option (Int32 × MM) :=
  (if inb a1 5 then (if inb a1 5 then jn (α := Option (Int32 × MM)) (bo (FX8_copies 12 (17 * a1) 10 0 17 M) (fun (M_1 : MM) => jn (α := MM → Option (Int32 × MM)) (fun (M_2 : MM) => bo (FX8_copies 10 0 12 (17 * (a1 + 1)) 17 M_2) (fun (M_3 : MM) => (if inb a1 5 then jn (α := Int32 → Option (Int32 × MM)) (fun (s_4 : Int32) => (if inb (a1 + 1) 5 then some (1, um M_3 13 (ix (a1 + 1)) ((M_3.1 13 (ix a1)) ||| s_4)) else none)) (fun J145 => (if (M_3.1 1 2) ≤ (M.1 14 (ix a1)) then J145 0 else J145 (1 <<< ((M.1 14 (ix a1)) &&& 31)))) else none))) (fun J95 => (if (M_1.1 1 2) ≤ (M.1 14 (ix a1)) then J95 M_1 else bo (FX8_byOf (M.1 14 (ix a1)) M_1) (fun (r_7 : Int32) => bd (FX8_reads 10 (M.1 14 (ix a1)) r_7 M_1) (fun (r_8 : Int32) (M_9 : MM) => J95 M_9)))))) (fun J51 => (if (M.1 14 (ix a1)) = (M.1 1 2) then (if ((M.1 3 13) &&& ((M.1 13 (ix a1)) ^^^ (-1))) = 0 then J51 else some (0, M)) else bo (FX8_has ((M.1 3 13) &&& ((M.1 13 (ix a1)) ^^^ (-1))) (M.1 14 (ix a1))) (fun (r_11 : Int32) => (if r_11 = 0 then some (0, M) else J51)))) else none) else none)
set_option maxHeartbeats 4000000 in
set_option maxRecDepth 100000 in
theorem tX8_goes (l : Launch) (dC : Nat → ClassId) (dI : Nat → Nat → Nat) (kI kZ : ClassId) (ad : Nat → Nat) (a1 : Int32) (M : MM)  {r0 : Int32} {M0 : MM} (h : FX8_goes a1 M = some (r0, M0)) : Met l yX8_goes (wsA yX8_goes cX8_goes 5 (some .boolean)) ({ frames := 2, cells := 0, slots := 0, locals := 46 } : Room) (va_Pc [.ref (ad (0)), .int (a1)] (gI (m_Wd dC dI kI kZ ad) (m_Kn dC dI kI kZ ad) M)) (va_Qi (fun (r : Int32) (u : MM) => r = r0 ∧ u = M0) (gI (m_Wd dC dI kI kZ ad) (m_Kn dC dI kI kZ ad)) (m_A ad)) 0 0 (m_A ad) := by
  refine Met.ofW (cc := cX8_goes) (maxL := 5) (ret := (some .boolean)) (by decide) rfl ?_
  intro p e s m args below meth c s₁ B hml hv
  obtain ⟨rfl, hP, hKn⟩ := hv
  have hx := B.exec
  have hb := B.bytes
  have hr := B.returns
  have hts := atoms_spec (ws := wsA yX8_goes cX8_goes 5 (some .boolean)) B.pre
  have hg : ∀ w ∈ lw_good, w.before _ s = true := fun w h => hts w (List.mem_cons_of_mem _ h)
  have hown : s.vm.findClass RX8 = some m.cls := findClass_of_methodNamed B.named
  have hlocks := B.notSynchronized
  have hS : va_S (m_A ad) s.heap s.heap [] := va_S.rf
  have hFx : gFix p c cX8_goes 5 s m _ RX8 := ⟨hx, hb, hml, hown, hg⟩
  have hP : va_P (dC, dI) vwCl (m_w kI kZ ad M.1 M.2) s.heap := hP
  have hl := lv_entry ([.ref (ad (0)), .int (a1)]) (n := 5) (Nat.le_of_ble_eq_true rfl)
  rw [lg_entry_eq]
  generalize (lg_sl ([.ref (ad (0)), .int (a1)]) ++ List.replicate (5 - (lg_sl ([.ref (ad (0)), .int (a1)])).length) Slot.unset).toArray = ls at hl ⊢
  have hl : lv_has ls 5 [(0, .ref (ad (0))), (1, .int (a1))] := hl
  unfold FX8_goes at h
  refine lv_aload_n hx hb dX8_goes_0 rfl (lv_at hl 0 rfl) ?_
  refine va_get (D := (dC, dI)) (ci := 8) (v := .ref (ad (14))) (C := RX8) (T := TX8) (N := 29) hx hb hg inX8 hown hKn.1 hP (0) (m_at8 (c := 0) (by decide)) rfl 27 (Nat.le_of_ble_eq_true rfl) (hg _ lkF_X8_54) (fun _ h9 => h9) rfl dX8_goes_1 ?_
  refine lv_iload_n hx hb dX8_goes_4 rfl (lv_at hl 1 rfl) ?_
  obtain ⟨hi5, h⟩ := if_use h
  refine m_iald (M := M) (a := 14) hx hb hKn hP (by decide) (j := (ix a1)) rfl hi5 dX8_goes_5 ?_
  refine lv_istore_n (lv' := [(2, .int ((M.1 14 (ix a1)))), (0, .ref (ad (0))), (1, .int (a1))]) hx hb dX8_goes_6 rfl hl (Nat.le_of_ble_eq_true rfl) rfl (fun ls hl => ?_)
  refine lv_aload_n hx hb dX8_goes_7 rfl (lv_at hl 1 rfl) ?_
  refine va_get (D := (dC, dI)) (ci := 8) (v := .ref (ad (3))) (C := RX8) (T := TX8) (N := 29) hx hb hg inX8 hown hKn.1 hP (0) (m_at8 (c := 0) (by decide)) rfl 2 (Nat.le_of_ble_eq_true rfl) (hg _ lkF_X8_16) (fun _ h9 => h9) rfl dX8_goes_8 ?_
  refine lv_bipush (v := 13) hx hb dX8_goes_11 (by decide) ?_
  refine m_iald (M := M) (a := 3) hx hb hKn hP (by decide) (j := 13) (by decide) (by decide) dX8_goes_13 ?_
  refine lv_aload_n hx hb dX8_goes_14 rfl (lv_at hl 1 rfl) ?_
  refine va_get (D := (dC, dI)) (ci := 8) (v := .ref (ad (13))) (C := RX8) (T := TX8) (N := 29) hx hb hg inX8 hown hKn.1 hP (0) (m_at8 (c := 0) (by decide)) rfl 26 (Nat.le_of_ble_eq_true rfl) (hg _ lkF_X8_51) (fun _ h9 => h9) rfl dX8_goes_15 ?_
  refine lv_iload_n hx hb dX8_goes_18 rfl (lv_at hl 2 rfl) ?_
  obtain ⟨hi19, h⟩ := if_use h
  refine m_iald (M := M) (a := 13) hx hb hKn hP (by decide) (j := (ix a1)) rfl hi19 dX8_goes_19 ?_
  refine lv_iconst (v := -1) hx hb dX8_goes_20 (by decide) ?_
  refine lv_ixor hx hb dX8_goes_21 ?_
  refine lv_iand hx hb dX8_goes_22 ?_
  refine lv_istore_n (lv' := [(3, .int (((M.1 3 13) &&& ((M.1 13 (ix a1)) ^^^ (-1))))), (2, .int ((M.1 14 (ix a1)))), (0, .ref (ad (0))), (1, .int (a1))]) hx hb dX8_goes_23 rfl hl (Nat.le_of_ble_eq_true rfl) rfl (fun ls hl => ?_)
  refine lv_iload_n hx hb dX8_goes_24 rfl (lv_at hl 1 rfl) ?_
  refine lv_aload_n hx hb dX8_goes_25 rfl (lv_at hl 2 rfl) ?_
  refine va_get (D := (dC, dI)) (ci := 8) (v := .ref (ad (1))) (C := RX8) (T := TX8) (N := 29) hx hb hg inX8 hown hKn.1 hP (0) (m_at8 (c := 0) (by decide)) rfl 0 (Nat.le_of_ble_eq_true rfl) (hg _ lkF_X8_7) (fun _ h9 => h9) rfl dX8_goes_26 ?_
  refine lv_iconst (v := 2) hx hb dX8_goes_29 (by decide) ?_
  refine m_iald (M := M) (a := 1) hx hb hKn hP (by decide) (j := 2) (by decide) (by decide) dX8_goes_30 ?_
  obtain ⟨J51, eJ51, h⟩ := jn_use h
  have hJ51 : ∀  (H : Heap) (locs : List Loc) (ls : Array Slot), va_P (dC, dI) vwCl (m_w kI kZ ad M.1 M.2) H → va_S (m_A ad) s.heap H locs → lv_has ls 5 [(2, .int ((M.1 14 (ix a1)))), (0, .ref (ad (0))), (1, .int (a1))] → J51  = some (r0, M0) → W p l e (headSpec (wsA yX8_goes cX8_goes 5 (some .boolean)) ({ frames := 2, cells := 0, slots := 0, locals := 46 } : Room)).room s m (([.ref (ad (0)), .int (a1)] : List Value).toArray) below meth c H locs 0 0 (MQ below (va_Qi (fun (r : Int32) (u : MM) => r = r0 ∧ u = M0) (gI (m_Wd dC dI kI kZ ad) (m_Kn dC dI kI kZ ad)) (m_A ad)) (([.ref (ad (0)), .int (a1)] : List Value).toArray) s 0 0 (m_A ad)) (F0 m 51 ls []) := by
    intro  H locs ls hP hS hl h
    have h := useK0 eJ51 h
    refine lv_aload_n hx hb dX8_goes_51 rfl (lv_at hl 1 rfl) ?_
    refine va_get (D := (dC, dI)) (ci := 8) (v := .ref (ad (12))) (C := RX8) (T := TX8) (N := 29) hx hb hg inX8 hown hKn.1 hP (0) (m_at8 (c := 0) (by decide)) rfl 25 (Nat.le_of_ble_eq_true rfl) (hg _ lkF_X8_48) (fun _ h9 => h9) rfl dX8_goes_52 ?_
    refine lv_bipush (v := 17) hx hb dX8_goes_55 (by decide) ?_
    refine lv_iload_n hx hb dX8_goes_57 rfl (lv_at hl 2 rfl) ?_
    refine lv_imul hx hb dX8_goes_58 ?_
    refine lv_aload_n hx hb dX8_goes_59 rfl (lv_at hl 1 rfl) ?_
    refine va_get (D := (dC, dI)) (ci := 8) (v := .ref (ad (10))) (C := RX8) (T := TX8) (N := 29) hx hb hg inX8 hown hKn.1 hP (0) (m_at8 (c := 0) (by decide)) rfl 21 (Nat.le_of_ble_eq_true rfl) (hg _ lkF_X8_42) (fun _ h9 => h9) rfl dX8_goes_60 ?_
    refine lv_iconst (v := 0) hx hb dX8_goes_63 (by decide) ?_
    refine lv_bipush (v := 17) hx hb dX8_goes_64 (by decide) ?_
    obtain ⟨M_1, e66, h⟩ := bo_use h
    refine gc_v (va_runS (As := [.ref (ad (12)), .int ((17 * a1)), .ref (ad (10)), .int (0), .int (17)]) (rest := []) hFx (tX8_copies l dC dI kI kZ ad 12 (17 * a1) 10 0 17 M (by decide) (by decide) e66) ⟨(gc_B hFx ck_yX8_copies lkM_X8_165 ⟨Nat.le_of_ble_eq_true rfl, Nat.le_of_ble_eq_true rfl⟩ rfl rfl), hg _ st_yX8_copies⟩ (gp_S m_KnB (m_KnW hKn) hP) rfl rfl hl.1 rfl (lv_room (Nat.le_of_ble_eq_true rfl)) dX8_goes_66 ⟨Nat.zero_le _, Nat.zero_le _⟩) hS (fun H locs hP hS => ?_)
    have hP : va_P (dC, dI) vwCl (m_w kI kZ ad M_1.1 M_1.2) H := hP
    refine lv_iload_n hx hb dX8_goes_69 rfl (lv_at hl 0 rfl) ?_
    refine lv_aload_n hx hb dX8_goes_70 rfl (lv_at hl 1 rfl) ?_
    refine va_get (D := (dC, dI)) (ci := 8) (v := .ref (ad (1))) (C := RX8) (T := TX8) (N := 29) hx hb hg inX8 hown hKn.1 hP (0) (m_at8 (c := 0) (by decide)) rfl 0 (Nat.le_of_ble_eq_true rfl) (hg _ lkF_X8_7) (fun _ h9 => h9) rfl dX8_goes_71 ?_
    refine lv_iconst (v := 2) hx hb dX8_goes_74 (by decide) ?_
    refine m_iald (M := M_1) (a := 1) hx hb hKn hP (by decide) (j := 2) (by decide) (by decide) dX8_goes_75 ?_
    obtain ⟨J95, eJ95, h⟩ := jn_use h
    have hJ95 : ∀ (M_2 : MM) (H : Heap) (locs : List Loc) (ls : Array Slot), va_P (dC, dI) vwCl (m_w kI kZ ad M_2.1 M_2.2) H → va_S (m_A ad) s.heap H locs → lv_has ls 5 [(2, .int ((M.1 14 (ix a1)))), (0, .ref (ad (0))), (1, .int (a1))] → J95 M_2 = some (r0, M0) → W p l e (headSpec (wsA yX8_goes cX8_goes 5 (some .boolean)) ({ frames := 2, cells := 0, slots := 0, locals := 46 } : Room)).room s m (([.ref (ad (0)), .int (a1)] : List Value).toArray) below meth c H locs 0 0 (MQ below (va_Qi (fun (r : Int32) (u : MM) => r = r0 ∧ u = M0) (gI (m_Wd dC dI kI kZ ad) (m_Kn dC dI kI kZ ad)) (m_A ad)) (([.ref (ad (0)), .int (a1)] : List Value).toArray) s 0 0 (m_A ad)) (F0 m 95 ls []) := by
      intro M_2 H locs ls hP hS hl h
      have h := useK1 eJ95 h
      refine lv_aload_n hx hb dX8_goes_95 rfl (lv_at hl 1 rfl) ?_
      refine va_get (D := (dC, dI)) (ci := 8) (v := .ref (ad (10))) (C := RX8) (T := TX8) (N := 29) hx hb hg inX8 hown hKn.1 hP (0) (m_at8 (c := 0) (by decide)) rfl 21 (Nat.le_of_ble_eq_true rfl) (hg _ lkF_X8_42) (fun _ h9 => h9) rfl dX8_goes_96 ?_
      refine lv_iconst (v := 0) hx hb dX8_goes_99 (by decide) ?_
      refine lv_aload_n hx hb dX8_goes_100 rfl (lv_at hl 1 rfl) ?_
      refine va_get (D := (dC, dI)) (ci := 8) (v := .ref (ad (12))) (C := RX8) (T := TX8) (N := 29) hx hb hg inX8 hown hKn.1 hP (0) (m_at8 (c := 0) (by decide)) rfl 25 (Nat.le_of_ble_eq_true rfl) (hg _ lkF_X8_48) (fun _ h9 => h9) rfl dX8_goes_101 ?_
      refine lv_bipush (v := 17) hx hb dX8_goes_104 (by decide) ?_
      refine lv_iload_n hx hb dX8_goes_106 rfl (lv_at hl 2 rfl) ?_
      refine lv_iconst (v := 1) hx hb dX8_goes_107 (by decide) ?_
      refine lv_iadd hx hb dX8_goes_108 ?_
      refine lv_imul hx hb dX8_goes_109 ?_
      refine lv_bipush (v := 17) hx hb dX8_goes_110 (by decide) ?_
      obtain ⟨M_3, e112, h⟩ := bo_use h
      refine gc_v (va_runS (As := [.ref (ad (10)), .int (0), .ref (ad (12)), .int ((17 * (a1 + 1))), .int (17)]) (rest := []) hFx (tX8_copies l dC dI kI kZ ad 10 0 12 (17 * (a1 + 1)) 17 M_2 (by decide) (by decide) e112) ⟨(gc_B hFx ck_yX8_copies lkM_X8_165 ⟨Nat.le_of_ble_eq_true rfl, Nat.le_of_ble_eq_true rfl⟩ rfl rfl), hg _ st_yX8_copies⟩ (gp_S m_KnB (m_KnW hKn) hP) rfl rfl hl.1 rfl (lv_room (Nat.le_of_ble_eq_true rfl)) dX8_goes_112 ⟨Nat.zero_le _, Nat.zero_le _⟩) hS (fun H locs hP hS => ?_)
      have hP : va_P (dC, dI) vwCl (m_w kI kZ ad M_3.1 M_3.2) H := hP
      refine lv_aload_n hx hb dX8_goes_115 rfl (lv_at hl 1 rfl) ?_
      refine va_get (D := (dC, dI)) (ci := 8) (v := .ref (ad (13))) (C := RX8) (T := TX8) (N := 29) hx hb hg inX8 hown hKn.1 hP (0) (m_at8 (c := 0) (by decide)) rfl 26 (Nat.le_of_ble_eq_true rfl) (hg _ lkF_X8_51) (fun _ h9 => h9) rfl dX8_goes_116 ?_
      refine lv_iload_n hx hb dX8_goes_119 rfl (lv_at hl 2 rfl) ?_
      refine lv_iconst (v := 1) hx hb dX8_goes_120 (by decide) ?_
      refine lv_iadd hx hb dX8_goes_121 ?_
      refine lv_aload_n hx hb dX8_goes_122 rfl (lv_at hl 1 rfl) ?_
      refine va_get (D := (dC, dI)) (ci := 8) (v := .ref (ad (13))) (C := RX8) (T := TX8) (N := 29) hx hb hg inX8 hown hKn.1 hP (0) (m_at8 (c := 0) (by decide)) rfl 26 (Nat.le_of_ble_eq_true rfl) (hg _ lkF_X8_51) (fun _ h9 => h9) rfl dX8_goes_123 ?_
      refine lv_iload_n hx hb dX8_goes_126 rfl (lv_at hl 2 rfl) ?_
      obtain ⟨hi127, h⟩ := if_use h
      refine m_iald (M := M_3) (a := 13) hx hb hKn hP (by decide) (j := (ix a1)) rfl hi127 dX8_goes_127 ?_
      refine lv_iload_n hx hb dX8_goes_128 rfl (lv_at hl 0 rfl) ?_
      refine lv_aload_n hx hb dX8_goes_129 rfl (lv_at hl 1 rfl) ?_
      refine va_get (D := (dC, dI)) (ci := 8) (v := .ref (ad (1))) (C := RX8) (T := TX8) (N := 29) hx hb hg inX8 hown hKn.1 hP (0) (m_at8 (c := 0) (by decide)) rfl 0 (Nat.le_of_ble_eq_true rfl) (hg _ lkF_X8_7) (fun _ h9 => h9) rfl dX8_goes_130 ?_
      refine lv_iconst (v := 2) hx hb dX8_goes_133 (by decide) ?_
      refine m_iald (M := M_3) (a := 1) hx hb hKn hP (by decide) (j := 2) (by decide) (by decide) dX8_goes_134 ?_
      obtain ⟨J145, eJ145, h⟩ := jn_use h
      have hJ145 : ∀ (s_4 : Int32) (H : Heap) (locs : List Loc) (ls : Array Slot), va_P (dC, dI) vwCl (m_w kI kZ ad M_3.1 M_3.2) H → va_S (m_A ad) s.heap H locs → lv_has ls 5 [] → J145 s_4 = some (r0, M0) → W p l e (headSpec (wsA yX8_goes cX8_goes 5 (some .boolean)) ({ frames := 2, cells := 0, slots := 0, locals := 46 } : Room)).room s m (([.ref (ad (0)), .int (a1)] : List Value).toArray) below meth c H locs 0 0 (MQ below (va_Qi (fun (r : Int32) (u : MM) => r = r0 ∧ u = M0) (gI (m_Wd dC dI kI kZ ad) (m_Kn dC dI kI kZ ad)) (m_A ad)) (([.ref (ad (0)), .int (a1)] : List Value).toArray) s 0 0 (m_A ad)) (F0 m 145 ls [.int (s_4), .int ((M_3.1 13 (ix a1))), .int ((a1 + 1)), .ref (ad (13))]) := by
        intro s_4 H locs ls hP hS hl h
        have h := useK1 eJ145 h
        refine lv_ior hx hb dX8_goes_145 ?_
        obtain ⟨hi146, h⟩ := if_use h
        refine m_iast (M := M_3) (a := 13) hx hb hKn hP hS (by decide) (x := ((M_3.1 13 (ix a1)) ||| s_4)) (j := (ix (a1 + 1))) rfl hi146 dX8_goes_146 (fun H locs hP hS => ?_)
        have hP : va_P (dC, dI) vwCl (m_w kI kZ ad (um M_3 13 (ix (a1 + 1)) ((M_3.1 13 (ix a1)) ||| s_4)).1 (um M_3 13 (ix (a1 + 1)) ((M_3.1 13 (ix a1)) ||| s_4)).2) H := hP
        refine lv_iconst (v := 1) hx hb dX8_goes_147 (by decide) ?_
        exact W.zret (v := 1) hx hb hr rfl (fun t ht hW => ⟨⟨1, um M_3 13 (ix (a1 + 1)) ((M_3.1 13 (ix a1)) ||| s_4), rfl, Prod.mk.inj (Option.some.inj h), by rw [ht]; exact hP, m_KnW hKn t hW⟩, hS.F ht⟩) hS.2.2 dX8_goes_148
      refine lv_icmp_ge (tgt := 144) hx hb dX8_goes_135 (by decide) (fun c_5 => ?_) (fun c_5 => ?_)
      · have h := ife_t c_5 h
        refine lv_iconst (v := 0) hx hb dX8_goes_144 (by decide) ?_
        exact hJ145 0 _ _ _ hP hS (lv_sub hl [] rfl) h
      · have h := ife_f c_5 h
        refine lv_iconst (v := 1) hx hb dX8_goes_138 (by decide) ?_
        refine lv_iload_n hx hb dX8_goes_139 rfl (lv_at hl 0 rfl) ?_
        refine lv_ishl hx hb dX8_goes_140 ?_
        refine lv_goto (tgt := 145) hx hb dX8_goes_141 (by decide) ?_
        exact hJ145 (1 <<< ((M.1 14 (ix a1)) &&& 31)) _ _ _ hP hS (lv_sub hl [] rfl) h
    refine lv_icmp_ge (tgt := 95) hx hb dX8_goes_76 (by decide) (fun c_6 => ?_) (fun c_6 => ?_)
    · have h := ife_t c_6 h
      exact hJ95 M_1 _ _ _ hP hS (lv_sub hl [0, 1, 2] rfl) h
    · have h := ife_f c_6 h
      refine lv_aload_n hx hb dX8_goes_79 rfl (lv_at hl 1 rfl) ?_
      refine lv_aload_n hx hb dX8_goes_80 rfl (lv_at hl 1 rfl) ?_
      refine va_get (D := (dC, dI)) (ci := 8) (v := .ref (ad (10))) (C := RX8) (T := TX8) (N := 29) hx hb hg inX8 hown hKn.1 hP (0) (m_at8 (c := 0) (by decide)) rfl 21 (Nat.le_of_ble_eq_true rfl) (hg _ lkF_X8_42) (fun _ h9 => h9) rfl dX8_goes_81 ?_
      refine lv_iload_n hx hb dX8_goes_84 rfl (lv_at hl 0 rfl) ?_
      refine lv_aload_n hx hb dX8_goes_85 rfl (lv_at hl 1 rfl) ?_
      refine lv_iload_n hx hb dX8_goes_86 rfl (lv_at hl 0 rfl) ?_
      obtain ⟨r_7, e87, h⟩ := bo_use h
      refine gc_i (va_runV (As := [.int ((M.1 14 (ix a1)))]) (rest := [.int ((M.1 14 (ix a1))), .ref (ad (10)), .ref (ad (0))]) hFx (tX8_byOf l dC dI kI kZ ad (M.1 14 (ix a1)) M_1  e87) ⟨(gc_B hFx ck_yX8_byOf lkM_X8_155 ⟨Nat.le_of_ble_eq_true rfl, Nat.le_of_ble_eq_true rfl⟩ rfl rfl), hg _ vi_yX8_byOf, hg _ vs_yX8_byOf⟩ (gp_V m_KnB (m_KnW hKn) hP (m_rc8 (c := 0) (by decide) hKn hP)) rfl rfl hl.1 rfl (lv_room (Nat.le_of_ble_eq_true rfl)) dX8_goes_87 ⟨Nat.zero_le _, Nat.zero_le _⟩) hS (fun H locs hP hS => ?_)
      have hP : va_P (dC, dI) vwCl (m_w kI kZ ad M_1.1 M_1.2) H := hP
      obtain ⟨r_8, M_9, e90, h⟩ := bd_use h
      refine gc_i (va_runV (As := [.ref (ad (10)), .int ((M.1 14 (ix a1))), .int (r_7)]) (rest := []) hFx (tX8_reads l dC dI kI kZ ad 10 (M.1 14 (ix a1)) r_7 M_1 (by decide) e90) ⟨(gc_B hFx ck_yX8_reads lkM_X8_158 ⟨Nat.le_of_ble_eq_true rfl, Nat.le_of_ble_eq_true rfl⟩ rfl rfl), hg _ vi_yX8_reads, hg _ vs_yX8_reads⟩ (gp_V m_KnB (m_KnW hKn) hP (m_rc8 (c := 0) (by decide) hKn hP)) rfl rfl hl.1 rfl (lv_room (Nat.le_of_ble_eq_true rfl)) dX8_goes_90 ⟨Nat.zero_le _, Nat.zero_le _⟩) hS (fun H locs hP hS => ?_)
      have hP : va_P (dC, dI) vwCl (m_w kI kZ ad M_9.1 M_9.2) H := hP
      refine lv_istore (lv' := [(4, .int (r_8)), (2, .int ((M.1 14 (ix a1)))), (0, .ref (ad (0))), (1, .int (a1))]) hx hb dX8_goes_93 hl (Nat.le_of_ble_eq_true rfl) rfl (fun ls hl => ?_)
      exact hJ95 M_9 _ _ _ hP hS (lv_sub hl [1, 2, 3] rfl) h
  refine lv_icmp_ne (tgt := 41) hx hb dX8_goes_31 (by decide) (fun c_10 => ?_) (fun c_10 => ?_)
  · have h := ife_f c_10 h
    refine lv_iload_n hx hb dX8_goes_41 rfl (lv_at hl 0 rfl) ?_
    refine lv_iload_n hx hb dX8_goes_42 rfl (lv_at hl 1 rfl) ?_
    obtain ⟨r_11, e43, h⟩ := bo_use h
    refine gc_i (va_runS (As := [.int (((M.1 3 13) &&& ((M.1 13 (ix a1)) ^^^ (-1)))), .int ((M.1 14 (ix a1)))]) (rest := []) hFx (tX8_has l dC dI kI kZ ad ((M.1 3 13) &&& ((M.1 13 (ix a1)) ^^^ (-1))) (M.1 14 (ix a1)) M  e43) ⟨(gc_B hFx ck_yX8_has lkM_X8_147 ⟨Nat.le_of_ble_eq_true rfl, Nat.le_of_ble_eq_true rfl⟩ rfl rfl), hg _ st_yX8_has⟩ (gp_S m_KnB (m_KnW hKn) hP) rfl rfl hl.1 rfl (lv_room (Nat.le_of_ble_eq_true rfl)) dX8_goes_43 ⟨Nat.zero_le _, Nat.zero_le _⟩) hS (fun H locs hP hS => ?_)
    have hP : va_P (dC, dI) vwCl (m_w kI kZ ad M.1 M.2) H := hP
    refine lv_if_ne (tgt := 51) hx hb dX8_goes_46 (by decide) (fun c_12 => ?_) (fun c_12 => ?_)
    · have h := ife_f c_12 h
      exact hJ51 _ _ _ hP hS (lv_sub hl [1, 2, 3] rfl) h
    · have h := ife_t c_12 h
      refine lv_iconst (v := 0) hx hb dX8_goes_49 (by decide) ?_
      exact W.zret (v := 0) hx hb hr rfl (fun t ht hW => ⟨⟨0, M, rfl, Prod.mk.inj (Option.some.inj h), by rw [ht]; exact hP, m_KnW hKn t hW⟩, hS.F ht⟩) hS.2.2 dX8_goes_50
  · have h := ife_t c_10 h
    refine lv_iload_n hx hb dX8_goes_34 rfl (lv_at hl 0 rfl) ?_
    refine lv_if_eq (tgt := 51) hx hb dX8_goes_35 (by decide) (fun c_13 => ?_) (fun c_13 => ?_)
    · have h := ife_t c_13 h
      exact hJ51 _ _ _ hP hS (lv_sub hl [1, 2, 3] rfl) h
    · have h := ife_f c_13 h
      refine lv_goto (tgt := 49) hx hb dX8_goes_38 (by decide) ?_
      refine lv_iconst (v := 0) hx hb dX8_goes_49 (by decide) ?_
      exact W.zret (v := 0) hx hb hr rfl (fun t ht hW => ⟨⟨0, M, rfl, Prod.mk.inj (Option.some.inj h), by rw [ht]; exact hP, m_KnW hKn t hW⟩, hS.F ht⟩) hS.2.2 dX8_goes_50
noncomputable def FX8_holds_L34 (b1 : Int32) (b2 : Int32) (K : Int64 → Option Int32) (k : Nat) (v3_6 : Int64) (v5_7 : Int32) : Option Int32 := match k with
  | 0 => none
  | k + 1 => (if b1 ≤ v5_7 then K v3_6 else FX8_holds_L34 b1 b2 K k ((v3_6 * (((100 - b2)).toInt64)) / 100) (v5_7 + 1))
noncomputable def FX8_holds (a1 : Int32) (a2 : Int32) : Option Int32 :=
  bo (FX8_in ((a1).toInt64) 0 60) (fun (r_1 : Int32) => (if r_1 = 0 then some (-1000000002) else bo (FX8_in ((a2).toInt64) 0 100) (fun (r_3 : Int32) => (if r_3 = 0 then some (-1000000002) else FX8_holds_L34 a1 a2 (fun (k3_5 : Int64) => some (Int64.toInt32 k3_5)) fuelN 1000000000 0))))
set_option maxHeartbeats 4000000 in
set_option maxRecDepth 100000 in
theorem tX8_holds (l : Launch) (dC : Nat → ClassId) (dI : Nat → Nat → Nat) (kI kZ : ClassId) (ad : Nat → Nat) (a1 : Int32) (a2 : Int32) (M : MM)  {r0 : Int32} (h : FX8_holds a1 a2 = some r0) : Met l yX8_holds (wsA yX8_holds cX8_holds 6 (some .int)) ({ frames := 1, cells := 0, slots := 0, locals := 25 } : Room) (va_Pc [.ref (ad (0)), .int (a1), .int (a2)] (gI (m_Wd dC dI kI kZ ad) (m_Kn dC dI kI kZ ad) M)) (va_Qi (fun (r : Int32) (u : MM) => r = r0 ∧ u = M) (gI (m_Wd dC dI kI kZ ad) (m_Kn dC dI kI kZ ad)) (m_A ad)) 0 0 (m_A ad) := by
  refine Met.ofW (cc := cX8_holds) (maxL := 6) (ret := (some .int)) (by decide) rfl ?_
  intro p e s m args below meth c s₁ B hml hv
  obtain ⟨rfl, hP, hKn⟩ := hv
  have hx := B.exec
  have hb := B.bytes
  have hr := B.returns
  have hts := atoms_spec (ws := wsA yX8_holds cX8_holds 6 (some .int)) B.pre
  have hg : ∀ w ∈ lw_good, w.before _ s = true := fun w h => hts w (List.mem_cons_of_mem _ h)
  have hown : s.vm.findClass RX8 = some m.cls := findClass_of_methodNamed B.named
  have hlocks := B.notSynchronized
  have hS : va_S (m_A ad) s.heap s.heap [] := va_S.rf
  have hFx : gFix p c cX8_holds 6 s m _ RX8 := ⟨hx, hb, hml, hown, hg⟩
  have hP : va_P (dC, dI) vwCl (m_w kI kZ ad M.1 M.2) s.heap := hP
  have hl := lv_entry ([.ref (ad (0)), .int (a1), .int (a2)]) (n := 6) (Nat.le_of_ble_eq_true rfl)
  rw [lg_entry_eq]
  generalize (lg_sl ([.ref (ad (0)), .int (a1), .int (a2)]) ++ List.replicate (6 - (lg_sl ([.ref (ad (0)), .int (a1), .int (a2)])).length) Slot.unset).toArray = ls at hl ⊢
  have hl : lv_has ls 6 [(0, .ref (ad (0))), (1, .int (a1)), (2, .int (a2))] := hl
  unfold FX8_holds at h
  refine lv_iload_n hx hb dX8_holds_0 rfl (lv_at hl 1 rfl) ?_
  refine lv_i2l (v := ((a1).toInt64)) hx hb dX8_holds_1 rfl ?_
  refine lv_lconst (v := 0) hx hb dX8_holds_2 (by decide) ?_
  refine lv_ldc2 hx hb hown (hg _ kc_X8_202) dX8_holds_3 ?_
  obtain ⟨r_1, e6, h⟩ := bo_use h
  refine gc_i (va_runS (As := [.long (((a1).toInt64)), .long (0), .long (60)]) (rest := []) hFx (tX8_in l dC dI kI kZ ad ((a1).toInt64) 0 60 M  e6) ⟨(gc_B hFx ck_yX8_in lkM_X8_74 ⟨Nat.le_of_ble_eq_true rfl, Nat.le_of_ble_eq_true rfl⟩ rfl rfl), hg _ st_yX8_in⟩ (gp_S m_KnB (m_KnW hKn) hP) rfl rfl hl.1 rfl (lv_room (Nat.le_of_ble_eq_true rfl)) dX8_holds_6 ⟨Nat.zero_le _, Nat.zero_le _⟩) hS (fun H locs hP hS => ?_)
  have hP : va_P (dC, dI) vwCl (m_w kI kZ ad M.1 M.2) H := hP
  refine lv_if_eq (tgt := 24) hx hb dX8_holds_9 (by decide) (fun c_2 => ?_) (fun c_2 => ?_)
  · have h := ife_t c_2 h
    refine lv_ldc hx hb hown (hg _ kc_X8_78) dX8_holds_24 ?_
    exact W.iret (v := (-1000000002)) hx hb hr (fun t ht hW => ⟨⟨(-1000000002), M, rfl, ⟨Option.some.inj h, rfl⟩, by rw [ht]; exact hP, m_KnW hKn t hW⟩, hS.F ht⟩) hS.2.2 dX8_holds_26
  · have h := ife_f c_2 h
    refine lv_iload_n hx hb dX8_holds_12 rfl (lv_at hl 2 rfl) ?_
    refine lv_i2l (v := ((a2).toInt64)) hx hb dX8_holds_13 rfl ?_
    refine lv_lconst (v := 0) hx hb dX8_holds_14 (by decide) ?_
    refine lv_ldc2 hx hb hown (hg _ kc_X8_245) dX8_holds_15 ?_
    obtain ⟨r_3, e18, h⟩ := bo_use h
    refine gc_i (va_runS (As := [.long (((a2).toInt64)), .long (0), .long (100)]) (rest := []) hFx (tX8_in l dC dI kI kZ ad ((a2).toInt64) 0 100 M  e18) ⟨(gc_B hFx ck_yX8_in lkM_X8_74 ⟨Nat.le_of_ble_eq_true rfl, Nat.le_of_ble_eq_true rfl⟩ rfl rfl), hg _ st_yX8_in⟩ (gp_S m_KnB (m_KnW hKn) hP) rfl rfl hl.1 rfl (lv_room (Nat.le_of_ble_eq_true rfl)) dX8_holds_18 ⟨Nat.zero_le _, Nat.zero_le _⟩) hS (fun H locs hP hS => ?_)
    have hP : va_P (dC, dI) vwCl (m_w kI kZ ad M.1 M.2) H := hP
    refine lv_if_ne (tgt := 27) hx hb dX8_holds_21 (by decide) (fun c_4 => ?_) (fun c_4 => ?_)
    · have h := ife_f c_4 h
      refine lv_ldc2 hx hb hown (hg _ kc_X8_247) dX8_holds_27 ?_
      refine lv_lstore_n (lv' := [(3, .long (1000000000)), (0, .ref (ad (0))), (1, .int (a1)), (2, .int (a2))]) hx hb dX8_holds_30 rfl hl (Nat.le_of_ble_eq_true rfl) rfl (fun ls hl => ?_)
      refine lv_iconst (v := 0) hx hb dX8_holds_31 (by decide) ?_
      refine lv_istore (lv' := [(5, .int (0)), (3, .long (1000000000)), (0, .ref (ad (0))), (1, .int (a1)), (2, .int (a2))]) hx hb dX8_holds_32 hl (Nat.le_of_ble_eq_true rfl) rfl (fun ls hl => ?_)
      obtain ⟨K34, eK34, h⟩ := exK (Lp := fun K => FX8_holds_L34 a1 a2 K fuelN 1000000000 0) h
      have hK34 : ∀ (k3_5 : Int64) (H : Heap) (locs : List Loc) (ls : Array Slot), va_P (dC, dI) vwCl (m_w kI kZ ad M.1 M.2) H → va_S (m_A ad) s.heap H locs → lv_has ls 6 [(3, .long (k3_5))] → K34 k3_5 = some r0 → W p l e (headSpec (wsA yX8_holds cX8_holds 6 (some .int)) ({ frames := 1, cells := 0, slots := 0, locals := 25 } : Room)).room s m (([.ref (ad (0)), .int (a1), .int (a2)] : List Value).toArray) below meth c H locs 0 0 (MQ below (va_Qi (fun (r : Int32) (u : MM) => r = r0 ∧ u = M) (gI (m_Wd dC dI kI kZ ad) (m_Kn dC dI kI kZ ad)) (m_A ad)) (([.ref (ad (0)), .int (a1), .int (a2)] : List Value).toArray) s 0 0 (m_A ad)) (F0 m 58 ls []) := by
        intro k3_5 H locs ls hP hS hl h
        have h := useK1 eK34 h
        refine lv_lload_n hx hb dX8_holds_58 rfl (lv_at hl 0 rfl) ?_
        refine lv_l2i (v := (Int64.toInt32 k3_5)) hx hb dX8_holds_59 rfl ?_
        exact W.iret (v := (Int64.toInt32 k3_5)) hx hb hr (fun t ht hW => ⟨⟨(Int64.toInt32 k3_5), M, rfl, ⟨Option.some.inj h, rfl⟩, by rw [ht]; exact hP, m_KnW hKn t hW⟩, hS.F ht⟩) hS.2.2 dX8_holds_60
      have hL34 : ∀ (k : Nat) (v3_6 : Int64) (v5_7 : Int32) (H : Heap) (locs : List Loc) (ls : Array Slot), va_P (dC, dI) vwCl (m_w kI kZ ad M.1 M.2) H → va_S (m_A ad) s.heap H locs → lv_has ls 6 [(1, .int (a1)), (2, .int (a2)), (3, .long (v3_6)), (5, .int (v5_7))] → FX8_holds_L34 a1 a2 K34 k v3_6 v5_7 = some r0 → W p l e (headSpec (wsA yX8_holds cX8_holds 6 (some .int)) ({ frames := 1, cells := 0, slots := 0, locals := 25 } : Room)).room s m (([.ref (ad (0)), .int (a1), .int (a2)] : List Value).toArray) below meth c H locs 0 0 (MQ below (va_Qi (fun (r : Int32) (u : MM) => r = r0 ∧ u = M) (gI (m_Wd dC dI kI kZ ad) (m_Kn dC dI kI kZ ad)) (m_A ad)) (([.ref (ad (0)), .int (a1), .int (a2)] : List Value).toArray) s 0 0 (m_A ad)) (F0 m 34 ls []) := by
        intro k
        induction k with
        | zero => intro v3_6 v5_7 H locs ls hP hS hl h; cases h
        | succ k ih34 =>
          intro v3_6 v5_7 H locs ls hP hS hl h
          unfold FX8_holds_L34 at h
          refine lv_iload hx hb dX8_holds_34 (lv_at hl 3 rfl) ?_
          refine lv_iload_n hx hb dX8_holds_36 rfl (lv_at hl 0 rfl) ?_
          refine lv_icmp_ge (tgt := 58) hx hb dX8_holds_37 (by decide) (fun c_8 => ?_) (fun c_8 => ?_)
          · have h := ife_t c_8 h
            exact hK34 v3_6 _ _ _ hP hS (lv_sub hl [2] rfl) h
          · have h := ife_f c_8 h
            refine lv_lload_n hx hb dX8_holds_40 rfl (lv_at hl 2 rfl) ?_
            refine lv_bipush (v := 100) hx hb dX8_holds_41 (by decide) ?_
            refine lv_iload_n hx hb dX8_holds_43 rfl (lv_at hl 1 rfl) ?_
            refine lv_isub hx hb dX8_holds_44 ?_
            refine lv_i2l (v := (((100 - a2)).toInt64)) hx hb dX8_holds_45 rfl ?_
            refine lv_lmul hx hb dX8_holds_46 ?_
            refine lv_ldc2 hx hb hown (hg _ kc_X8_245) dX8_holds_47 ?_
            refine lv_ldiv hx hb dX8_holds_50 (by decide) ?_
            refine lv_lstore_n (lv' := [(3, .long (((v3_6 * (((100 - a2)).toInt64)) / 100))), (1, .int (a1)), (2, .int (a2)), (5, .int (v5_7))]) hx hb dX8_holds_51 rfl hl (Nat.le_of_ble_eq_true rfl) rfl (fun ls hl => ?_)
            refine lv_iinc (v := (v5_7 + 1)) (lv' := [(5, .int ((v5_7 + 1))), (3, .long (((v3_6 * (((100 - a2)).toInt64)) / 100))), (1, .int (a1)), (2, .int (a2))]) hx hb dX8_holds_52 hl (k := 3) rfl rfl (Nat.le_of_ble_eq_true rfl) rfl (fun ls hl => ?_)
            refine lv_goto (tgt := 34) hx hb dX8_holds_55 (by decide) ?_
            exact ih34 ((v3_6 * (((100 - a2)).toInt64)) / 100) (v5_7 + 1) _ _ _ hP hS (lv_sub hl [2, 3, 1, 0] rfl) h
      exact hL34 fuelN 1000000000 0 _ _ _ hP hS (lv_sub hl [3, 4, 1, 0] rfl) h
    · have h := ife_t c_4 h
      refine lv_ldc hx hb hown (hg _ kc_X8_78) dX8_holds_24 ?_
      exact W.iret (v := (-1000000002)) hx hb hr (fun t ht hW => ⟨⟨(-1000000002), M, rfl, ⟨Option.some.inj h, rfl⟩, by rw [ht]; exact hP, m_KnW hKn t hW⟩, hS.F ht⟩) hS.2.2 dX8_holds_26
noncomputable def FX8_isThought_L4 (M : MM) (K : Int32 → Option Int32) (k : Nat) (v1_2 : Int32) (v2_3 : Int32) : Option Int32 := match k with
  | 0 => none
  | k + 1 => (if (M.1 0 12) ≤ v2_3 then K v1_2 else jn (α := Int32 → Option Int32) (fun (s_5 : Int32) => FX8_isThought_L4 M K k s_5 (v2_3 + 1)) (fun J47 => jn (α := Option Int32) (J47 0) (fun J46 => (if v1_2 = 0 then J46 else (if inb (2 * v2_3) 12 then (if inb (M.1 8 (ix (2 * v2_3))) 17 then (if inb ((2 * v2_3) + 1) 12 then (if (M.1 10 (ix (M.1 8 (ix (2 * v2_3))))) = (M.1 8 (ix ((2 * v2_3) + 1))) then J47 1 else J46) else none) else none) else none)))))
noncomputable def FX8_isThought  (M : MM) : Option Int32 :=
  FX8_isThought_L4 M (fun (k1_1 : Int32) => if bo01 k1_1 then some k1_1 else none) fuelN 1 0
set_option maxHeartbeats 4000000 in
set_option maxRecDepth 100000 in
theorem tX8_isThought (l : Launch) (dC : Nat → ClassId) (dI : Nat → Nat → Nat) (kI kZ : ClassId) (ad : Nat → Nat)  (M : MM)  {r0 : Int32} (h : FX8_isThought  M = some r0) : Met l yX8_isThought (wsA yX8_isThought cX8_isThought 3 (some .boolean)) ({ frames := 0, cells := 0, slots := 0, locals := 0 } : Room) (va_Pc [.ref (ad (0))] (gI (m_Wd dC dI kI kZ ad) (m_Kn dC dI kI kZ ad) M)) (va_Qi (fun (r : Int32) (u : MM) => r = r0 ∧ u = M) (gI (m_Wd dC dI kI kZ ad) (m_Kn dC dI kI kZ ad)) (m_A ad)) 0 0 (m_A ad) := by
  refine Met.ofW (cc := cX8_isThought) (maxL := 3) (ret := (some .boolean)) (by decide) rfl ?_
  intro p e s m args below meth c s₁ B hml hv
  obtain ⟨rfl, hP, hKn⟩ := hv
  have hx := B.exec
  have hb := B.bytes
  have hr := B.returns
  have hts := atoms_spec (ws := wsA yX8_isThought cX8_isThought 3 (some .boolean)) B.pre
  have hg : ∀ w ∈ lw_good, w.before _ s = true := fun w h => hts w (List.mem_cons_of_mem _ h)
  have hown : s.vm.findClass RX8 = some m.cls := findClass_of_methodNamed B.named
  have hlocks := B.notSynchronized
  have hS : va_S (m_A ad) s.heap s.heap [] := va_S.rf
  have hFx : gFix p c cX8_isThought 3 s m _ RX8 := ⟨hx, hb, hml, hown, hg⟩
  have hP : va_P (dC, dI) vwCl (m_w kI kZ ad M.1 M.2) s.heap := hP
  have hl := lv_entry ([.ref (ad (0))]) (n := 3) (Nat.le_of_ble_eq_true rfl)
  rw [lg_entry_eq]
  generalize (lg_sl ([.ref (ad (0))]) ++ List.replicate (3 - (lg_sl ([.ref (ad (0))])).length) Slot.unset).toArray = ls at hl ⊢
  have hl : lv_has ls 3 [(0, .ref (ad (0)))] := hl
  unfold FX8_isThought at h
  refine lv_iconst (v := 1) hx hb dX8_isThought_0 (by decide) ?_
  refine lv_istore_n (lv' := [(1, .int (1)), (0, .ref (ad (0)))]) hx hb dX8_isThought_1 rfl hl (Nat.le_of_ble_eq_true rfl) rfl (fun ls hl => ?_)
  refine lv_iconst (v := 0) hx hb dX8_isThought_2 (by decide) ?_
  refine lv_istore_n (lv' := [(2, .int (0)), (1, .int (1)), (0, .ref (ad (0)))]) hx hb dX8_isThought_3 rfl hl (Nat.le_of_ble_eq_true rfl) rfl (fun ls hl => ?_)
  obtain ⟨K4, eK4, h⟩ := exK (Lp := fun K => FX8_isThought_L4 M K fuelN 1 0) h
  have hK4 : ∀ (k1_1 : Int32) (H : Heap) (locs : List Loc) (ls : Array Slot), va_P (dC, dI) vwCl (m_w kI kZ ad M.1 M.2) H → va_S (m_A ad) s.heap H locs → lv_has ls 3 [(1, .int (k1_1))] → K4 k1_1 = some r0 → W p l e (headSpec (wsA yX8_isThought cX8_isThought 3 (some .boolean)) ({ frames := 0, cells := 0, slots := 0, locals := 0 } : Room)).room s m (([.ref (ad (0))] : List Value).toArray) below meth c H locs 0 0 (MQ below (va_Qi (fun (r : Int32) (u : MM) => r = r0 ∧ u = M) (gI (m_Wd dC dI kI kZ ad) (m_Kn dC dI kI kZ ad)) (m_A ad)) (([.ref (ad (0))] : List Value).toArray) s 0 0 (m_A ad)) (F0 m 54 ls []) := by
    intro k1_1 H locs ls hP hS hl h
    have h := useK1 eK4 h
    refine lv_iload_n hx hb dX8_isThought_54 rfl (lv_at hl 0 rfl) ?_
    obtain ⟨hbo, h⟩ := if_use h
    exact W.zret (v := k1_1) hx hb hr (narrow_b01 hbo) (fun t ht hW => ⟨⟨k1_1, M, rfl, ⟨Option.some.inj h, rfl⟩, by rw [ht]; exact hP, m_KnW hKn t hW⟩, hS.F ht⟩) hS.2.2 dX8_isThought_55
  have hL4 : ∀ (k : Nat) (v1_2 : Int32) (v2_3 : Int32) (H : Heap) (locs : List Loc) (ls : Array Slot), va_P (dC, dI) vwCl (m_w kI kZ ad M.1 M.2) H → va_S (m_A ad) s.heap H locs → lv_has ls 3 [(0, .ref (ad (0))), (1, .int (v1_2)), (2, .int (v2_3))] → FX8_isThought_L4 M K4 k v1_2 v2_3 = some r0 → W p l e (headSpec (wsA yX8_isThought cX8_isThought 3 (some .boolean)) ({ frames := 0, cells := 0, slots := 0, locals := 0 } : Room)).room s m (([.ref (ad (0))] : List Value).toArray) below meth c H locs 0 0 (MQ below (va_Qi (fun (r : Int32) (u : MM) => r = r0 ∧ u = M) (gI (m_Wd dC dI kI kZ ad) (m_Kn dC dI kI kZ ad)) (m_A ad)) (([.ref (ad (0))] : List Value).toArray) s 0 0 (m_A ad)) (F0 m 4 ls []) := by
    intro k
    induction k with
    | zero => intro v1_2 v2_3 H locs ls hP hS hl h; cases h
    | succ k ih4 =>
      intro v1_2 v2_3 H locs ls hP hS hl h
      unfold FX8_isThought_L4 at h
      refine lv_iload_n hx hb dX8_isThought_4 rfl (lv_at hl 2 rfl) ?_
      refine lv_aload_n hx hb dX8_isThought_5 rfl (lv_at hl 0 rfl) ?_
      refine va_get (D := (dC, dI)) (ci := 8) (v := .int ((M.1 0 12))) (C := RX8) (T := TX8) (N := 29) hx hb hg inX8 hown hKn.1 hP (0) (m_at8 (c := 0) (by decide)) rfl 12 (Nat.le_of_ble_eq_true rfl) (hg _ lkF_X8_66) (fun _ h9 => h9) rfl dX8_isThought_6 ?_
      refine lv_icmp_ge (tgt := 54) hx hb dX8_isThought_9 (by decide) (fun c_4 => ?_) (fun c_4 => ?_)
      · have h := ife_t c_4 h
        exact hK4 v1_2 _ _ _ hP hS (lv_sub hl [1] rfl) h
      · have h := ife_f c_4 h
        refine lv_iload_n hx hb dX8_isThought_12 rfl (lv_at hl 1 rfl) ?_
        obtain ⟨J47, eJ47, h⟩ := jn_use h
        have hJ47 : ∀ (s_5 : Int32) (H : Heap) (locs : List Loc) (ls : Array Slot), va_P (dC, dI) vwCl (m_w kI kZ ad M.1 M.2) H → va_S (m_A ad) s.heap H locs → lv_has ls 3 [(0, .ref (ad (0))), (2, .int (v2_3))] → J47 s_5 = some r0 → W p l e (headSpec (wsA yX8_isThought cX8_isThought 3 (some .boolean)) ({ frames := 0, cells := 0, slots := 0, locals := 0 } : Room)).room s m (([.ref (ad (0))] : List Value).toArray) below meth c H locs 0 0 (MQ below (va_Qi (fun (r : Int32) (u : MM) => r = r0 ∧ u = M) (gI (m_Wd dC dI kI kZ ad) (m_Kn dC dI kI kZ ad)) (m_A ad)) (([.ref (ad (0))] : List Value).toArray) s 0 0 (m_A ad)) (F0 m 47 ls [.int (s_5)]) := by
          intro s_5 H locs ls hP hS hl h
          have h := useK1 eJ47 h
          refine lv_istore_n (lv' := [(1, .int (s_5)), (0, .ref (ad (0))), (2, .int (v2_3))]) hx hb dX8_isThought_47 rfl hl (Nat.le_of_ble_eq_true rfl) rfl (fun ls hl => ?_)
          refine lv_iinc (v := (v2_3 + 1)) (lv' := [(2, .int ((v2_3 + 1))), (1, .int (s_5)), (0, .ref (ad (0)))]) hx hb dX8_isThought_48 hl (k := 2) rfl rfl (Nat.le_of_ble_eq_true rfl) rfl (fun ls hl => ?_)
          refine lv_goto (tgt := 4) hx hb dX8_isThought_51 (by decide) ?_
          exact ih4 s_5 (v2_3 + 1) _ _ _ hP hS (lv_sub hl [2, 1, 0] rfl) h
        obtain ⟨J46, eJ46, h⟩ := jn_use h
        have hJ46 : ∀  (H : Heap) (locs : List Loc) (ls : Array Slot), va_P (dC, dI) vwCl (m_w kI kZ ad M.1 M.2) H → va_S (m_A ad) s.heap H locs → lv_has ls 3 [(0, .ref (ad (0))), (2, .int (v2_3))] → J46  = some r0 → W p l e (headSpec (wsA yX8_isThought cX8_isThought 3 (some .boolean)) ({ frames := 0, cells := 0, slots := 0, locals := 0 } : Room)).room s m (([.ref (ad (0))] : List Value).toArray) below meth c H locs 0 0 (MQ below (va_Qi (fun (r : Int32) (u : MM) => r = r0 ∧ u = M) (gI (m_Wd dC dI kI kZ ad) (m_Kn dC dI kI kZ ad)) (m_A ad)) (([.ref (ad (0))] : List Value).toArray) s 0 0 (m_A ad)) (F0 m 46 ls []) := by
          intro  H locs ls hP hS hl h
          have h := useK0 eJ46 h
          refine lv_iconst (v := 0) hx hb dX8_isThought_46 (by decide) ?_
          exact hJ47 0 _ _ _ hP hS (lv_sub hl [0, 1] rfl) h
        refine lv_if_eq (tgt := 46) hx hb dX8_isThought_13 (by decide) (fun c_6 => ?_) (fun c_6 => ?_)
        · have h := ife_t c_6 h
          exact hJ46 _ _ _ hP hS (lv_sub hl [0, 2] rfl) h
        · have h := ife_f c_6 h
          refine lv_aload_n hx hb dX8_isThought_16 rfl (lv_at hl 0 rfl) ?_
          refine va_get (D := (dC, dI)) (ci := 8) (v := .ref (ad (10))) (C := RX8) (T := TX8) (N := 29) hx hb hg inX8 hown hKn.1 hP (0) (m_at8 (c := 0) (by decide)) rfl 21 (Nat.le_of_ble_eq_true rfl) (hg _ lkF_X8_42) (fun _ h9 => h9) rfl dX8_isThought_17 ?_
          refine lv_aload_n hx hb dX8_isThought_20 rfl (lv_at hl 0 rfl) ?_
          refine va_get (D := (dC, dI)) (ci := 8) (v := .ref (ad (8))) (C := RX8) (T := TX8) (N := 29) hx hb hg inX8 hown hKn.1 hP (0) (m_at8 (c := 0) (by decide)) rfl 11 (Nat.le_of_ble_eq_true rfl) (hg _ lkF_X8_36) (fun _ h9 => h9) rfl dX8_isThought_21 ?_
          refine lv_iconst (v := 2) hx hb dX8_isThought_24 (by decide) ?_
          refine lv_iload_n hx hb dX8_isThought_25 rfl (lv_at hl 2 rfl) ?_
          refine lv_imul hx hb dX8_isThought_26 ?_
          obtain ⟨hi27, h⟩ := if_use h
          refine m_iald (M := M) (a := 8) hx hb hKn hP (by decide) (j := (ix (2 * v2_3))) rfl hi27 dX8_isThought_27 ?_
          obtain ⟨hi28, h⟩ := if_use h
          refine m_iald (M := M) (a := 10) hx hb hKn hP (by decide) (j := (ix (M.1 8 (ix (2 * v2_3))))) rfl hi28 dX8_isThought_28 ?_
          refine lv_aload_n hx hb dX8_isThought_29 rfl (lv_at hl 0 rfl) ?_
          refine va_get (D := (dC, dI)) (ci := 8) (v := .ref (ad (8))) (C := RX8) (T := TX8) (N := 29) hx hb hg inX8 hown hKn.1 hP (0) (m_at8 (c := 0) (by decide)) rfl 11 (Nat.le_of_ble_eq_true rfl) (hg _ lkF_X8_36) (fun _ h9 => h9) rfl dX8_isThought_30 ?_
          refine lv_iconst (v := 2) hx hb dX8_isThought_33 (by decide) ?_
          refine lv_iload_n hx hb dX8_isThought_34 rfl (lv_at hl 2 rfl) ?_
          refine lv_imul hx hb dX8_isThought_35 ?_
          refine lv_iconst (v := 1) hx hb dX8_isThought_36 (by decide) ?_
          refine lv_iadd hx hb dX8_isThought_37 ?_
          obtain ⟨hi38, h⟩ := if_use h
          refine m_iald (M := M) (a := 8) hx hb hKn hP (by decide) (j := (ix ((2 * v2_3) + 1))) rfl hi38 dX8_isThought_38 ?_
          refine lv_icmp_ne (tgt := 46) hx hb dX8_isThought_39 (by decide) (fun c_7 => ?_) (fun c_7 => ?_)
          · have h := ife_f c_7 h
            exact hJ46 _ _ _ hP hS (lv_sub hl [0, 2] rfl) h
          · have h := ife_t c_7 h
            refine lv_iconst (v := 1) hx hb dX8_isThought_42 (by decide) ?_
            refine lv_goto (tgt := 47) hx hb dX8_isThought_43 (by decide) ?_
            exact hJ47 1 _ _ _ hP hS (lv_sub hl [0, 2] rfl) h
  exact hL4 fuelN 1 0 _ _ _ hP hS (lv_sub hl [2, 1, 0] rfl) h
noncomputable def FX8_isWanted (c1 : Nat) (a2 : Int32) (a3 : Int32) (M : MM) : Option Int32 :=
  bo (FX8_convinced c1 M) (fun (r_1 : Int32) => (if (a2 &&& (r_1 ^^^ (-1))) = 0 then (if (a3 &&& r_1) = 0 then some 1 else some 0) else some 0))
set_option maxHeartbeats 4000000 in
set_option maxRecDepth 100000 in
theorem tX8_isWanted (l : Launch) (dC : Nat → ClassId) (dI : Nat → Nat → Nat) (kI kZ : ClassId) (ad : Nat → Nat) (c1 : Nat) (a2 : Int32) (a3 : Int32) (M : MM) (h1 : m_arr c1) {r0 : Int32} (h : FX8_isWanted c1 a2 a3 M = some r0) : Met l yX8_isWanted (wsA yX8_isWanted cX8_isWanted 5 (some .boolean)) ({ frames := 1, cells := 0, slots := 0, locals := 23 } : Room) (va_Pc [.ref (ad (0)), .ref (ad (c1)), .int (a2), .int (a3)] (gI (m_Wd dC dI kI kZ ad) (m_Kn dC dI kI kZ ad) M)) (va_Qi (fun (r : Int32) (u : MM) => r = r0 ∧ u = M) (gI (m_Wd dC dI kI kZ ad) (m_Kn dC dI kI kZ ad)) (m_A ad)) 0 0 (m_A ad) := by
  refine Met.ofW (cc := cX8_isWanted) (maxL := 5) (ret := (some .boolean)) (by decide) rfl ?_
  intro p e s m args below meth c s₁ B hml hv
  obtain ⟨rfl, hP, hKn⟩ := hv
  have hx := B.exec
  have hb := B.bytes
  have hr := B.returns
  have hts := atoms_spec (ws := wsA yX8_isWanted cX8_isWanted 5 (some .boolean)) B.pre
  have hg : ∀ w ∈ lw_good, w.before _ s = true := fun w h => hts w (List.mem_cons_of_mem _ h)
  have hown : s.vm.findClass RX8 = some m.cls := findClass_of_methodNamed B.named
  have hlocks := B.notSynchronized
  have hS : va_S (m_A ad) s.heap s.heap [] := va_S.rf
  have hFx : gFix p c cX8_isWanted 5 s m _ RX8 := ⟨hx, hb, hml, hown, hg⟩
  have hP : va_P (dC, dI) vwCl (m_w kI kZ ad M.1 M.2) s.heap := hP
  have hl := lv_entry ([.ref (ad (0)), .ref (ad (c1)), .int (a2), .int (a3)]) (n := 5) (Nat.le_of_ble_eq_true rfl)
  rw [lg_entry_eq]
  generalize (lg_sl ([.ref (ad (0)), .ref (ad (c1)), .int (a2), .int (a3)]) ++ List.replicate (5 - (lg_sl ([.ref (ad (0)), .ref (ad (c1)), .int (a2), .int (a3)])).length) Slot.unset).toArray = ls at hl ⊢
  have hl : lv_has ls 5 [(0, .ref (ad (0))), (1, .ref (ad (c1))), (2, .int (a2)), (3, .int (a3))] := hl
  unfold FX8_isWanted at h
  refine lv_aload_n hx hb dX8_isWanted_0 rfl (lv_at hl 0 rfl) ?_
  refine lv_aload_n hx hb dX8_isWanted_1 rfl (lv_at hl 1 rfl) ?_
  obtain ⟨r_1, e2, h⟩ := bo_use h
  refine gc_i (va_runV (As := [.ref (ad (c1))]) (rest := []) hFx (tX8_convinced l dC dI kI kZ ad c1 M h1 e2) ⟨(gc_B hFx ck_yX8_convinced lkM_X8_136 ⟨Nat.le_of_ble_eq_true rfl, Nat.le_of_ble_eq_true rfl⟩ rfl rfl), hg _ vi_yX8_convinced, hg _ vs_yX8_convinced⟩ (gp_V m_KnB (m_KnW hKn) hP (m_rc8 (c := 0) (by decide) hKn hP)) rfl rfl hl.1 rfl (lv_room (Nat.le_of_ble_eq_true rfl)) dX8_isWanted_2 ⟨Nat.zero_le _, Nat.zero_le _⟩) hS (fun H locs hP hS => ?_)
  have hP : va_P (dC, dI) vwCl (m_w kI kZ ad M.1 M.2) H := hP
  refine lv_istore (lv' := [(4, .int (r_1)), (0, .ref (ad (0))), (1, .ref (ad (c1))), (2, .int (a2)), (3, .int (a3))]) hx hb dX8_isWanted_5 hl (Nat.le_of_ble_eq_true rfl) rfl (fun ls hl => ?_)
  refine lv_iload_n hx hb dX8_isWanted_7 rfl (lv_at hl 3 rfl) ?_
  refine lv_iload hx hb dX8_isWanted_8 (lv_at hl 0 rfl) ?_
  refine lv_iconst (v := -1) hx hb dX8_isWanted_10 (by decide) ?_
  refine lv_ixor hx hb dX8_isWanted_11 ?_
  refine lv_iand hx hb dX8_isWanted_12 ?_
  refine lv_if_ne (tgt := 27) hx hb dX8_isWanted_13 (by decide) (fun c_2 => ?_) (fun c_2 => ?_)
  · have h := ife_f c_2 h
    refine lv_iconst (v := 0) hx hb dX8_isWanted_27 (by decide) ?_
    exact W.zret (v := 0) hx hb hr rfl (fun t ht hW => ⟨⟨0, M, rfl, ⟨Option.some.inj h, rfl⟩, by rw [ht]; exact hP, m_KnW hKn t hW⟩, hS.F ht⟩) hS.2.2 dX8_isWanted_28
  · have h := ife_t c_2 h
    refine lv_iload_n hx hb dX8_isWanted_16 rfl (lv_at hl 4 rfl) ?_
    refine lv_iload hx hb dX8_isWanted_17 (lv_at hl 0 rfl) ?_
    refine lv_iand hx hb dX8_isWanted_19 ?_
    refine lv_if_ne (tgt := 27) hx hb dX8_isWanted_20 (by decide) (fun c_3 => ?_) (fun c_3 => ?_)
    · have h := ife_f c_3 h
      refine lv_iconst (v := 0) hx hb dX8_isWanted_27 (by decide) ?_
      exact W.zret (v := 0) hx hb hr rfl (fun t ht hW => ⟨⟨0, M, rfl, ⟨Option.some.inj h, rfl⟩, by rw [ht]; exact hP, m_KnW hKn t hW⟩, hS.F ht⟩) hS.2.2 dX8_isWanted_28
    · have h := ife_t c_3 h
      refine lv_iconst (v := 1) hx hb dX8_isWanted_23 (by decide) ?_
      refine lv_goto (tgt := 28) hx hb dX8_isWanted_24 (by decide) ?_
      exact W.zret (v := 1) hx hb hr rfl (fun t ht hW => ⟨⟨1, M, rfl, ⟨Option.some.inj h, rfl⟩, by rw [ht]; exact hP, m_KnW hKn t hW⟩, hS.F ht⟩) hS.2.2 dX8_isWanted_28
noncomputable def FX8_judge_L2 (M : MM) (K : Option Int32) (k : Nat) (v1_1 : Int32) : Option Int32 := match k with
  | 0 => none
  | k + 1 => (if (M.1 0 14) ≤ v1_1 then K else (if inb (2 * v1_1) 30 then (if inb (M.1 9 (ix (2 * v1_1))) 17 then (if inb ((2 * v1_1) + 1) 30 then (if (M.1 3 (ix (M.1 9 (ix (2 * v1_1))))) = (M.1 9 (ix ((2 * v1_1) + 1))) then FX8_judge_L2 M K k (v1_1 + 1) else some v1_1) else none) else none) else none))
noncomputable def FX8_judge  (M : MM) : Option Int32 :=
  FX8_judge_L2 M (some (-1)) fuelN 0
set_option maxHeartbeats 4000000 in
set_option maxRecDepth 100000 in
theorem tX8_judge (l : Launch) (dC : Nat → ClassId) (dI : Nat → Nat → Nat) (kI kZ : ClassId) (ad : Nat → Nat)  (M : MM)  {r0 : Int32} (h : FX8_judge  M = some r0) : Met l yX8_judge (wsA yX8_judge cX8_judge 2 (some .int)) ({ frames := 0, cells := 0, slots := 0, locals := 0 } : Room) (va_Pc [.ref (ad (0))] (gI (m_Wd dC dI kI kZ ad) (m_Kn dC dI kI kZ ad) M)) (va_Qi (fun (r : Int32) (u : MM) => r = r0 ∧ u = M) (gI (m_Wd dC dI kI kZ ad) (m_Kn dC dI kI kZ ad)) (m_A ad)) 0 0 (m_A ad) := by
  refine Met.ofW (cc := cX8_judge) (maxL := 2) (ret := (some .int)) (by decide) rfl ?_
  intro p e s m args below meth c s₁ B hml hv
  obtain ⟨rfl, hP, hKn⟩ := hv
  have hx := B.exec
  have hb := B.bytes
  have hr := B.returns
  have hts := atoms_spec (ws := wsA yX8_judge cX8_judge 2 (some .int)) B.pre
  have hg : ∀ w ∈ lw_good, w.before _ s = true := fun w h => hts w (List.mem_cons_of_mem _ h)
  have hown : s.vm.findClass RX8 = some m.cls := findClass_of_methodNamed B.named
  have hlocks := B.notSynchronized
  have hS : va_S (m_A ad) s.heap s.heap [] := va_S.rf
  have hFx : gFix p c cX8_judge 2 s m _ RX8 := ⟨hx, hb, hml, hown, hg⟩
  have hP : va_P (dC, dI) vwCl (m_w kI kZ ad M.1 M.2) s.heap := hP
  have hl := lv_entry ([.ref (ad (0))]) (n := 2) (Nat.le_of_ble_eq_true rfl)
  rw [lg_entry_eq]
  generalize (lg_sl ([.ref (ad (0))]) ++ List.replicate (2 - (lg_sl ([.ref (ad (0))])).length) Slot.unset).toArray = ls at hl ⊢
  have hl : lv_has ls 2 [(0, .ref (ad (0)))] := hl
  unfold FX8_judge at h
  refine lv_iconst (v := 0) hx hb dX8_judge_0 (by decide) ?_
  refine lv_istore_n (lv' := [(1, .int (0)), (0, .ref (ad (0)))]) hx hb dX8_judge_1 rfl hl (Nat.le_of_ble_eq_true rfl) rfl (fun ls hl => ?_)
  obtain ⟨K2, eK2, h⟩ := exK (Lp := fun K => FX8_judge_L2 M K fuelN 0) h
  have hK2 : ∀  (H : Heap) (locs : List Loc) (ls : Array Slot), va_P (dC, dI) vwCl (m_w kI kZ ad M.1 M.2) H → va_S (m_A ad) s.heap H locs → lv_has ls 2 [] → K2  = some r0 → W p l e (headSpec (wsA yX8_judge cX8_judge 2 (some .int)) ({ frames := 0, cells := 0, slots := 0, locals := 0 } : Room)).room s m (([.ref (ad (0))] : List Value).toArray) below meth c H locs 0 0 (MQ below (va_Qi (fun (r : Int32) (u : MM) => r = r0 ∧ u = M) (gI (m_Wd dC dI kI kZ ad) (m_Kn dC dI kI kZ ad)) (m_A ad)) (([.ref (ad (0))] : List Value).toArray) s 0 0 (m_A ad)) (F0 m 44 ls []) := by
    intro  H locs ls hP hS hl h
    have h := useK0 eK2 h
    refine lv_iconst (v := -1) hx hb dX8_judge_44 (by decide) ?_
    exact W.iret (v := (-1)) hx hb hr (fun t ht hW => ⟨⟨(-1), M, rfl, ⟨Option.some.inj h, rfl⟩, by rw [ht]; exact hP, m_KnW hKn t hW⟩, hS.F ht⟩) hS.2.2 dX8_judge_45
  have hL2 : ∀ (k : Nat) (v1_1 : Int32) (H : Heap) (locs : List Loc) (ls : Array Slot), va_P (dC, dI) vwCl (m_w kI kZ ad M.1 M.2) H → va_S (m_A ad) s.heap H locs → lv_has ls 2 [(0, .ref (ad (0))), (1, .int (v1_1))] → FX8_judge_L2 M K2 k v1_1 = some r0 → W p l e (headSpec (wsA yX8_judge cX8_judge 2 (some .int)) ({ frames := 0, cells := 0, slots := 0, locals := 0 } : Room)).room s m (([.ref (ad (0))] : List Value).toArray) below meth c H locs 0 0 (MQ below (va_Qi (fun (r : Int32) (u : MM) => r = r0 ∧ u = M) (gI (m_Wd dC dI kI kZ ad) (m_Kn dC dI kI kZ ad)) (m_A ad)) (([.ref (ad (0))] : List Value).toArray) s 0 0 (m_A ad)) (F0 m 2 ls []) := by
    intro k
    induction k with
    | zero => intro v1_1 H locs ls hP hS hl h; cases h
    | succ k ih2 =>
      intro v1_1 H locs ls hP hS hl h
      unfold FX8_judge_L2 at h
      refine lv_iload_n hx hb dX8_judge_2 rfl (lv_at hl 1 rfl) ?_
      refine lv_aload_n hx hb dX8_judge_3 rfl (lv_at hl 0 rfl) ?_
      refine va_get (D := (dC, dI)) (ci := 8) (v := .int ((M.1 0 14))) (C := RX8) (T := TX8) (N := 29) hx hb hg inX8 hown hKn.1 hP (0) (m_at8 (c := 0) (by decide)) rfl 14 (Nat.le_of_ble_eq_true rfl) (hg _ lkF_X8_69) (fun _ h9 => h9) rfl dX8_judge_4 ?_
      refine lv_icmp_ge (tgt := 44) hx hb dX8_judge_7 (by decide) (fun c_2 => ?_) (fun c_2 => ?_)
      · have h := ife_t c_2 h
        exact hK2 _ _ _ hP hS (lv_sub hl [] rfl) h
      · have h := ife_f c_2 h
        refine lv_aload_n hx hb dX8_judge_10 rfl (lv_at hl 0 rfl) ?_
        refine va_get (D := (dC, dI)) (ci := 8) (v := .ref (ad (3))) (C := RX8) (T := TX8) (N := 29) hx hb hg inX8 hown hKn.1 hP (0) (m_at8 (c := 0) (by decide)) rfl 2 (Nat.le_of_ble_eq_true rfl) (hg _ lkF_X8_16) (fun _ h9 => h9) rfl dX8_judge_11 ?_
        refine lv_aload_n hx hb dX8_judge_14 rfl (lv_at hl 0 rfl) ?_
        refine va_get (D := (dC, dI)) (ci := 8) (v := .ref (ad (9))) (C := RX8) (T := TX8) (N := 29) hx hb hg inX8 hown hKn.1 hP (0) (m_at8 (c := 0) (by decide)) rfl 13 (Nat.le_of_ble_eq_true rfl) (hg _ lkF_X8_39) (fun _ h9 => h9) rfl dX8_judge_15 ?_
        refine lv_iconst (v := 2) hx hb dX8_judge_18 (by decide) ?_
        refine lv_iload_n hx hb dX8_judge_19 rfl (lv_at hl 1 rfl) ?_
        refine lv_imul hx hb dX8_judge_20 ?_
        obtain ⟨hi21, h⟩ := if_use h
        refine m_iald (M := M) (a := 9) hx hb hKn hP (by decide) (j := (ix (2 * v1_1))) rfl hi21 dX8_judge_21 ?_
        obtain ⟨hi22, h⟩ := if_use h
        refine m_iald (M := M) (a := 3) hx hb hKn hP (by decide) (j := (ix (M.1 9 (ix (2 * v1_1))))) rfl hi22 dX8_judge_22 ?_
        refine lv_aload_n hx hb dX8_judge_23 rfl (lv_at hl 0 rfl) ?_
        refine va_get (D := (dC, dI)) (ci := 8) (v := .ref (ad (9))) (C := RX8) (T := TX8) (N := 29) hx hb hg inX8 hown hKn.1 hP (0) (m_at8 (c := 0) (by decide)) rfl 13 (Nat.le_of_ble_eq_true rfl) (hg _ lkF_X8_39) (fun _ h9 => h9) rfl dX8_judge_24 ?_
        refine lv_iconst (v := 2) hx hb dX8_judge_27 (by decide) ?_
        refine lv_iload_n hx hb dX8_judge_28 rfl (lv_at hl 1 rfl) ?_
        refine lv_imul hx hb dX8_judge_29 ?_
        refine lv_iconst (v := 1) hx hb dX8_judge_30 (by decide) ?_
        refine lv_iadd hx hb dX8_judge_31 ?_
        obtain ⟨hi32, h⟩ := if_use h
        refine m_iald (M := M) (a := 9) hx hb hKn hP (by decide) (j := (ix ((2 * v1_1) + 1))) rfl hi32 dX8_judge_32 ?_
        refine lv_icmp_eq (tgt := 38) hx hb dX8_judge_33 (by decide) (fun c_3 => ?_) (fun c_3 => ?_)
        · have h := ife_t c_3 h
          refine lv_iinc (v := (v1_1 + 1)) (lv' := [(1, .int ((v1_1 + 1))), (0, .ref (ad (0)))]) hx hb dX8_judge_38 hl (k := 1) rfl rfl (Nat.le_of_ble_eq_true rfl) rfl (fun ls hl => ?_)
          refine lv_goto (tgt := 2) hx hb dX8_judge_41 (by decide) ?_
          exact ih2 (v1_1 + 1) _ _ _ hP hS (lv_sub hl [1, 0] rfl) h
        · have h := ife_f c_3 h
          refine lv_iload_n hx hb dX8_judge_36 rfl (lv_at hl 1 rfl) ?_
          exact W.iret (v := v1_1) hx hb hr (fun t ht hW => ⟨⟨v1_1, M, rfl, ⟨Option.some.inj h, rfl⟩, by rw [ht]; exact hP, m_KnW hKn t hW⟩, hS.F ht⟩) hS.2.2 dX8_judge_37
  exact hL2 fuelN 0 _ _ _ hP hS (lv_sub hl [1, 0] rfl) h
noncomputable def FX8_keep (a1 : Int32) (M : MM) : Option (Int32 × MM) :=
  bo (FX8_in ((a1).toInt64) 0 1) (fun (r_1 : Int32) => (if r_1 = 0 then some ((-1000000001), M) else bo (FX8_copies 3 0 5 (18 * a1) 17 M) (fun (M_3 : MM) => (if inb ((18 * a1) + 17) 36 then (if inb a1 2 then some (1, um (um (um M_3 5 (ix ((18 * a1) + 17)) (Int64.toInt32 M_3.2)) 6 (ix a1) 1) 0 4 0) else none) else none))))
set_option maxHeartbeats 4000000 in
set_option maxRecDepth 100000 in
theorem tX8_keep (l : Launch) (dC : Nat → ClassId) (dI : Nat → Nat → Nat) (kI kZ : ClassId) (ad : Nat → Nat) (a1 : Int32) (M : MM)  {r0 : Int32} {M0 : MM} (h : FX8_keep a1 M = some (r0, M0)) : Met l yX8_keep (wsA yX8_keep cX8_keep 2 (some .int)) ({ frames := 1, cells := 0, slots := 0, locals := 25 } : Room) (va_Pc [.ref (ad (0)), .int (a1)] (gI (m_Wd dC dI kI kZ ad) (m_Kn dC dI kI kZ ad) M)) (va_Qi (fun (r : Int32) (u : MM) => r = r0 ∧ u = M0) (gI (m_Wd dC dI kI kZ ad) (m_Kn dC dI kI kZ ad)) (m_A ad)) 0 0 (m_A ad) := by
  refine Met.ofW (cc := cX8_keep) (maxL := 2) (ret := (some .int)) (by decide) rfl ?_
  intro p e s m args below meth c s₁ B hml hv
  obtain ⟨rfl, hP, hKn⟩ := hv
  have hx := B.exec
  have hb := B.bytes
  have hr := B.returns
  have hts := atoms_spec (ws := wsA yX8_keep cX8_keep 2 (some .int)) B.pre
  have hg : ∀ w ∈ lw_good, w.before _ s = true := fun w h => hts w (List.mem_cons_of_mem _ h)
  have hown : s.vm.findClass RX8 = some m.cls := findClass_of_methodNamed B.named
  have hlocks := B.notSynchronized
  have hS : va_S (m_A ad) s.heap s.heap [] := va_S.rf
  have hFx : gFix p c cX8_keep 2 s m _ RX8 := ⟨hx, hb, hml, hown, hg⟩
  have hP : va_P (dC, dI) vwCl (m_w kI kZ ad M.1 M.2) s.heap := hP
  have hl := lv_entry ([.ref (ad (0)), .int (a1)]) (n := 2) (Nat.le_of_ble_eq_true rfl)
  rw [lg_entry_eq]
  generalize (lg_sl ([.ref (ad (0)), .int (a1)]) ++ List.replicate (2 - (lg_sl ([.ref (ad (0)), .int (a1)])).length) Slot.unset).toArray = ls at hl ⊢
  have hl : lv_has ls 2 [(0, .ref (ad (0))), (1, .int (a1))] := hl
  unfold FX8_keep at h
  refine lv_iload_n hx hb dX8_keep_0 rfl (lv_at hl 1 rfl) ?_
  refine lv_i2l (v := ((a1).toInt64)) hx hb dX8_keep_1 rfl ?_
  refine lv_lconst (v := 0) hx hb dX8_keep_2 (by decide) ?_
  refine lv_lconst (v := 1) hx hb dX8_keep_3 (by decide) ?_
  obtain ⟨r_1, e4, h⟩ := bo_use h
  refine gc_i (va_runS (As := [.long (((a1).toInt64)), .long (0), .long (1)]) (rest := []) hFx (tX8_in l dC dI kI kZ ad ((a1).toInt64) 0 1 M  e4) ⟨(gc_B hFx ck_yX8_in lkM_X8_74 ⟨Nat.le_of_ble_eq_true rfl, Nat.le_of_ble_eq_true rfl⟩ rfl rfl), hg _ st_yX8_in⟩ (gp_S m_KnB (m_KnW hKn) hP) rfl rfl hl.1 rfl (lv_room (Nat.le_of_ble_eq_true rfl)) dX8_keep_4 ⟨Nat.zero_le _, Nat.zero_le _⟩) hS (fun H locs hP hS => ?_)
  have hP : va_P (dC, dI) vwCl (m_w kI kZ ad M.1 M.2) H := hP
  refine lv_if_ne (tgt := 13) hx hb dX8_keep_7 (by decide) (fun c_2 => ?_) (fun c_2 => ?_)
  · have h := ife_f c_2 h
    refine lv_aload_n hx hb dX8_keep_13 rfl (lv_at hl 0 rfl) ?_
    refine va_get (D := (dC, dI)) (ci := 8) (v := .ref (ad (3))) (C := RX8) (T := TX8) (N := 29) hx hb hg inX8 hown hKn.1 hP (0) (m_at8 (c := 0) (by decide)) rfl 2 (Nat.le_of_ble_eq_true rfl) (hg _ lkF_X8_16) (fun _ h9 => h9) rfl dX8_keep_14 ?_
    refine lv_iconst (v := 0) hx hb dX8_keep_17 (by decide) ?_
    refine lv_aload_n hx hb dX8_keep_18 rfl (lv_at hl 0 rfl) ?_
    refine va_get (D := (dC, dI)) (ci := 8) (v := .ref (ad (5))) (C := RX8) (T := TX8) (N := 29) hx hb hg inX8 hown hKn.1 hP (0) (m_at8 (c := 0) (by decide)) rfl 5 (Nat.le_of_ble_eq_true rfl) (hg _ lkF_X8_22) (fun _ h9 => h9) rfl dX8_keep_19 ?_
    refine lv_bipush (v := 18) hx hb dX8_keep_22 (by decide) ?_
    refine lv_iload_n hx hb dX8_keep_24 rfl (lv_at hl 1 rfl) ?_
    refine lv_imul hx hb dX8_keep_25 ?_
    refine lv_bipush (v := 17) hx hb dX8_keep_26 (by decide) ?_
    obtain ⟨M_3, e28, h⟩ := bo_use h
    refine gc_v (va_runS (As := [.ref (ad (3)), .int (0), .ref (ad (5)), .int ((18 * a1)), .int (17)]) (rest := []) hFx (tX8_copies l dC dI kI kZ ad 3 0 5 (18 * a1) 17 M (by decide) (by decide) e28) ⟨(gc_B hFx ck_yX8_copies lkM_X8_165 ⟨Nat.le_of_ble_eq_true rfl, Nat.le_of_ble_eq_true rfl⟩ rfl rfl), hg _ st_yX8_copies⟩ (gp_S m_KnB (m_KnW hKn) hP) rfl rfl hl.1 rfl (lv_room (Nat.le_of_ble_eq_true rfl)) dX8_keep_28 ⟨Nat.zero_le _, Nat.zero_le _⟩) hS (fun H locs hP hS => ?_)
    have hP : va_P (dC, dI) vwCl (m_w kI kZ ad M_3.1 M_3.2) H := hP
    refine lv_aload_n hx hb dX8_keep_31 rfl (lv_at hl 0 rfl) ?_
    refine va_get (D := (dC, dI)) (ci := 8) (v := .ref (ad (5))) (C := RX8) (T := TX8) (N := 29) hx hb hg inX8 hown hKn.1 hP (0) (m_at8 (c := 0) (by decide)) rfl 5 (Nat.le_of_ble_eq_true rfl) (hg _ lkF_X8_22) (fun _ h9 => h9) rfl dX8_keep_32 ?_
    refine lv_bipush (v := 18) hx hb dX8_keep_35 (by decide) ?_
    refine lv_iload_n hx hb dX8_keep_37 rfl (lv_at hl 1 rfl) ?_
    refine lv_imul hx hb dX8_keep_38 ?_
    refine lv_bipush (v := 17) hx hb dX8_keep_39 (by decide) ?_
    refine lv_iadd hx hb dX8_keep_41 ?_
    refine lv_aload_n hx hb dX8_keep_42 rfl (lv_at hl 0 rfl) ?_
    refine va_get (D := (dC, dI)) (ci := 8) (v := .long (M_3.2)) (C := RX8) (T := TX8) (N := 29) hx hb hg inX8 hown hKn.1 hP (0) (m_at8 (c := 0) (by decide)) rfl 7 (Nat.le_of_ble_eq_true rfl) (hg _ lkF_X8_190) (fun _ h9 => h9) rfl dX8_keep_43 ?_
    refine lv_l2i (v := (Int64.toInt32 M_3.2)) hx hb dX8_keep_46 rfl ?_
    obtain ⟨hi47, h⟩ := if_use h
    refine m_iast (M := M_3) (a := 5) hx hb hKn hP hS (by decide) (x := (Int64.toInt32 M_3.2)) (j := (ix ((18 * a1) + 17))) rfl hi47 dX8_keep_47 (fun H locs hP hS => ?_)
    have hP : va_P (dC, dI) vwCl (m_w kI kZ ad (um M_3 5 (ix ((18 * a1) + 17)) (Int64.toInt32 M_3.2)).1 (um M_3 5 (ix ((18 * a1) + 17)) (Int64.toInt32 M_3.2)).2) H := hP
    refine lv_aload_n hx hb dX8_keep_48 rfl (lv_at hl 0 rfl) ?_
    refine va_get (D := (dC, dI)) (ci := 8) (v := .ref (ad (6))) (C := RX8) (T := TX8) (N := 29) hx hb hg inX8 hown hKn.1 hP (0) (m_at8 (c := 0) (by decide)) rfl 6 (Nat.le_of_ble_eq_true rfl) (hg _ lkF_X8_25) (fun _ h9 => h9) rfl dX8_keep_49 ?_
    refine lv_iload_n hx hb dX8_keep_52 rfl (lv_at hl 1 rfl) ?_
    refine lv_iconst (v := 1) hx hb dX8_keep_53 (by decide) ?_
    obtain ⟨hi54, h⟩ := if_use h
    refine m_zast (M := (um M_3 5 (ix ((18 * a1) + 17)) (Int64.toInt32 M_3.2))) hx hb hKn hP hS (x := 1) (by decide)  (j := (ix a1)) rfl hi54 dX8_keep_54 (fun H locs hP hS => ?_)
    have hP : va_P (dC, dI) vwCl (m_w kI kZ ad (um (um M_3 5 (ix ((18 * a1) + 17)) (Int64.toInt32 M_3.2)) 6 (ix a1) 1).1 (um (um M_3 5 (ix ((18 * a1) + 17)) (Int64.toInt32 M_3.2)) 6 (ix a1) 1).2) H := hP
    refine lv_aload_n hx hb dX8_keep_55 rfl (lv_at hl 0 rfl) ?_
    refine lv_iconst (v := 0) hx hb dX8_keep_56 (by decide) ?_
    refine va_put (D := (dC, dI)) (ci := 8) (v := .int (0)) (ty := .int) (C := RX8) (T := TX8) (N := 29) hx hb hg inX8 tyX8 tyX8_ok nmX8 hown hKn.1 hP (m_D hKn.2.1) hS (0) (m_at8 (c := 0) (by decide)) rfl 4 (Nat.le_of_ble_eq_true rfl) (hg _ lkF_X8_63) (fun _ h9 => h9) rfl (by decide +kernel) rfl rfl (Nat.le_of_ble_eq_true rfl) dX8_keep_57 (fun H locs hP _ hS => ?_)
    have hP : va_P (dC, dI) vwCl (m_w kI kZ ad (um (um (um M_3 5 (ix ((18 * a1) + 17)) (Int64.toInt32 M_3.2)) 6 (ix a1) 1) 0 4 0).1 (um (um (um M_3 5 (ix ((18 * a1) + 17)) (Int64.toInt32 M_3.2)) 6 (ix a1) 1) 0 4 0).2) H := vp_eq (m_put8_4 (by decide) _) hP
    refine lv_iconst (v := 1) hx hb dX8_keep_60 (by decide) ?_
    exact W.iret (v := 1) hx hb hr (fun t ht hW => ⟨⟨1, um (um (um M_3 5 (ix ((18 * a1) + 17)) (Int64.toInt32 M_3.2)) 6 (ix a1) 1) 0 4 0, rfl, Prod.mk.inj (Option.some.inj h), by rw [ht]; exact hP, m_KnW hKn t hW⟩, hS.F ht⟩) hS.2.2 dX8_keep_61
  · have h := ife_t c_2 h
    refine lv_ldc hx hb hown (hg _ kc_X8_143) dX8_keep_10 ?_
    exact W.iret (v := (-1000000001)) hx hb hr (fun t ht hW => ⟨⟨(-1000000001), M, rfl, Prod.mk.inj (Option.some.inj h), by rw [ht]; exact hP, m_KnW hKn t hW⟩, hS.F ht⟩) hS.2.2 dX8_keep_12
noncomputable def FX8_layNights_L120 (b1 : Int32) (b2 : Int32) (b3 : Int32) (b4 : Int32) (K : MM → Option (Int32 × MM)) (k : Nat) (v6_14 : Int32) (M_15 : MM) : Option (Int32 × MM) := match k with
  | 0 => none
  | k + 1 => (if b3 ≤ v6_14 then K M_15 else bo (FX8_maySheet v6_14 (M_15.1 3 13) M_15) (fun (r_17 : Int32) => jn (α := MM → Option (Int32 × MM)) (fun (M_18 : MM) => FX8_layNights_L120 b1 b2 b3 b4 K k (v6_14 + 1) M_18) (fun J196 => (if r_17 = 0 then J196 M_15 else bo (FX8_copies 10 0 11 0 17 M_15) (fun (M_20 : MM) => bd (FX8_readsSheet 11 v6_14 M_20) (fun (r_21 : Int32) (M_22 : MM) => bo (FX8_isWanted 11 b1 b2 M_22) (fun (r_23 : Int32) => (if r_23 = 0 then J196 M_22 else some (2, um (um M_22 0 23 b4) 0 24 v6_14)))))))))
noncomputable def FX8_layNights_L87 (b1 : Int32) (b2 : Int32) (b3 : Int32) (K : MM → Option (Int32 × MM)) (k : Nat) (v4_5 : Int32) (M_6 : MM) : Option (Int32 × MM) := match k with
  | 0 => none
  | k + 1 => (if b3 ≤ v4_5 then K M_6 else bo (FX8_maySheet v4_5 (M_6.1 3 13) M_6) (fun (r_8 : Int32) => jn (α := MM → Option (Int32 × MM)) (fun (M_9 : MM) => FX8_layNights_L87 b1 b2 b3 K k (v4_5 + 1) M_9) (fun J202 => (if r_8 = 0 then J202 M_6 else bd (FX8_triesTonight v4_5 M_6) (fun (r_11 : Int32) (M_12 : MM) => FX8_layNights_L120 b1 b2 b3 v4_5 (fun (M_13 : MM) => J202 M_13) fuelN 0 M_12)))))
noncomputable def FX8_layNights_L27 (b1 : Int32) (b2 : Int32) (b3 : Int32) (K : MM → Option (Int32 × MM)) (k : Nat) (v4_25 : Int32) (M_26 : MM) : Option (Int32 × MM) := match k with
  | 0 => none
  | k + 1 => (if b3 ≤ v4_25 then K M_26 else bo (FX8_maySheet v4_25 (M_26.1 3 13) M_26) (fun (r_28 : Int32) => jn (α := MM → Option (Int32 × MM)) (fun (M_29 : MM) => FX8_layNights_L27 b1 b2 b3 K k (v4_25 + 1) M_29) (fun J78 => (if r_28 = 0 then J78 M_26 else bd (FX8_triesTonight v4_25 M_26) (fun (r_31 : Int32) (M_32 : MM) => bo (FX8_isWanted 10 b1 b2 M_32) (fun (r_33 : Int32) => (if r_33 = 0 then J78 M_32 else some (1, um M_32 0 23 v4_25))))))))
noncomputable def FX8_layNights (a1 : Int32) (a2 : Int32) (M : MM) : Option (Int32 × MM) :=
  bo (FX8_isWanted 3 a1 a2 M) (fun (r_1 : Int32) => (if r_1 = 0 then FX8_layNights_L27 a1 a2 (1 <<< ((M.1 1 2) &&& 31)) (fun (M_3 : MM) => FX8_layNights_L87 a1 a2 (1 <<< ((M.1 1 2) &&& 31)) (fun (M_4 : MM) => some (1000000, M_4)) fuelN 0 M_3) fuelN 0 M else some (0, M)))
set_option maxHeartbeats 4000000 in
set_option maxRecDepth 100000 in
theorem tX8_layNights (l : Launch) (dC : Nat → ClassId) (dI : Nat → Nat → Nat) (kI kZ : ClassId) (ad : Nat → Nat) (a1 : Int32) (a2 : Int32) (M : MM)  {r0 : Int32} {M0 : MM} (h : FX8_layNights a1 a2 M = some (r0, M0)) : Met l yX8_layNights (wsA yX8_layNights cX8_layNights 8 (some .int)) ({ frames := 4, cells := 0, slots := 0, locals := 92 } : Room) (va_Pc [.ref (ad (0)), .int (a1), .int (a2)] (gI (m_Wd dC dI kI kZ ad) (m_Kn dC dI kI kZ ad) M)) (va_Qi (fun (r : Int32) (u : MM) => r = r0 ∧ u = M0) (gI (m_Wd dC dI kI kZ ad) (m_Kn dC dI kI kZ ad)) (m_A ad)) 0 0 (m_A ad) := by
  refine Met.ofW (cc := cX8_layNights) (maxL := 8) (ret := (some .int)) (by decide) rfl ?_
  intro p e s m args below meth c s₁ B hml hv
  obtain ⟨rfl, hP, hKn⟩ := hv
  have hx := B.exec
  have hb := B.bytes
  have hr := B.returns
  have hts := atoms_spec (ws := wsA yX8_layNights cX8_layNights 8 (some .int)) B.pre
  have hg : ∀ w ∈ lw_good, w.before _ s = true := fun w h => hts w (List.mem_cons_of_mem _ h)
  have hown : s.vm.findClass RX8 = some m.cls := findClass_of_methodNamed B.named
  have hlocks := B.notSynchronized
  have hS : va_S (m_A ad) s.heap s.heap [] := va_S.rf
  have hFx : gFix p c cX8_layNights 8 s m _ RX8 := ⟨hx, hb, hml, hown, hg⟩
  have hP : va_P (dC, dI) vwCl (m_w kI kZ ad M.1 M.2) s.heap := hP
  have hl := lv_entry ([.ref (ad (0)), .int (a1), .int (a2)]) (n := 8) (Nat.le_of_ble_eq_true rfl)
  rw [lg_entry_eq]
  generalize (lg_sl ([.ref (ad (0)), .int (a1), .int (a2)]) ++ List.replicate (8 - (lg_sl ([.ref (ad (0)), .int (a1), .int (a2)])).length) Slot.unset).toArray = ls at hl ⊢
  have hl : lv_has ls 8 [(0, .ref (ad (0))), (1, .int (a1)), (2, .int (a2))] := hl
  unfold FX8_layNights at h
  refine lv_aload_n hx hb dX8_layNights_0 rfl (lv_at hl 0 rfl) ?_
  refine lv_aload_n hx hb dX8_layNights_1 rfl (lv_at hl 0 rfl) ?_
  refine va_get (D := (dC, dI)) (ci := 8) (v := .ref (ad (3))) (C := RX8) (T := TX8) (N := 29) hx hb hg inX8 hown hKn.1 hP (0) (m_at8 (c := 0) (by decide)) rfl 2 (Nat.le_of_ble_eq_true rfl) (hg _ lkF_X8_16) (fun _ h9 => h9) rfl dX8_layNights_2 ?_
  refine lv_iload_n hx hb dX8_layNights_5 rfl (lv_at hl 1 rfl) ?_
  refine lv_iload_n hx hb dX8_layNights_6 rfl (lv_at hl 2 rfl) ?_
  obtain ⟨r_1, e7, h⟩ := bo_use h
  refine gc_i (va_runV (As := [.ref (ad (3)), .int (a1), .int (a2)]) (rest := []) hFx (tX8_isWanted l dC dI kI kZ ad 3 a1 a2 M (by decide) e7) ⟨(gc_B hFx ck_yX8_isWanted lkM_X8_210 ⟨Nat.le_of_ble_eq_true rfl, Nat.le_of_ble_eq_true rfl⟩ rfl rfl), hg _ vi_yX8_isWanted, hg _ vs_yX8_isWanted⟩ (gp_V m_KnB (m_KnW hKn) hP (m_rc8 (c := 0) (by decide) hKn hP)) rfl rfl hl.1 rfl (lv_room (Nat.le_of_ble_eq_true rfl)) dX8_layNights_7 ⟨Nat.zero_le _, Nat.zero_le _⟩) hS (fun H locs hP hS => ?_)
  have hP : va_P (dC, dI) vwCl (m_w kI kZ ad M.1 M.2) H := hP
  refine lv_if_eq (tgt := 15) hx hb dX8_layNights_10 (by decide) (fun c_2 => ?_) (fun c_2 => ?_)
  · have h := ife_t c_2 h
    refine lv_iconst (v := 1) hx hb dX8_layNights_15 (by decide) ?_
    refine lv_aload_n hx hb dX8_layNights_16 rfl (lv_at hl 0 rfl) ?_
    refine va_get (D := (dC, dI)) (ci := 8) (v := .ref (ad (1))) (C := RX8) (T := TX8) (N := 29) hx hb hg inX8 hown hKn.1 hP (0) (m_at8 (c := 0) (by decide)) rfl 0 (Nat.le_of_ble_eq_true rfl) (hg _ lkF_X8_7) (fun _ h9 => h9) rfl dX8_layNights_17 ?_
    refine lv_iconst (v := 2) hx hb dX8_layNights_20 (by decide) ?_
    refine m_iald (M := M) (a := 1) hx hb hKn hP (by decide) (j := 2) (by decide) (by decide) dX8_layNights_21 ?_
    refine lv_ishl hx hb dX8_layNights_22 ?_
    refine lv_istore_n (lv' := [(3, .int ((1 <<< ((M.1 1 2) &&& 31)))), (0, .ref (ad (0))), (1, .int (a1)), (2, .int (a2))]) hx hb dX8_layNights_23 rfl hl (Nat.le_of_ble_eq_true rfl) rfl (fun ls hl => ?_)
    refine lv_iconst (v := 0) hx hb dX8_layNights_24 (by decide) ?_
    refine lv_istore (lv' := [(4, .int (0)), (3, .int ((1 <<< ((M.1 1 2) &&& 31)))), (0, .ref (ad (0))), (1, .int (a1)), (2, .int (a2))]) hx hb dX8_layNights_25 hl (Nat.le_of_ble_eq_true rfl) rfl (fun ls hl => ?_)
    obtain ⟨K27, eK27, h⟩ := exK (Lp := fun K => FX8_layNights_L27 a1 a2 (1 <<< ((M.1 1 2) &&& 31)) K fuelN 0 M) h
    have hK27 : ∀ (M_3 : MM) (H : Heap) (locs : List Loc) (ls : Array Slot), va_P (dC, dI) vwCl (m_w kI kZ ad M_3.1 M_3.2) H → va_S (m_A ad) s.heap H locs → lv_has ls 8 [(0, .ref (ad (0))), (1, .int (a1)), (2, .int (a2)), (3, .int ((1 <<< ((M.1 1 2) &&& 31))))] → K27 M_3 = some (r0, M0) → W p l e (headSpec (wsA yX8_layNights cX8_layNights 8 (some .int)) ({ frames := 4, cells := 0, slots := 0, locals := 92 } : Room)).room s m (([.ref (ad (0)), .int (a1), .int (a2)] : List Value).toArray) below meth c H locs 0 0 (MQ below (va_Qi (fun (r : Int32) (u : MM) => r = r0 ∧ u = M0) (gI (m_Wd dC dI kI kZ ad) (m_Kn dC dI kI kZ ad)) (m_A ad)) (([.ref (ad (0)), .int (a1), .int (a2)] : List Value).toArray) s 0 0 (m_A ad)) (F0 m 84 ls []) := by
      intro M_3 H locs ls hP hS hl h
      have h := useK1 eK27 h
      refine lv_iconst (v := 0) hx hb dX8_layNights_84 (by decide) ?_
      refine lv_istore (lv' := [(4, .int (0)), (0, .ref (ad (0))), (1, .int (a1)), (2, .int (a2)), (3, .int ((1 <<< ((M.1 1 2) &&& 31))))]) hx hb dX8_layNights_85 hl (Nat.le_of_ble_eq_true rfl) rfl (fun ls hl => ?_)
      obtain ⟨K87, eK87, h⟩ := exK (Lp := fun K => FX8_layNights_L87 a1 a2 (1 <<< ((M.1 1 2) &&& 31)) K fuelN 0 M_3) h
      have hK87 : ∀ (M_4 : MM) (H : Heap) (locs : List Loc) (ls : Array Slot), va_P (dC, dI) vwCl (m_w kI kZ ad M_4.1 M_4.2) H → va_S (m_A ad) s.heap H locs → lv_has ls 8 [] → K87 M_4 = some (r0, M0) → W p l e (headSpec (wsA yX8_layNights cX8_layNights 8 (some .int)) ({ frames := 4, cells := 0, slots := 0, locals := 92 } : Room)).room s m (([.ref (ad (0)), .int (a1), .int (a2)] : List Value).toArray) below meth c H locs 0 0 (MQ below (va_Qi (fun (r : Int32) (u : MM) => r = r0 ∧ u = M0) (gI (m_Wd dC dI kI kZ ad) (m_Kn dC dI kI kZ ad)) (m_A ad)) (([.ref (ad (0)), .int (a1), .int (a2)] : List Value).toArray) s 0 0 (m_A ad)) (F0 m 208 ls []) := by
        intro M_4 H locs ls hP hS hl h
        have h := useK1 eK87 h
        refine lv_ldc hx hb hown (hg _ kc_X8_219) dX8_layNights_208 ?_
        exact W.iret (v := 1000000) hx hb hr (fun t ht hW => ⟨⟨1000000, M_4, rfl, Prod.mk.inj (Option.some.inj h), by rw [ht]; exact hP, m_KnW hKn t hW⟩, hS.F ht⟩) hS.2.2 dX8_layNights_210
      have hL87 : ∀ (k : Nat) (v4_5 : Int32) (M_6 : MM) (H : Heap) (locs : List Loc) (ls : Array Slot), va_P (dC, dI) vwCl (m_w kI kZ ad M_6.1 M_6.2) H → va_S (m_A ad) s.heap H locs → lv_has ls 8 [(0, .ref (ad (0))), (1, .int (a1)), (2, .int (a2)), (3, .int ((1 <<< ((M.1 1 2) &&& 31)))), (4, .int (v4_5))] → FX8_layNights_L87 a1 a2 (1 <<< ((M.1 1 2) &&& 31)) K87 k v4_5 M_6 = some (r0, M0) → W p l e (headSpec (wsA yX8_layNights cX8_layNights 8 (some .int)) ({ frames := 4, cells := 0, slots := 0, locals := 92 } : Room)).room s m (([.ref (ad (0)), .int (a1), .int (a2)] : List Value).toArray) below meth c H locs 0 0 (MQ below (va_Qi (fun (r : Int32) (u : MM) => r = r0 ∧ u = M0) (gI (m_Wd dC dI kI kZ ad) (m_Kn dC dI kI kZ ad)) (m_A ad)) (([.ref (ad (0)), .int (a1), .int (a2)] : List Value).toArray) s 0 0 (m_A ad)) (F0 m 87 ls []) := by
        intro k
        induction k with
        | zero => intro v4_5 M_6 H locs ls hP hS hl h; cases h
        | succ k ih87 =>
          intro v4_5 M_6 H locs ls hP hS hl h
          unfold FX8_layNights_L87 at h
          refine lv_iload hx hb dX8_layNights_87 (lv_at hl 4 rfl) ?_
          refine lv_iload_n hx hb dX8_layNights_89 rfl (lv_at hl 3 rfl) ?_
          refine lv_icmp_ge (tgt := 208) hx hb dX8_layNights_90 (by decide) (fun c_7 => ?_) (fun c_7 => ?_)
          · have h := ife_t c_7 h
            exact hK87 M_6 _ _ _ hP hS (lv_sub hl [] rfl) h
          · have h := ife_f c_7 h
            refine lv_aload_n hx hb dX8_layNights_93 rfl (lv_at hl 0 rfl) ?_
            refine lv_iload hx hb dX8_layNights_94 (lv_at hl 4 rfl) ?_
            refine lv_aload_n hx hb dX8_layNights_96 rfl (lv_at hl 0 rfl) ?_
            refine va_get (D := (dC, dI)) (ci := 8) (v := .ref (ad (3))) (C := RX8) (T := TX8) (N := 29) hx hb hg inX8 hown hKn.1 hP (0) (m_at8 (c := 0) (by decide)) rfl 2 (Nat.le_of_ble_eq_true rfl) (hg _ lkF_X8_16) (fun _ h9 => h9) rfl dX8_layNights_97 ?_
            refine lv_bipush (v := 13) hx hb dX8_layNights_100 (by decide) ?_
            refine m_iald (M := M_6) (a := 3) hx hb hKn hP (by decide) (j := 13) (by decide) (by decide) dX8_layNights_102 ?_
            obtain ⟨r_8, e103, h⟩ := bo_use h
            refine gc_i (va_runV (As := [.int (v4_5), .int ((M_6.1 3 13))]) (rest := []) hFx (tX8_maySheet l dC dI kI kZ ad v4_5 (M_6.1 3 13) M_6  e103) ⟨(gc_B hFx ck_yX8_maySheet lkM_X8_176 ⟨Nat.le_of_ble_eq_true rfl, Nat.le_of_ble_eq_true rfl⟩ rfl rfl), hg _ vi_yX8_maySheet, hg _ vs_yX8_maySheet⟩ (gp_V m_KnB (m_KnW hKn) hP (m_rc8 (c := 0) (by decide) hKn hP)) rfl rfl hl.1 rfl (lv_room (Nat.le_of_ble_eq_true rfl)) dX8_layNights_103 ⟨Nat.zero_le _, Nat.zero_le _⟩) hS (fun H locs hP hS => ?_)
            have hP : va_P (dC, dI) vwCl (m_w kI kZ ad M_6.1 M_6.2) H := hP
            obtain ⟨J202, eJ202, h⟩ := jn_use h
            have hJ202 : ∀ (M_9 : MM) (H : Heap) (locs : List Loc) (ls : Array Slot), va_P (dC, dI) vwCl (m_w kI kZ ad M_9.1 M_9.2) H → va_S (m_A ad) s.heap H locs → lv_has ls 8 [(0, .ref (ad (0))), (1, .int (a1)), (2, .int (a2)), (3, .int ((1 <<< ((M.1 1 2) &&& 31)))), (4, .int (v4_5))] → J202 M_9 = some (r0, M0) → W p l e (headSpec (wsA yX8_layNights cX8_layNights 8 (some .int)) ({ frames := 4, cells := 0, slots := 0, locals := 92 } : Room)).room s m (([.ref (ad (0)), .int (a1), .int (a2)] : List Value).toArray) below meth c H locs 0 0 (MQ below (va_Qi (fun (r : Int32) (u : MM) => r = r0 ∧ u = M0) (gI (m_Wd dC dI kI kZ ad) (m_Kn dC dI kI kZ ad)) (m_A ad)) (([.ref (ad (0)), .int (a1), .int (a2)] : List Value).toArray) s 0 0 (m_A ad)) (F0 m 202 ls []) := by
              intro M_9 H locs ls hP hS hl h
              have h := useK1 eJ202 h
              refine lv_iinc (v := (v4_5 + 1)) (lv' := [(4, .int ((v4_5 + 1))), (0, .ref (ad (0))), (1, .int (a1)), (2, .int (a2)), (3, .int ((1 <<< ((M.1 1 2) &&& 31))))]) hx hb dX8_layNights_202 hl (k := 4) rfl rfl (Nat.le_of_ble_eq_true rfl) rfl (fun ls hl => ?_)
              refine lv_goto (tgt := 87) hx hb dX8_layNights_205 (by decide) ?_
              exact ih87 (v4_5 + 1) M_9 _ _ _ hP hS (lv_sub hl [1, 2, 3, 4, 0] rfl) h
            refine lv_if_eq (tgt := 202) hx hb dX8_layNights_106 (by decide) (fun c_10 => ?_) (fun c_10 => ?_)
            · have h := ife_t c_10 h
              exact hJ202 M_6 _ _ _ hP hS (lv_sub hl [0, 1, 2, 3, 4] rfl) h
            · have h := ife_f c_10 h
              refine lv_aload_n hx hb dX8_layNights_109 rfl (lv_at hl 0 rfl) ?_
              refine lv_iload hx hb dX8_layNights_110 (lv_at hl 4 rfl) ?_
              obtain ⟨r_11, M_12, e112, h⟩ := bd_use h
              refine gc_i (va_runV (As := [.int (v4_5)]) (rest := []) hFx (tX8_triesTonight l dC dI kI kZ ad v4_5 M_6  e112) ⟨(gc_B hFx ck_yX8_triesTonight lkM_X8_207 ⟨Nat.le_of_ble_eq_true rfl, Nat.le_of_ble_eq_true rfl⟩ rfl rfl), hg _ vi_yX8_triesTonight, hg _ vs_yX8_triesTonight⟩ (gp_V m_KnB (m_KnW hKn) hP (m_rc8 (c := 0) (by decide) hKn hP)) rfl rfl hl.1 rfl (lv_room (Nat.le_of_ble_eq_true rfl)) dX8_layNights_112 ⟨Nat.zero_le _, Nat.zero_le _⟩) hS (fun H locs hP hS => ?_)
              have hP : va_P (dC, dI) vwCl (m_w kI kZ ad M_12.1 M_12.2) H := hP
              refine lv_istore (lv' := [(5, .int (r_11)), (0, .ref (ad (0))), (1, .int (a1)), (2, .int (a2)), (3, .int ((1 <<< ((M.1 1 2) &&& 31)))), (4, .int (v4_5))]) hx hb dX8_layNights_115 hl (Nat.le_of_ble_eq_true rfl) rfl (fun ls hl => ?_)
              refine lv_iconst (v := 0) hx hb dX8_layNights_117 (by decide) ?_
              refine lv_istore (lv' := [(6, .int (0)), (5, .int (r_11)), (0, .ref (ad (0))), (1, .int (a1)), (2, .int (a2)), (3, .int ((1 <<< ((M.1 1 2) &&& 31)))), (4, .int (v4_5))]) hx hb dX8_layNights_118 hl (Nat.le_of_ble_eq_true rfl) rfl (fun ls hl => ?_)
              obtain ⟨K120, eK120, h⟩ := exK (Lp := fun K87 => FX8_layNights_L120 a1 a2 (1 <<< ((M.1 1 2) &&& 31)) v4_5 K87 fuelN 0 M_12) h
              have hK120 : ∀ (M_13 : MM) (H : Heap) (locs : List Loc) (ls : Array Slot), va_P (dC, dI) vwCl (m_w kI kZ ad M_13.1 M_13.2) H → va_S (m_A ad) s.heap H locs → lv_has ls 8 [(0, .ref (ad (0))), (1, .int (a1)), (2, .int (a2)), (3, .int ((1 <<< ((M.1 1 2) &&& 31)))), (4, .int (v4_5))] → K120 M_13 = some (r0, M0) → W p l e (headSpec (wsA yX8_layNights cX8_layNights 8 (some .int)) ({ frames := 4, cells := 0, slots := 0, locals := 92 } : Room)).room s m (([.ref (ad (0)), .int (a1), .int (a2)] : List Value).toArray) below meth c H locs 0 0 (MQ below (va_Qi (fun (r : Int32) (u : MM) => r = r0 ∧ u = M0) (gI (m_Wd dC dI kI kZ ad) (m_Kn dC dI kI kZ ad)) (m_A ad)) (([.ref (ad (0)), .int (a1), .int (a2)] : List Value).toArray) s 0 0 (m_A ad)) (F0 m 202 ls []) := by
                intro M_13 H locs ls hP hS hl h
                have h := useK1 eK120 h
                exact hJ202 M_13 _ _ _ hP hS (lv_sub hl [0, 1, 2, 3, 4] rfl) h
              have hL120 : ∀ (k : Nat) (v6_14 : Int32) (M_15 : MM) (H : Heap) (locs : List Loc) (ls : Array Slot), va_P (dC, dI) vwCl (m_w kI kZ ad M_15.1 M_15.2) H → va_S (m_A ad) s.heap H locs → lv_has ls 8 [(0, .ref (ad (0))), (1, .int (a1)), (2, .int (a2)), (3, .int ((1 <<< ((M.1 1 2) &&& 31)))), (4, .int (v4_5)), (6, .int (v6_14))] → FX8_layNights_L120 a1 a2 (1 <<< ((M.1 1 2) &&& 31)) v4_5 K120 k v6_14 M_15 = some (r0, M0) → W p l e (headSpec (wsA yX8_layNights cX8_layNights 8 (some .int)) ({ frames := 4, cells := 0, slots := 0, locals := 92 } : Room)).room s m (([.ref (ad (0)), .int (a1), .int (a2)] : List Value).toArray) below meth c H locs 0 0 (MQ below (va_Qi (fun (r : Int32) (u : MM) => r = r0 ∧ u = M0) (gI (m_Wd dC dI kI kZ ad) (m_Kn dC dI kI kZ ad)) (m_A ad)) (([.ref (ad (0)), .int (a1), .int (a2)] : List Value).toArray) s 0 0 (m_A ad)) (F0 m 120 ls []) := by
                intro k
                induction k with
                | zero => intro v6_14 M_15 H locs ls hP hS hl h; cases h
                | succ k ih120 =>
                  intro v6_14 M_15 H locs ls hP hS hl h
                  unfold FX8_layNights_L120 at h
                  refine lv_iload hx hb dX8_layNights_120 (lv_at hl 5 rfl) ?_
                  refine lv_iload_n hx hb dX8_layNights_122 rfl (lv_at hl 3 rfl) ?_
                  refine lv_icmp_ge (tgt := 202) hx hb dX8_layNights_123 (by decide) (fun c_16 => ?_) (fun c_16 => ?_)
                  · have h := ife_t c_16 h
                    exact hK120 M_15 _ _ _ hP hS (lv_sub hl [0, 1, 2, 3, 4] rfl) h
                  · have h := ife_f c_16 h
                    refine lv_aload_n hx hb dX8_layNights_126 rfl (lv_at hl 0 rfl) ?_
                    refine lv_iload hx hb dX8_layNights_127 (lv_at hl 5 rfl) ?_
                    refine lv_aload_n hx hb dX8_layNights_129 rfl (lv_at hl 0 rfl) ?_
                    refine va_get (D := (dC, dI)) (ci := 8) (v := .ref (ad (3))) (C := RX8) (T := TX8) (N := 29) hx hb hg inX8 hown hKn.1 hP (0) (m_at8 (c := 0) (by decide)) rfl 2 (Nat.le_of_ble_eq_true rfl) (hg _ lkF_X8_16) (fun _ h9 => h9) rfl dX8_layNights_130 ?_
                    refine lv_bipush (v := 13) hx hb dX8_layNights_133 (by decide) ?_
                    refine m_iald (M := M_15) (a := 3) hx hb hKn hP (by decide) (j := 13) (by decide) (by decide) dX8_layNights_135 ?_
                    obtain ⟨r_17, e136, h⟩ := bo_use h
                    refine gc_i (va_runV (As := [.int (v6_14), .int ((M_15.1 3 13))]) (rest := []) hFx (tX8_maySheet l dC dI kI kZ ad v6_14 (M_15.1 3 13) M_15  e136) ⟨(gc_B hFx ck_yX8_maySheet lkM_X8_176 ⟨Nat.le_of_ble_eq_true rfl, Nat.le_of_ble_eq_true rfl⟩ rfl rfl), hg _ vi_yX8_maySheet, hg _ vs_yX8_maySheet⟩ (gp_V m_KnB (m_KnW hKn) hP (m_rc8 (c := 0) (by decide) hKn hP)) rfl rfl hl.1 rfl (lv_room (Nat.le_of_ble_eq_true rfl)) dX8_layNights_136 ⟨Nat.zero_le _, Nat.zero_le _⟩) hS (fun H locs hP hS => ?_)
                    have hP : va_P (dC, dI) vwCl (m_w kI kZ ad M_15.1 M_15.2) H := hP
                    obtain ⟨J196, eJ196, h⟩ := jn_use h
                    have hJ196 : ∀ (M_18 : MM) (H : Heap) (locs : List Loc) (ls : Array Slot), va_P (dC, dI) vwCl (m_w kI kZ ad M_18.1 M_18.2) H → va_S (m_A ad) s.heap H locs → lv_has ls 8 [(0, .ref (ad (0))), (1, .int (a1)), (2, .int (a2)), (3, .int ((1 <<< ((M.1 1 2) &&& 31)))), (4, .int (v4_5)), (6, .int (v6_14))] → J196 M_18 = some (r0, M0) → W p l e (headSpec (wsA yX8_layNights cX8_layNights 8 (some .int)) ({ frames := 4, cells := 0, slots := 0, locals := 92 } : Room)).room s m (([.ref (ad (0)), .int (a1), .int (a2)] : List Value).toArray) below meth c H locs 0 0 (MQ below (va_Qi (fun (r : Int32) (u : MM) => r = r0 ∧ u = M0) (gI (m_Wd dC dI kI kZ ad) (m_Kn dC dI kI kZ ad)) (m_A ad)) (([.ref (ad (0)), .int (a1), .int (a2)] : List Value).toArray) s 0 0 (m_A ad)) (F0 m 196 ls []) := by
                      intro M_18 H locs ls hP hS hl h
                      have h := useK1 eJ196 h
                      refine lv_iinc (v := (v6_14 + 1)) (lv' := [(6, .int ((v6_14 + 1))), (0, .ref (ad (0))), (1, .int (a1)), (2, .int (a2)), (3, .int ((1 <<< ((M.1 1 2) &&& 31)))), (4, .int (v4_5))]) hx hb dX8_layNights_196 hl (k := 5) rfl rfl (Nat.le_of_ble_eq_true rfl) rfl (fun ls hl => ?_)
                      refine lv_goto (tgt := 120) hx hb dX8_layNights_199 (by decide) ?_
                      exact ih120 (v6_14 + 1) M_18 _ _ _ hP hS (lv_sub hl [1, 2, 3, 4, 5, 0] rfl) h
                    refine lv_if_eq (tgt := 196) hx hb dX8_layNights_139 (by decide) (fun c_19 => ?_) (fun c_19 => ?_)
                    · have h := ife_t c_19 h
                      exact hJ196 M_15 _ _ _ hP hS (lv_sub hl [0, 1, 2, 3, 4, 5] rfl) h
                    · have h := ife_f c_19 h
                      refine lv_aload_n hx hb dX8_layNights_142 rfl (lv_at hl 0 rfl) ?_
                      refine va_get (D := (dC, dI)) (ci := 8) (v := .ref (ad (10))) (C := RX8) (T := TX8) (N := 29) hx hb hg inX8 hown hKn.1 hP (0) (m_at8 (c := 0) (by decide)) rfl 21 (Nat.le_of_ble_eq_true rfl) (hg _ lkF_X8_42) (fun _ h9 => h9) rfl dX8_layNights_143 ?_
                      refine lv_iconst (v := 0) hx hb dX8_layNights_146 (by decide) ?_
                      refine lv_aload_n hx hb dX8_layNights_147 rfl (lv_at hl 0 rfl) ?_
                      refine va_get (D := (dC, dI)) (ci := 8) (v := .ref (ad (11))) (C := RX8) (T := TX8) (N := 29) hx hb hg inX8 hown hKn.1 hP (0) (m_at8 (c := 0) (by decide)) rfl 22 (Nat.le_of_ble_eq_true rfl) (hg _ lkF_X8_45) (fun _ h9 => h9) rfl dX8_layNights_148 ?_
                      refine lv_iconst (v := 0) hx hb dX8_layNights_151 (by decide) ?_
                      refine lv_bipush (v := 17) hx hb dX8_layNights_152 (by decide) ?_
                      obtain ⟨M_20, e154, h⟩ := bo_use h
                      refine gc_v (va_runS (As := [.ref (ad (10)), .int (0), .ref (ad (11)), .int (0), .int (17)]) (rest := []) hFx (tX8_copies l dC dI kI kZ ad 10 0 11 0 17 M_15 (by decide) (by decide) e154) ⟨(gc_B hFx ck_yX8_copies lkM_X8_165 ⟨Nat.le_of_ble_eq_true rfl, Nat.le_of_ble_eq_true rfl⟩ rfl rfl), hg _ st_yX8_copies⟩ (gp_S m_KnB (m_KnW hKn) hP) rfl rfl hl.1 rfl (lv_room (Nat.le_of_ble_eq_true rfl)) dX8_layNights_154 ⟨Nat.zero_le _, Nat.zero_le _⟩) hS (fun H locs hP hS => ?_)
                      have hP : va_P (dC, dI) vwCl (m_w kI kZ ad M_20.1 M_20.2) H := hP
                      refine lv_aload_n hx hb dX8_layNights_157 rfl (lv_at hl 0 rfl) ?_
                      refine lv_aload_n hx hb dX8_layNights_158 rfl (lv_at hl 0 rfl) ?_
                      refine va_get (D := (dC, dI)) (ci := 8) (v := .ref (ad (11))) (C := RX8) (T := TX8) (N := 29) hx hb hg inX8 hown hKn.1 hP (0) (m_at8 (c := 0) (by decide)) rfl 22 (Nat.le_of_ble_eq_true rfl) (hg _ lkF_X8_45) (fun _ h9 => h9) rfl dX8_layNights_159 ?_
                      refine lv_iload hx hb dX8_layNights_162 (lv_at hl 5 rfl) ?_
                      obtain ⟨r_21, M_22, e164, h⟩ := bd_use h
                      refine gc_i (va_runV (As := [.ref (ad (11)), .int (v6_14)]) (rest := []) hFx (tX8_readsSheet l dC dI kI kZ ad 11 v6_14 M_20 (by decide) e164) ⟨(gc_B hFx ck_yX8_readsSheet lkM_X8_169 ⟨Nat.le_of_ble_eq_true rfl, Nat.le_of_ble_eq_true rfl⟩ rfl rfl), hg _ vi_yX8_readsSheet, hg _ vs_yX8_readsSheet⟩ (gp_V m_KnB (m_KnW hKn) hP (m_rc8 (c := 0) (by decide) hKn hP)) rfl rfl hl.1 rfl (lv_room (Nat.le_of_ble_eq_true rfl)) dX8_layNights_164 ⟨Nat.zero_le _, Nat.zero_le _⟩) hS (fun H locs hP hS => ?_)
                      have hP : va_P (dC, dI) vwCl (m_w kI kZ ad M_22.1 M_22.2) H := hP
                      refine lv_istore (lv' := [(7, .int (r_21)), (0, .ref (ad (0))), (1, .int (a1)), (2, .int (a2)), (3, .int ((1 <<< ((M.1 1 2) &&& 31)))), (4, .int (v4_5)), (6, .int (v6_14))]) hx hb dX8_layNights_167 hl (Nat.le_of_ble_eq_true rfl) rfl (fun ls hl => ?_)
                      refine lv_aload_n hx hb dX8_layNights_169 rfl (lv_at hl 1 rfl) ?_
                      refine lv_aload_n hx hb dX8_layNights_170 rfl (lv_at hl 1 rfl) ?_
                      refine va_get (D := (dC, dI)) (ci := 8) (v := .ref (ad (11))) (C := RX8) (T := TX8) (N := 29) hx hb hg inX8 hown hKn.1 hP (0) (m_at8 (c := 0) (by decide)) rfl 22 (Nat.le_of_ble_eq_true rfl) (hg _ lkF_X8_45) (fun _ h9 => h9) rfl dX8_layNights_171 ?_
                      refine lv_iload_n hx hb dX8_layNights_174 rfl (lv_at hl 2 rfl) ?_
                      refine lv_iload_n hx hb dX8_layNights_175 rfl (lv_at hl 3 rfl) ?_
                      obtain ⟨r_23, e176, h⟩ := bo_use h
                      refine gc_i (va_runV (As := [.ref (ad (11)), .int (a1), .int (a2)]) (rest := []) hFx (tX8_isWanted l dC dI kI kZ ad 11 a1 a2 M_22 (by decide) e176) ⟨(gc_B hFx ck_yX8_isWanted lkM_X8_210 ⟨Nat.le_of_ble_eq_true rfl, Nat.le_of_ble_eq_true rfl⟩ rfl rfl), hg _ vi_yX8_isWanted, hg _ vs_yX8_isWanted⟩ (gp_V m_KnB (m_KnW hKn) hP (m_rc8 (c := 0) (by decide) hKn hP)) rfl rfl hl.1 rfl (lv_room (Nat.le_of_ble_eq_true rfl)) dX8_layNights_176 ⟨Nat.zero_le _, Nat.zero_le _⟩) hS (fun H locs hP hS => ?_)
                      have hP : va_P (dC, dI) vwCl (m_w kI kZ ad M_22.1 M_22.2) H := hP
                      refine lv_if_eq (tgt := 196) hx hb dX8_layNights_179 (by decide) (fun c_24 => ?_) (fun c_24 => ?_)
                      · have h := ife_t c_24 h
                        exact hJ196 M_22 _ _ _ hP hS (lv_sub hl [1, 2, 3, 4, 5, 6] rfl) h
                      · have h := ife_f c_24 h
                        refine lv_aload_n hx hb dX8_layNights_182 rfl (lv_at hl 1 rfl) ?_
                        refine lv_iload hx hb dX8_layNights_183 (lv_at hl 5 rfl) ?_
                        refine va_put (D := (dC, dI)) (ci := 8) (v := .int (v4_5)) (ty := .int) (C := RX8) (T := TX8) (N := 29) hx hb hg inX8 tyX8 tyX8_ok nmX8 hown hKn.1 hP (m_D hKn.2.1) hS (0) (m_at8 (c := 0) (by decide)) rfl 23 (Nat.le_of_ble_eq_true rfl) (hg _ lkF_X8_213) (fun _ h9 => h9) rfl (by decide +kernel) rfl rfl (Nat.le_of_ble_eq_true rfl) dX8_layNights_185 (fun H locs hP _ hS => ?_)
                        have hP : va_P (dC, dI) vwCl (m_w kI kZ ad (um M_22 0 23 v4_5).1 (um M_22 0 23 v4_5).2) H := vp_eq (m_put8_23 (by decide) _) hP
                        refine lv_aload_n hx hb dX8_layNights_188 rfl (lv_at hl 1 rfl) ?_
                        refine lv_iload hx hb dX8_layNights_189 (lv_at hl 6 rfl) ?_
                        refine va_put (D := (dC, dI)) (ci := 8) (v := .int (v6_14)) (ty := .int) (C := RX8) (T := TX8) (N := 29) hx hb hg inX8 tyX8 tyX8_ok nmX8 hown hKn.1 hP (m_D hKn.2.1) hS (0) (m_at8 (c := 0) (by decide)) rfl 24 (Nat.le_of_ble_eq_true rfl) (hg _ lkF_X8_216) (fun _ h9 => h9) rfl (by decide +kernel) rfl rfl (Nat.le_of_ble_eq_true rfl) dX8_layNights_191 (fun H locs hP _ hS => ?_)
                        have hP : va_P (dC, dI) vwCl (m_w kI kZ ad (um (um M_22 0 23 v4_5) 0 24 v6_14).1 (um (um M_22 0 23 v4_5) 0 24 v6_14).2) H := vp_eq (m_put8_24 (by decide) _) hP
                        refine lv_iconst (v := 2) hx hb dX8_layNights_194 (by decide) ?_
                        exact W.iret (v := 2) hx hb hr (fun t ht hW => ⟨⟨2, um (um M_22 0 23 v4_5) 0 24 v6_14, rfl, Prod.mk.inj (Option.some.inj h), by rw [ht]; exact hP, m_KnW hKn t hW⟩, hS.F ht⟩) hS.2.2 dX8_layNights_195
              exact hL120 fuelN 0 M_12 _ _ _ hP hS (lv_sub hl [2, 3, 4, 5, 6, 0] rfl) h
      exact hL87 fuelN 0 M_3 _ _ _ hP hS (lv_sub hl [1, 2, 3, 4, 0] rfl) h
    have hL27 : ∀ (k : Nat) (v4_25 : Int32) (M_26 : MM) (H : Heap) (locs : List Loc) (ls : Array Slot), va_P (dC, dI) vwCl (m_w kI kZ ad M_26.1 M_26.2) H → va_S (m_A ad) s.heap H locs → lv_has ls 8 [(0, .ref (ad (0))), (1, .int (a1)), (2, .int (a2)), (3, .int ((1 <<< ((M.1 1 2) &&& 31)))), (4, .int (v4_25))] → FX8_layNights_L27 a1 a2 (1 <<< ((M.1 1 2) &&& 31)) K27 k v4_25 M_26 = some (r0, M0) → W p l e (headSpec (wsA yX8_layNights cX8_layNights 8 (some .int)) ({ frames := 4, cells := 0, slots := 0, locals := 92 } : Room)).room s m (([.ref (ad (0)), .int (a1), .int (a2)] : List Value).toArray) below meth c H locs 0 0 (MQ below (va_Qi (fun (r : Int32) (u : MM) => r = r0 ∧ u = M0) (gI (m_Wd dC dI kI kZ ad) (m_Kn dC dI kI kZ ad)) (m_A ad)) (([.ref (ad (0)), .int (a1), .int (a2)] : List Value).toArray) s 0 0 (m_A ad)) (F0 m 27 ls []) := by
      intro k
      induction k with
      | zero => intro v4_25 M_26 H locs ls hP hS hl h; cases h
      | succ k ih27 =>
        intro v4_25 M_26 H locs ls hP hS hl h
        unfold FX8_layNights_L27 at h
        refine lv_iload hx hb dX8_layNights_27 (lv_at hl 4 rfl) ?_
        refine lv_iload_n hx hb dX8_layNights_29 rfl (lv_at hl 3 rfl) ?_
        refine lv_icmp_ge (tgt := 84) hx hb dX8_layNights_30 (by decide) (fun c_27 => ?_) (fun c_27 => ?_)
        · have h := ife_t c_27 h
          exact hK27 M_26 _ _ _ hP hS (lv_sub hl [0, 1, 2, 3] rfl) h
        · have h := ife_f c_27 h
          refine lv_aload_n hx hb dX8_layNights_33 rfl (lv_at hl 0 rfl) ?_
          refine lv_iload hx hb dX8_layNights_34 (lv_at hl 4 rfl) ?_
          refine lv_aload_n hx hb dX8_layNights_36 rfl (lv_at hl 0 rfl) ?_
          refine va_get (D := (dC, dI)) (ci := 8) (v := .ref (ad (3))) (C := RX8) (T := TX8) (N := 29) hx hb hg inX8 hown hKn.1 hP (0) (m_at8 (c := 0) (by decide)) rfl 2 (Nat.le_of_ble_eq_true rfl) (hg _ lkF_X8_16) (fun _ h9 => h9) rfl dX8_layNights_37 ?_
          refine lv_bipush (v := 13) hx hb dX8_layNights_40 (by decide) ?_
          refine m_iald (M := M_26) (a := 3) hx hb hKn hP (by decide) (j := 13) (by decide) (by decide) dX8_layNights_42 ?_
          obtain ⟨r_28, e43, h⟩ := bo_use h
          refine gc_i (va_runV (As := [.int (v4_25), .int ((M_26.1 3 13))]) (rest := []) hFx (tX8_maySheet l dC dI kI kZ ad v4_25 (M_26.1 3 13) M_26  e43) ⟨(gc_B hFx ck_yX8_maySheet lkM_X8_176 ⟨Nat.le_of_ble_eq_true rfl, Nat.le_of_ble_eq_true rfl⟩ rfl rfl), hg _ vi_yX8_maySheet, hg _ vs_yX8_maySheet⟩ (gp_V m_KnB (m_KnW hKn) hP (m_rc8 (c := 0) (by decide) hKn hP)) rfl rfl hl.1 rfl (lv_room (Nat.le_of_ble_eq_true rfl)) dX8_layNights_43 ⟨Nat.zero_le _, Nat.zero_le _⟩) hS (fun H locs hP hS => ?_)
          have hP : va_P (dC, dI) vwCl (m_w kI kZ ad M_26.1 M_26.2) H := hP
          obtain ⟨J78, eJ78, h⟩ := jn_use h
          have hJ78 : ∀ (M_29 : MM) (H : Heap) (locs : List Loc) (ls : Array Slot), va_P (dC, dI) vwCl (m_w kI kZ ad M_29.1 M_29.2) H → va_S (m_A ad) s.heap H locs → lv_has ls 8 [(0, .ref (ad (0))), (1, .int (a1)), (2, .int (a2)), (3, .int ((1 <<< ((M.1 1 2) &&& 31)))), (4, .int (v4_25))] → J78 M_29 = some (r0, M0) → W p l e (headSpec (wsA yX8_layNights cX8_layNights 8 (some .int)) ({ frames := 4, cells := 0, slots := 0, locals := 92 } : Room)).room s m (([.ref (ad (0)), .int (a1), .int (a2)] : List Value).toArray) below meth c H locs 0 0 (MQ below (va_Qi (fun (r : Int32) (u : MM) => r = r0 ∧ u = M0) (gI (m_Wd dC dI kI kZ ad) (m_Kn dC dI kI kZ ad)) (m_A ad)) (([.ref (ad (0)), .int (a1), .int (a2)] : List Value).toArray) s 0 0 (m_A ad)) (F0 m 78 ls []) := by
            intro M_29 H locs ls hP hS hl h
            have h := useK1 eJ78 h
            refine lv_iinc (v := (v4_25 + 1)) (lv' := [(4, .int ((v4_25 + 1))), (0, .ref (ad (0))), (1, .int (a1)), (2, .int (a2)), (3, .int ((1 <<< ((M.1 1 2) &&& 31))))]) hx hb dX8_layNights_78 hl (k := 4) rfl rfl (Nat.le_of_ble_eq_true rfl) rfl (fun ls hl => ?_)
            refine lv_goto (tgt := 27) hx hb dX8_layNights_81 (by decide) ?_
            exact ih27 (v4_25 + 1) M_29 _ _ _ hP hS (lv_sub hl [1, 2, 3, 4, 0] rfl) h
          refine lv_if_eq (tgt := 78) hx hb dX8_layNights_46 (by decide) (fun c_30 => ?_) (fun c_30 => ?_)
          · have h := ife_t c_30 h
            exact hJ78 M_26 _ _ _ hP hS (lv_sub hl [0, 1, 2, 3, 4] rfl) h
          · have h := ife_f c_30 h
            refine lv_aload_n hx hb dX8_layNights_49 rfl (lv_at hl 0 rfl) ?_
            refine lv_iload hx hb dX8_layNights_50 (lv_at hl 4 rfl) ?_
            obtain ⟨r_31, M_32, e52, h⟩ := bd_use h
            refine gc_i (va_runV (As := [.int (v4_25)]) (rest := []) hFx (tX8_triesTonight l dC dI kI kZ ad v4_25 M_26  e52) ⟨(gc_B hFx ck_yX8_triesTonight lkM_X8_207 ⟨Nat.le_of_ble_eq_true rfl, Nat.le_of_ble_eq_true rfl⟩ rfl rfl), hg _ vi_yX8_triesTonight, hg _ vs_yX8_triesTonight⟩ (gp_V m_KnB (m_KnW hKn) hP (m_rc8 (c := 0) (by decide) hKn hP)) rfl rfl hl.1 rfl (lv_room (Nat.le_of_ble_eq_true rfl)) dX8_layNights_52 ⟨Nat.zero_le _, Nat.zero_le _⟩) hS (fun H locs hP hS => ?_)
            have hP : va_P (dC, dI) vwCl (m_w kI kZ ad M_32.1 M_32.2) H := hP
            refine lv_istore (lv' := [(5, .int (r_31)), (0, .ref (ad (0))), (1, .int (a1)), (2, .int (a2)), (3, .int ((1 <<< ((M.1 1 2) &&& 31)))), (4, .int (v4_25))]) hx hb dX8_layNights_55 hl (Nat.le_of_ble_eq_true rfl) rfl (fun ls hl => ?_)
            refine lv_aload_n hx hb dX8_layNights_57 rfl (lv_at hl 1 rfl) ?_
            refine lv_aload_n hx hb dX8_layNights_58 rfl (lv_at hl 1 rfl) ?_
            refine va_get (D := (dC, dI)) (ci := 8) (v := .ref (ad (10))) (C := RX8) (T := TX8) (N := 29) hx hb hg inX8 hown hKn.1 hP (0) (m_at8 (c := 0) (by decide)) rfl 21 (Nat.le_of_ble_eq_true rfl) (hg _ lkF_X8_42) (fun _ h9 => h9) rfl dX8_layNights_59 ?_
            refine lv_iload_n hx hb dX8_layNights_62 rfl (lv_at hl 2 rfl) ?_
            refine lv_iload_n hx hb dX8_layNights_63 rfl (lv_at hl 3 rfl) ?_
            obtain ⟨r_33, e64, h⟩ := bo_use h
            refine gc_i (va_runV (As := [.ref (ad (10)), .int (a1), .int (a2)]) (rest := []) hFx (tX8_isWanted l dC dI kI kZ ad 10 a1 a2 M_32 (by decide) e64) ⟨(gc_B hFx ck_yX8_isWanted lkM_X8_210 ⟨Nat.le_of_ble_eq_true rfl, Nat.le_of_ble_eq_true rfl⟩ rfl rfl), hg _ vi_yX8_isWanted, hg _ vs_yX8_isWanted⟩ (gp_V m_KnB (m_KnW hKn) hP (m_rc8 (c := 0) (by decide) hKn hP)) rfl rfl hl.1 rfl (lv_room (Nat.le_of_ble_eq_true rfl)) dX8_layNights_64 ⟨Nat.zero_le _, Nat.zero_le _⟩) hS (fun H locs hP hS => ?_)
            have hP : va_P (dC, dI) vwCl (m_w kI kZ ad M_32.1 M_32.2) H := hP
            refine lv_if_eq (tgt := 78) hx hb dX8_layNights_67 (by decide) (fun c_34 => ?_) (fun c_34 => ?_)
            · have h := ife_t c_34 h
              exact hJ78 M_32 _ _ _ hP hS (lv_sub hl [1, 2, 3, 4, 5] rfl) h
            · have h := ife_f c_34 h
              refine lv_aload_n hx hb dX8_layNights_70 rfl (lv_at hl 1 rfl) ?_
              refine lv_iload hx hb dX8_layNights_71 (lv_at hl 5 rfl) ?_
              refine va_put (D := (dC, dI)) (ci := 8) (v := .int (v4_25)) (ty := .int) (C := RX8) (T := TX8) (N := 29) hx hb hg inX8 tyX8 tyX8_ok nmX8 hown hKn.1 hP (m_D hKn.2.1) hS (0) (m_at8 (c := 0) (by decide)) rfl 23 (Nat.le_of_ble_eq_true rfl) (hg _ lkF_X8_213) (fun _ h9 => h9) rfl (by decide +kernel) rfl rfl (Nat.le_of_ble_eq_true rfl) dX8_layNights_73 (fun H locs hP _ hS => ?_)
              have hP : va_P (dC, dI) vwCl (m_w kI kZ ad (um M_32 0 23 v4_25).1 (um M_32 0 23 v4_25).2) H := vp_eq (m_put8_23 (by decide) _) hP
              refine lv_iconst (v := 1) hx hb dX8_layNights_76 (by decide) ?_
              exact W.iret (v := 1) hx hb hr (fun t ht hW => ⟨⟨1, um M_32 0 23 v4_25, rfl, Prod.mk.inj (Option.some.inj h), by rw [ht]; exact hP, m_KnW hKn t hW⟩, hS.F ht⟩) hS.2.2 dX8_layNights_77
    exact hL27 fuelN 0 M _ _ _ hP hS (lv_sub hl [2, 3, 4, 1, 0] rfl) h
  · have h := ife_f c_2 h
    refine lv_iconst (v := 0) hx hb dX8_layNights_13 (by decide) ?_
    exact W.iret (v := 0) hx hb hr (fun t ht hW => ⟨⟨0, M, rfl, Prod.mk.inj (Option.some.inj h), by rw [ht]; exact hP, m_KnW hKn t hW⟩, hS.F ht⟩) hS.2.2 dX8_layNights_14
noncomputable def FX8_least_L29 (b1 : Int32) (b2 : Int32) (K : Int32 → MM → Option (Int32 × MM)) (k : Nat) (v3_10 : Int32) (v4_11 : Int32) (M_12 : MM) : Option (Int32 × MM) := match k with
  | 0 => none
  | k + 1 => (if (1 <<< ((M_12.1 1 2) &&& 31)) ≤ v4_11 then K v3_10 M_12 else jn (α := Int32 → Option (Int32 × MM)) (fun (s_14 : Int32) => jn (α := Int32 → MM → Option (Int32 × MM)) (fun (s_15 : Int32) (M_16 : MM) => FX8_least_L29 b1 b2 K k s_15 (v4_11 + 1) M_16) (fun J110 => jn (α := MM → Option (Int32 × MM)) (fun (M_17 : MM) => J110 v3_10 M_17) (fun J109 => (if s_14 = 0 then J109 M_12 else bd (FX8_convinces b1 ((M_12.1 3 13) ||| v4_11) M_12) (fun (r_19 : Int32) (M_20 : MM) => (if r_19 = 0 then J109 M_20 else J110 v4_11 M_20)))))) (fun J79 => jn (α := Option (Int32 × MM)) (J79 0) (fun J78 => (if (v4_11 &&& (M_12.1 3 13)) = 0 then jn (α := Option (Int32 × MM)) (J79 1) (fun J74 => (if v3_10 = (-1) then J74 else bo (FX8_costOf v4_11 M_12) (fun (r_24 : Int32) => bo (FX8_costOf v3_10 M_12) (fun (r_25 : Int32) => (if r_25 ≤ r_24 then J78 else J74))))) else J78))))
noncomputable def FX8_least (a1 : Int32) (a2 : Int32) (M : MM) : Option (Int32 × MM) :=
  bo (FX8_isOpinion a1 M) (fun (r_1 : Int32) => (if r_1 = 0 then some ((-1000000001), M) else bo (FX8_in ((a2).toInt64) 0 1) (fun (r_3 : Int32) => (if r_3 = 0 then some ((-1000000002), M) else FX8_least_L29 a1 a2 (fun (k3_5 : Int32) (M_6 : MM) => (if k3_5 = (-1) then some (k3_5, M_6) else (if a2 = 1 then some (k3_5, M_6) else bo (FX8_costOf k3_5 M_6) (fun (r_9 : Int32) => some (r_9, M_6))))) fuelN (-1) 0 M))))
set_option maxHeartbeats 4000000 in
set_option maxRecDepth 100000 in
theorem tX8_least (l : Launch) (dC : Nat → ClassId) (dI : Nat → Nat → Nat) (kI kZ : ClassId) (ad : Nat → Nat) (a1 : Int32) (a2 : Int32) (M : MM)  {r0 : Int32} {M0 : MM} (h : FX8_least a1 a2 M = some (r0, M0)) : Met l yX8_least (wsA yX8_least cX8_least 6 (some .int)) ({ frames := 5, cells := 0, slots := 0, locals := 116 } : Room) (va_Pc [.ref (ad (0)), .int (a1), .int (a2)] (gI (m_Wd dC dI kI kZ ad) (m_Kn dC dI kI kZ ad) M)) (va_Qi (fun (r : Int32) (u : MM) => r = r0 ∧ u = M0) (gI (m_Wd dC dI kI kZ ad) (m_Kn dC dI kI kZ ad)) (m_A ad)) 0 0 (m_A ad) := by
  refine Met.ofW (cc := cX8_least) (maxL := 6) (ret := (some .int)) (by decide) rfl ?_
  intro p e s m args below meth c s₁ B hml hv
  obtain ⟨rfl, hP, hKn⟩ := hv
  have hx := B.exec
  have hb := B.bytes
  have hr := B.returns
  have hts := atoms_spec (ws := wsA yX8_least cX8_least 6 (some .int)) B.pre
  have hg : ∀ w ∈ lw_good, w.before _ s = true := fun w h => hts w (List.mem_cons_of_mem _ h)
  have hown : s.vm.findClass RX8 = some m.cls := findClass_of_methodNamed B.named
  have hlocks := B.notSynchronized
  have hS : va_S (m_A ad) s.heap s.heap [] := va_S.rf
  have hFx : gFix p c cX8_least 6 s m _ RX8 := ⟨hx, hb, hml, hown, hg⟩
  have hP : va_P (dC, dI) vwCl (m_w kI kZ ad M.1 M.2) s.heap := hP
  have hl := lv_entry ([.ref (ad (0)), .int (a1), .int (a2)]) (n := 6) (Nat.le_of_ble_eq_true rfl)
  rw [lg_entry_eq]
  generalize (lg_sl ([.ref (ad (0)), .int (a1), .int (a2)]) ++ List.replicate (6 - (lg_sl ([.ref (ad (0)), .int (a1), .int (a2)])).length) Slot.unset).toArray = ls at hl ⊢
  have hl : lv_has ls 6 [(0, .ref (ad (0))), (1, .int (a1)), (2, .int (a2))] := hl
  unfold FX8_least at h
  refine lv_aload_n hx hb dX8_least_0 rfl (lv_at hl 0 rfl) ?_
  refine lv_iload_n hx hb dX8_least_1 rfl (lv_at hl 1 rfl) ?_
  obtain ⟨r_1, e2, h⟩ := bo_use h
  refine gc_i (va_runV (As := [.int (a1)]) (rest := []) hFx (tX8_isOpinion l dC dI kI kZ ad a1 M  e2) ⟨(gc_B hFx ck_yX8_isOpinion lkM_X8_140 ⟨Nat.le_of_ble_eq_true rfl, Nat.le_of_ble_eq_true rfl⟩ rfl rfl), hg _ vi_yX8_isOpinion, hg _ vs_yX8_isOpinion⟩ (gp_V m_KnB (m_KnW hKn) hP (m_rc8 (c := 0) (by decide) hKn hP)) rfl rfl hl.1 rfl (lv_room (Nat.le_of_ble_eq_true rfl)) dX8_least_2 ⟨Nat.zero_le _, Nat.zero_le _⟩) hS (fun H locs hP hS => ?_)
  have hP : va_P (dC, dI) vwCl (m_w kI kZ ad M.1 M.2) H := hP
  refine lv_if_ne (tgt := 11) hx hb dX8_least_5 (by decide) (fun c_2 => ?_) (fun c_2 => ?_)
  · have h := ife_f c_2 h
    refine lv_iload_n hx hb dX8_least_11 rfl (lv_at hl 2 rfl) ?_
    refine lv_i2l (v := ((a2).toInt64)) hx hb dX8_least_12 rfl ?_
    refine lv_lconst (v := 0) hx hb dX8_least_13 (by decide) ?_
    refine lv_lconst (v := 1) hx hb dX8_least_14 (by decide) ?_
    obtain ⟨r_3, e15, h⟩ := bo_use h
    refine gc_i (va_runS (As := [.long (((a2).toInt64)), .long (0), .long (1)]) (rest := []) hFx (tX8_in l dC dI kI kZ ad ((a2).toInt64) 0 1 M  e15) ⟨(gc_B hFx ck_yX8_in lkM_X8_74 ⟨Nat.le_of_ble_eq_true rfl, Nat.le_of_ble_eq_true rfl⟩ rfl rfl), hg _ st_yX8_in⟩ (gp_S m_KnB (m_KnW hKn) hP) rfl rfl hl.1 rfl (lv_room (Nat.le_of_ble_eq_true rfl)) dX8_least_15 ⟨Nat.zero_le _, Nat.zero_le _⟩) hS (fun H locs hP hS => ?_)
    have hP : va_P (dC, dI) vwCl (m_w kI kZ ad M.1 M.2) H := hP
    refine lv_if_ne (tgt := 24) hx hb dX8_least_18 (by decide) (fun c_4 => ?_) (fun c_4 => ?_)
    · have h := ife_f c_4 h
      refine lv_iconst (v := -1) hx hb dX8_least_24 (by decide) ?_
      refine lv_istore_n (lv' := [(3, .int ((-1))), (0, .ref (ad (0))), (1, .int (a1)), (2, .int (a2))]) hx hb dX8_least_25 rfl hl (Nat.le_of_ble_eq_true rfl) rfl (fun ls hl => ?_)
      refine lv_iconst (v := 0) hx hb dX8_least_26 (by decide) ?_
      refine lv_istore (lv' := [(4, .int (0)), (3, .int ((-1))), (0, .ref (ad (0))), (1, .int (a1)), (2, .int (a2))]) hx hb dX8_least_27 hl (Nat.le_of_ble_eq_true rfl) rfl (fun ls hl => ?_)
      obtain ⟨K29, eK29, h⟩ := exK (Lp := fun K => FX8_least_L29 a1 a2 K fuelN (-1) 0 M) h
      have hK29 : ∀ (k3_5 : Int32) (M_6 : MM) (H : Heap) (locs : List Loc) (ls : Array Slot), va_P (dC, dI) vwCl (m_w kI kZ ad M_6.1 M_6.2) H → va_S (m_A ad) s.heap H locs → lv_has ls 6 [(0, .ref (ad (0))), (2, .int (a2)), (3, .int (k3_5))] → K29 k3_5 M_6 = some (r0, M0) → W p l e (headSpec (wsA yX8_least cX8_least 6 (some .int)) ({ frames := 5, cells := 0, slots := 0, locals := 116 } : Room)).room s m (([.ref (ad (0)), .int (a1), .int (a2)] : List Value).toArray) below meth c H locs 0 0 (MQ below (va_Qi (fun (r : Int32) (u : MM) => r = r0 ∧ u = M0) (gI (m_Wd dC dI kI kZ ad) (m_Kn dC dI kI kZ ad)) (m_A ad)) (([.ref (ad (0)), .int (a1), .int (a2)] : List Value).toArray) s 0 0 (m_A ad)) (F0 m 117 ls []) := by
        intro k3_5 M_6 H locs ls hP hS hl h
        have h := useK2 eK29 h
        refine lv_iload_n hx hb dX8_least_117 rfl (lv_at hl 2 rfl) ?_
        refine lv_iconst (v := -1) hx hb dX8_least_118 (by decide) ?_
        refine lv_icmp_eq (tgt := 127) hx hb dX8_least_119 (by decide) (fun c_7 => ?_) (fun c_7 => ?_)
        · have h := ife_t c_7 h
          refine lv_iload_n hx hb dX8_least_127 rfl (lv_at hl 2 rfl) ?_
          refine lv_goto (tgt := 136) hx hb dX8_least_128 (by decide) ?_
          exact W.iret (v := k3_5) hx hb hr (fun t ht hW => ⟨⟨k3_5, M_6, rfl, Prod.mk.inj (Option.some.inj h), by rw [ht]; exact hP, m_KnW hKn t hW⟩, hS.F ht⟩) hS.2.2 dX8_least_136
        · have h := ife_f c_7 h
          refine lv_iload_n hx hb dX8_least_122 rfl (lv_at hl 1 rfl) ?_
          refine lv_iconst (v := 1) hx hb dX8_least_123 (by decide) ?_
          refine lv_icmp_ne (tgt := 131) hx hb dX8_least_124 (by decide) (fun c_8 => ?_) (fun c_8 => ?_)
          · have h := ife_f c_8 h
            refine lv_aload_n hx hb dX8_least_131 rfl (lv_at hl 0 rfl) ?_
            refine lv_iload_n hx hb dX8_least_132 rfl (lv_at hl 2 rfl) ?_
            obtain ⟨r_9, e133, h⟩ := bo_use h
            refine gc_i (va_runV (As := [.int (k3_5)]) (rest := []) hFx (tX8_costOf l dC dI kI kZ ad k3_5 M_6  e133) ⟨(gc_B hFx ck_yX8_costOf lkM_X8_227 ⟨Nat.le_of_ble_eq_true rfl, Nat.le_of_ble_eq_true rfl⟩ rfl rfl), hg _ vi_yX8_costOf, hg _ vs_yX8_costOf⟩ (gp_V m_KnB (m_KnW hKn) hP (m_rc8 (c := 0) (by decide) hKn hP)) rfl rfl hl.1 rfl (lv_room (Nat.le_of_ble_eq_true rfl)) dX8_least_133 ⟨Nat.zero_le _, Nat.zero_le _⟩) hS (fun H locs hP hS => ?_)
            have hP : va_P (dC, dI) vwCl (m_w kI kZ ad M_6.1 M_6.2) H := hP
            exact W.iret (v := r_9) hx hb hr (fun t ht hW => ⟨⟨r_9, M_6, rfl, Prod.mk.inj (Option.some.inj h), by rw [ht]; exact hP, m_KnW hKn t hW⟩, hS.F ht⟩) hS.2.2 dX8_least_136
          · have h := ife_t c_8 h
            refine lv_iload_n hx hb dX8_least_127 rfl (lv_at hl 2 rfl) ?_
            refine lv_goto (tgt := 136) hx hb dX8_least_128 (by decide) ?_
            exact W.iret (v := k3_5) hx hb hr (fun t ht hW => ⟨⟨k3_5, M_6, rfl, Prod.mk.inj (Option.some.inj h), by rw [ht]; exact hP, m_KnW hKn t hW⟩, hS.F ht⟩) hS.2.2 dX8_least_136
      have hL29 : ∀ (k : Nat) (v3_10 : Int32) (v4_11 : Int32) (M_12 : MM) (H : Heap) (locs : List Loc) (ls : Array Slot), va_P (dC, dI) vwCl (m_w kI kZ ad M_12.1 M_12.2) H → va_S (m_A ad) s.heap H locs → lv_has ls 6 [(0, .ref (ad (0))), (1, .int (a1)), (2, .int (a2)), (3, .int (v3_10)), (4, .int (v4_11))] → FX8_least_L29 a1 a2 K29 k v3_10 v4_11 M_12 = some (r0, M0) → W p l e (headSpec (wsA yX8_least cX8_least 6 (some .int)) ({ frames := 5, cells := 0, slots := 0, locals := 116 } : Room)).room s m (([.ref (ad (0)), .int (a1), .int (a2)] : List Value).toArray) below meth c H locs 0 0 (MQ below (va_Qi (fun (r : Int32) (u : MM) => r = r0 ∧ u = M0) (gI (m_Wd dC dI kI kZ ad) (m_Kn dC dI kI kZ ad)) (m_A ad)) (([.ref (ad (0)), .int (a1), .int (a2)] : List Value).toArray) s 0 0 (m_A ad)) (F0 m 29 ls []) := by
        intro k
        induction k with
        | zero => intro v3_10 v4_11 M_12 H locs ls hP hS hl h; cases h
        | succ k ih29 =>
          intro v3_10 v4_11 M_12 H locs ls hP hS hl h
          unfold FX8_least_L29 at h
          refine lv_iload hx hb dX8_least_29 (lv_at hl 4 rfl) ?_
          refine lv_iconst (v := 1) hx hb dX8_least_31 (by decide) ?_
          refine lv_aload_n hx hb dX8_least_32 rfl (lv_at hl 0 rfl) ?_
          refine va_get (D := (dC, dI)) (ci := 8) (v := .ref (ad (1))) (C := RX8) (T := TX8) (N := 29) hx hb hg inX8 hown hKn.1 hP (0) (m_at8 (c := 0) (by decide)) rfl 0 (Nat.le_of_ble_eq_true rfl) (hg _ lkF_X8_7) (fun _ h9 => h9) rfl dX8_least_33 ?_
          refine lv_iconst (v := 2) hx hb dX8_least_36 (by decide) ?_
          refine m_iald (M := M_12) (a := 1) hx hb hKn hP (by decide) (j := 2) (by decide) (by decide) dX8_least_37 ?_
          refine lv_ishl hx hb dX8_least_38 ?_
          refine lv_icmp_ge (tgt := 117) hx hb dX8_least_39 (by decide) (fun c_13 => ?_) (fun c_13 => ?_)
          · have h := ife_t c_13 h
            exact hK29 v3_10 M_12 _ _ _ hP hS (lv_sub hl [0, 2, 3] rfl) h
          · have h := ife_f c_13 h
            refine lv_iload hx hb dX8_least_42 (lv_at hl 4 rfl) ?_
            refine lv_aload_n hx hb dX8_least_44 rfl (lv_at hl 0 rfl) ?_
            refine va_get (D := (dC, dI)) (ci := 8) (v := .ref (ad (3))) (C := RX8) (T := TX8) (N := 29) hx hb hg inX8 hown hKn.1 hP (0) (m_at8 (c := 0) (by decide)) rfl 2 (Nat.le_of_ble_eq_true rfl) (hg _ lkF_X8_16) (fun _ h9 => h9) rfl dX8_least_45 ?_
            refine lv_bipush (v := 13) hx hb dX8_least_48 (by decide) ?_
            refine m_iald (M := M_12) (a := 3) hx hb hKn hP (by decide) (j := 13) (by decide) (by decide) dX8_least_50 ?_
            refine lv_iand hx hb dX8_least_51 ?_
            obtain ⟨J79, eJ79, h⟩ := jn_use h
            have hJ79 : ∀ (s_14 : Int32) (H : Heap) (locs : List Loc) (ls : Array Slot), va_P (dC, dI) vwCl (m_w kI kZ ad M_12.1 M_12.2) H → va_S (m_A ad) s.heap H locs → lv_has ls 6 [(0, .ref (ad (0))), (1, .int (a1)), (2, .int (a2)), (3, .int (v3_10)), (4, .int (v4_11))] → J79 s_14 = some (r0, M0) → W p l e (headSpec (wsA yX8_least cX8_least 6 (some .int)) ({ frames := 5, cells := 0, slots := 0, locals := 116 } : Room)).room s m (([.ref (ad (0)), .int (a1), .int (a2)] : List Value).toArray) below meth c H locs 0 0 (MQ below (va_Qi (fun (r : Int32) (u : MM) => r = r0 ∧ u = M0) (gI (m_Wd dC dI kI kZ ad) (m_Kn dC dI kI kZ ad)) (m_A ad)) (([.ref (ad (0)), .int (a1), .int (a2)] : List Value).toArray) s 0 0 (m_A ad)) (F0 m 79 ls [.int (s_14)]) := by
              intro s_14 H locs ls hP hS hl h
              have h := useK1 eJ79 h
              refine lv_istore (lv' := [(5, .int (s_14)), (0, .ref (ad (0))), (1, .int (a1)), (2, .int (a2)), (3, .int (v3_10)), (4, .int (v4_11))]) hx hb dX8_least_79 hl (Nat.le_of_ble_eq_true rfl) rfl (fun ls hl => ?_)
              refine lv_iload hx hb dX8_least_81 (lv_at hl 0 rfl) ?_
              obtain ⟨J110, eJ110, h⟩ := jn_use h
              have hJ110 : ∀ (s_15 : Int32) (M_16 : MM) (H : Heap) (locs : List Loc) (ls : Array Slot), va_P (dC, dI) vwCl (m_w kI kZ ad M_16.1 M_16.2) H → va_S (m_A ad) s.heap H locs → lv_has ls 6 [(0, .ref (ad (0))), (1, .int (a1)), (2, .int (a2)), (4, .int (v4_11))] → J110 s_15 M_16 = some (r0, M0) → W p l e (headSpec (wsA yX8_least cX8_least 6 (some .int)) ({ frames := 5, cells := 0, slots := 0, locals := 116 } : Room)).room s m (([.ref (ad (0)), .int (a1), .int (a2)] : List Value).toArray) below meth c H locs 0 0 (MQ below (va_Qi (fun (r : Int32) (u : MM) => r = r0 ∧ u = M0) (gI (m_Wd dC dI kI kZ ad) (m_Kn dC dI kI kZ ad)) (m_A ad)) (([.ref (ad (0)), .int (a1), .int (a2)] : List Value).toArray) s 0 0 (m_A ad)) (F0 m 110 ls [.int (s_15)]) := by
                intro s_15 M_16 H locs ls hP hS hl h
                have h := useK2 eJ110 h
                refine lv_istore_n (lv' := [(3, .int (s_15)), (0, .ref (ad (0))), (1, .int (a1)), (2, .int (a2)), (4, .int (v4_11))]) hx hb dX8_least_110 rfl hl (Nat.le_of_ble_eq_true rfl) rfl (fun ls hl => ?_)
                refine lv_iinc (v := (v4_11 + 1)) (lv' := [(4, .int ((v4_11 + 1))), (3, .int (s_15)), (0, .ref (ad (0))), (1, .int (a1)), (2, .int (a2))]) hx hb dX8_least_111 hl (k := 4) rfl rfl (Nat.le_of_ble_eq_true rfl) rfl (fun ls hl => ?_)
                refine lv_goto (tgt := 29) hx hb dX8_least_114 (by decide) ?_
                exact ih29 s_15 (v4_11 + 1) M_16 _ _ _ hP hS (lv_sub hl [2, 3, 4, 1, 0] rfl) h
              obtain ⟨J109, eJ109, h⟩ := jn_use h
              have hJ109 : ∀ (M_17 : MM) (H : Heap) (locs : List Loc) (ls : Array Slot), va_P (dC, dI) vwCl (m_w kI kZ ad M_17.1 M_17.2) H → va_S (m_A ad) s.heap H locs → lv_has ls 6 [(0, .ref (ad (0))), (1, .int (a1)), (2, .int (a2)), (3, .int (v3_10)), (4, .int (v4_11))] → J109 M_17 = some (r0, M0) → W p l e (headSpec (wsA yX8_least cX8_least 6 (some .int)) ({ frames := 5, cells := 0, slots := 0, locals := 116 } : Room)).room s m (([.ref (ad (0)), .int (a1), .int (a2)] : List Value).toArray) below meth c H locs 0 0 (MQ below (va_Qi (fun (r : Int32) (u : MM) => r = r0 ∧ u = M0) (gI (m_Wd dC dI kI kZ ad) (m_Kn dC dI kI kZ ad)) (m_A ad)) (([.ref (ad (0)), .int (a1), .int (a2)] : List Value).toArray) s 0 0 (m_A ad)) (F0 m 109 ls []) := by
                intro M_17 H locs ls hP hS hl h
                have h := useK1 eJ109 h
                refine lv_iload_n hx hb dX8_least_109 rfl (lv_at hl 3 rfl) ?_
                exact hJ110 v3_10 M_17 _ _ _ hP hS (lv_sub hl [0, 1, 2, 4] rfl) h
              refine lv_if_eq (tgt := 109) hx hb dX8_least_83 (by decide) (fun c_18 => ?_) (fun c_18 => ?_)
              · have h := ife_t c_18 h
                exact hJ109 M_12 _ _ _ hP hS (lv_sub hl [1, 2, 3, 4, 5] rfl) h
              · have h := ife_f c_18 h
                refine lv_aload_n hx hb dX8_least_86 rfl (lv_at hl 1 rfl) ?_
                refine lv_iload_n hx hb dX8_least_87 rfl (lv_at hl 2 rfl) ?_
                refine lv_aload_n hx hb dX8_least_88 rfl (lv_at hl 1 rfl) ?_
                refine va_get (D := (dC, dI)) (ci := 8) (v := .ref (ad (3))) (C := RX8) (T := TX8) (N := 29) hx hb hg inX8 hown hKn.1 hP (0) (m_at8 (c := 0) (by decide)) rfl 2 (Nat.le_of_ble_eq_true rfl) (hg _ lkF_X8_16) (fun _ h9 => h9) rfl dX8_least_89 ?_
                refine lv_bipush (v := 13) hx hb dX8_least_92 (by decide) ?_
                refine m_iald (M := M_12) (a := 3) hx hb hKn hP (by decide) (j := 13) (by decide) (by decide) dX8_least_94 ?_
                refine lv_iload hx hb dX8_least_95 (lv_at hl 5 rfl) ?_
                refine lv_ior hx hb dX8_least_97 ?_
                obtain ⟨r_19, M_20, e98, h⟩ := bd_use h
                refine gc_i (va_runV (As := [.int (a1), .int (((M_12.1 3 13) ||| v4_11))]) (rest := []) hFx (tX8_convinces l dC dI kI kZ ad a1 ((M_12.1 3 13) ||| v4_11) M_12  e98) ⟨(gc_B hFx ck_yX8_convinces lkM_X8_230 ⟨Nat.le_of_ble_eq_true rfl, Nat.le_of_ble_eq_true rfl⟩ rfl rfl), hg _ vi_yX8_convinces, hg _ vs_yX8_convinces⟩ (gp_V m_KnB (m_KnW hKn) hP (m_rc8 (c := 0) (by decide) hKn hP)) rfl rfl hl.1 rfl (lv_room (Nat.le_of_ble_eq_true rfl)) dX8_least_98 ⟨Nat.zero_le _, Nat.zero_le _⟩) hS (fun H locs hP hS => ?_)
                have hP : va_P (dC, dI) vwCl (m_w kI kZ ad M_20.1 M_20.2) H := hP
                refine lv_if_eq (tgt := 109) hx hb dX8_least_101 (by decide) (fun c_21 => ?_) (fun c_21 => ?_)
                · have h := ife_t c_21 h
                  exact hJ109 M_20 _ _ _ hP hS (lv_sub hl [1, 2, 3, 4, 5] rfl) h
                · have h := ife_f c_21 h
                  refine lv_iload hx hb dX8_least_104 (lv_at hl 5 rfl) ?_
                  refine lv_goto (tgt := 110) hx hb dX8_least_106 (by decide) ?_
                  exact hJ110 v4_11 M_20 _ _ _ hP hS (lv_sub hl [1, 2, 3, 5] rfl) h
            obtain ⟨J78, eJ78, h⟩ := jn_use h
            have hJ78 : ∀  (H : Heap) (locs : List Loc) (ls : Array Slot), va_P (dC, dI) vwCl (m_w kI kZ ad M_12.1 M_12.2) H → va_S (m_A ad) s.heap H locs → lv_has ls 6 [(0, .ref (ad (0))), (1, .int (a1)), (2, .int (a2)), (3, .int (v3_10)), (4, .int (v4_11))] → J78  = some (r0, M0) → W p l e (headSpec (wsA yX8_least cX8_least 6 (some .int)) ({ frames := 5, cells := 0, slots := 0, locals := 116 } : Room)).room s m (([.ref (ad (0)), .int (a1), .int (a2)] : List Value).toArray) below meth c H locs 0 0 (MQ below (va_Qi (fun (r : Int32) (u : MM) => r = r0 ∧ u = M0) (gI (m_Wd dC dI kI kZ ad) (m_Kn dC dI kI kZ ad)) (m_A ad)) (([.ref (ad (0)), .int (a1), .int (a2)] : List Value).toArray) s 0 0 (m_A ad)) (F0 m 78 ls []) := by
              intro  H locs ls hP hS hl h
              have h := useK0 eJ78 h
              refine lv_iconst (v := 0) hx hb dX8_least_78 (by decide) ?_
              exact hJ79 0 _ _ _ hP hS (lv_sub hl [0, 1, 2, 3, 4] rfl) h
            refine lv_if_ne (tgt := 78) hx hb dX8_least_52 (by decide) (fun c_22 => ?_) (fun c_22 => ?_)
            · have h := ife_f c_22 h
              exact hJ78 _ _ _ hP hS (lv_sub hl [0, 1, 2, 3, 4] rfl) h
            · have h := ife_t c_22 h
              refine lv_iload_n hx hb dX8_least_55 rfl (lv_at hl 3 rfl) ?_
              refine lv_iconst (v := -1) hx hb dX8_least_56 (by decide) ?_
              obtain ⟨J74, eJ74, h⟩ := jn_use h
              have hJ74 : ∀  (H : Heap) (locs : List Loc) (ls : Array Slot), va_P (dC, dI) vwCl (m_w kI kZ ad M_12.1 M_12.2) H → va_S (m_A ad) s.heap H locs → lv_has ls 6 [(0, .ref (ad (0))), (1, .int (a1)), (2, .int (a2)), (3, .int (v3_10)), (4, .int (v4_11))] → J74  = some (r0, M0) → W p l e (headSpec (wsA yX8_least cX8_least 6 (some .int)) ({ frames := 5, cells := 0, slots := 0, locals := 116 } : Room)).room s m (([.ref (ad (0)), .int (a1), .int (a2)] : List Value).toArray) below meth c H locs 0 0 (MQ below (va_Qi (fun (r : Int32) (u : MM) => r = r0 ∧ u = M0) (gI (m_Wd dC dI kI kZ ad) (m_Kn dC dI kI kZ ad)) (m_A ad)) (([.ref (ad (0)), .int (a1), .int (a2)] : List Value).toArray) s 0 0 (m_A ad)) (F0 m 74 ls []) := by
                intro  H locs ls hP hS hl h
                have h := useK0 eJ74 h
                refine lv_iconst (v := 1) hx hb dX8_least_74 (by decide) ?_
                refine lv_goto (tgt := 79) hx hb dX8_least_75 (by decide) ?_
                exact hJ79 1 _ _ _ hP hS (lv_sub hl [0, 1, 2, 3, 4] rfl) h
              refine lv_icmp_eq (tgt := 74) hx hb dX8_least_57 (by decide) (fun c_23 => ?_) (fun c_23 => ?_)
              · have h := ife_t c_23 h
                exact hJ74 _ _ _ hP hS (lv_sub hl [0, 1, 2, 3, 4] rfl) h
              · have h := ife_f c_23 h
                refine lv_aload_n hx hb dX8_least_60 rfl (lv_at hl 0 rfl) ?_
                refine lv_iload hx hb dX8_least_61 (lv_at hl 4 rfl) ?_
                obtain ⟨r_24, e63, h⟩ := bo_use h
                refine gc_i (va_runV (As := [.int (v4_11)]) (rest := []) hFx (tX8_costOf l dC dI kI kZ ad v4_11 M_12  e63) ⟨(gc_B hFx ck_yX8_costOf lkM_X8_227 ⟨Nat.le_of_ble_eq_true rfl, Nat.le_of_ble_eq_true rfl⟩ rfl rfl), hg _ vi_yX8_costOf, hg _ vs_yX8_costOf⟩ (gp_V m_KnB (m_KnW hKn) hP (m_rc8 (c := 0) (by decide) hKn hP)) rfl rfl hl.1 rfl (lv_room (Nat.le_of_ble_eq_true rfl)) dX8_least_63 ⟨Nat.zero_le _, Nat.zero_le _⟩) hS (fun H locs hP hS => ?_)
                have hP : va_P (dC, dI) vwCl (m_w kI kZ ad M_12.1 M_12.2) H := hP
                refine lv_aload_n hx hb dX8_least_66 rfl (lv_at hl 0 rfl) ?_
                refine lv_iload_n hx hb dX8_least_67 rfl (lv_at hl 3 rfl) ?_
                obtain ⟨r_25, e68, h⟩ := bo_use h
                refine gc_i (va_runV (As := [.int (v3_10)]) (rest := [.int (r_24)]) hFx (tX8_costOf l dC dI kI kZ ad v3_10 M_12  e68) ⟨(gc_B hFx ck_yX8_costOf lkM_X8_227 ⟨Nat.le_of_ble_eq_true rfl, Nat.le_of_ble_eq_true rfl⟩ rfl rfl), hg _ vi_yX8_costOf, hg _ vs_yX8_costOf⟩ (gp_V m_KnB (m_KnW hKn) hP (m_rc8 (c := 0) (by decide) hKn hP)) rfl rfl hl.1 rfl (lv_room (Nat.le_of_ble_eq_true rfl)) dX8_least_68 ⟨Nat.zero_le _, Nat.zero_le _⟩) hS (fun H locs hP hS => ?_)
                have hP : va_P (dC, dI) vwCl (m_w kI kZ ad M_12.1 M_12.2) H := hP
                refine lv_icmp_ge (tgt := 78) hx hb dX8_least_71 (by decide) (fun c_26 => ?_) (fun c_26 => ?_)
                · have h := ife_t c_26 h
                  exact hJ78 _ _ _ hP hS (lv_sub hl [0, 1, 2, 3, 4] rfl) h
                · have h := ife_f c_26 h
                  exact hJ74 _ _ _ hP hS (lv_sub hl [0, 1, 2, 3, 4] rfl) h
      exact hL29 fuelN (-1) 0 M _ _ _ hP hS (lv_sub hl [2, 3, 4, 1, 0] rfl) h
    · have h := ife_t c_4 h
      refine lv_ldc hx hb hown (hg _ kc_X8_78) dX8_least_21 ?_
      exact W.iret (v := (-1000000002)) hx hb hr (fun t ht hW => ⟨⟨(-1000000002), M, rfl, Prod.mk.inj (Option.some.inj h), by rw [ht]; exact hP, m_KnW hKn t hW⟩, hS.F ht⟩) hS.2.2 dX8_least_23
  · have h := ife_t c_2 h
    refine lv_ldc hx hb hown (hg _ kc_X8_143) dX8_least_8 ?_
    exact W.iret (v := (-1000000001)) hx hb hr (fun t ht hW => ⟨⟨(-1000000001), M, rfl, Prod.mk.inj (Option.some.inj h), by rw [ht]; exact hP, m_KnW hKn t hW⟩, hS.F ht⟩) hS.2.2 dX8_least_10
noncomputable def FX8_leftOut_L19 (b1 : Int32) (K : Int32 → Int32 → Int32 → Int32 → MM → Option (Int32 × MM)) (k : Nat) (v2_10 : Int32) (v3_11 : Int32) (v4_12 : Int32) (v5_13 : Int32) (v6_14 : Int32) (M_15 : MM) : Option (Int32 × MM) := match k with
  | 0 => none
  | k + 1 => (if (1 <<< ((M_15.1 1 2) &&& 31)) ≤ v6_14 then K v2_10 v3_11 v4_12 v5_13 M_15 else bo (FX8_maySheet v6_14 (M_15.1 3 13) M_15) (fun (r_17 : Int32) => jn (α := Int32 → Int32 → Int32 → Int32 → MM → Option (Int32 × MM)) (fun (j2_18 : Int32) (j3_19 : Int32) (j4_20 : Int32) (j5_21 : Int32) (M_22 : MM) => FX8_leftOut_L19 b1 K k j2_18 j3_19 j4_20 j5_21 (v6_14 + 1) M_22) (fun J92 => (if r_17 = 0 then J92 v2_10 v3_11 v4_12 v5_13 M_15 else bd (FX8_triesTonight v6_14 M_15) (fun (r_24 : Int32) (M_25 : MM) => bo (FX8_isThought  M_25) (fun (r_26 : Int32) => (if r_26 = 0 then J92 v2_10 v3_11 v4_12 v5_13 M_25 else jn (α := Int32 → Option (Int32 × MM)) (fun (s_28 : Int32) => J92 (v2_10 + 1) s_28 (v4_12 &&& v6_14) (v5_13 ||| v6_14) M_25) (fun J74 => (if v2_10 = b1 then J74 v6_14 else J74 v3_11)))))))))
noncomputable def FX8_leftOut (a1 : Int32) (M : MM) : Option (Int32 × MM) :=
  FX8_leftOut_L19 a1 (fun (k2_1 : Int32) (k3_2 : Int32) (k4_3 : Int32) (k5_4 : Int32) (M_5 : MM) => (if a1 = (-1) then some (k2_1, M_5) else (if a1 = (-2) then (if k2_1 = 0 then some (0, M_5) else some (k4_3, M_5)) else (if a1 = (-3) then some (((M_5.1 3 13) &&& (k5_4 ^^^ (-1))), M_5) else some (k3_2, M_5))))) fuelN 0 (-1) (M.1 3 13) 0 0 M
set_option maxHeartbeats 4000000 in
set_option maxRecDepth 100000 in
theorem tX8_leftOut (l : Launch) (dC : Nat → ClassId) (dI : Nat → Nat → Nat) (kI kZ : ClassId) (ad : Nat → Nat) (a1 : Int32) (M : MM)  {r0 : Int32} {M0 : MM} (h : FX8_leftOut a1 M = some (r0, M0)) : Met l yX8_leftOut (wsA yX8_leftOut cX8_leftOut 8 (some .int)) ({ frames := 4, cells := 0, slots := 0, locals := 92 } : Room) (va_Pc [.ref (ad (0)), .int (a1)] (gI (m_Wd dC dI kI kZ ad) (m_Kn dC dI kI kZ ad) M)) (va_Qi (fun (r : Int32) (u : MM) => r = r0 ∧ u = M0) (gI (m_Wd dC dI kI kZ ad) (m_Kn dC dI kI kZ ad)) (m_A ad)) 0 0 (m_A ad) := by
  refine Met.ofW (cc := cX8_leftOut) (maxL := 8) (ret := (some .int)) (by decide) rfl ?_
  intro p e s m args below meth c s₁ B hml hv
  obtain ⟨rfl, hP, hKn⟩ := hv
  have hx := B.exec
  have hb := B.bytes
  have hr := B.returns
  have hts := atoms_spec (ws := wsA yX8_leftOut cX8_leftOut 8 (some .int)) B.pre
  have hg : ∀ w ∈ lw_good, w.before _ s = true := fun w h => hts w (List.mem_cons_of_mem _ h)
  have hown : s.vm.findClass RX8 = some m.cls := findClass_of_methodNamed B.named
  have hlocks := B.notSynchronized
  have hS : va_S (m_A ad) s.heap s.heap [] := va_S.rf
  have hFx : gFix p c cX8_leftOut 8 s m _ RX8 := ⟨hx, hb, hml, hown, hg⟩
  have hP : va_P (dC, dI) vwCl (m_w kI kZ ad M.1 M.2) s.heap := hP
  have hl := lv_entry ([.ref (ad (0)), .int (a1)]) (n := 8) (Nat.le_of_ble_eq_true rfl)
  rw [lg_entry_eq]
  generalize (lg_sl ([.ref (ad (0)), .int (a1)]) ++ List.replicate (8 - (lg_sl ([.ref (ad (0)), .int (a1)])).length) Slot.unset).toArray = ls at hl ⊢
  have hl : lv_has ls 8 [(0, .ref (ad (0))), (1, .int (a1))] := hl
  unfold FX8_leftOut at h
  refine lv_iconst (v := 0) hx hb dX8_leftOut_0 (by decide) ?_
  refine lv_istore_n (lv' := [(2, .int (0)), (0, .ref (ad (0))), (1, .int (a1))]) hx hb dX8_leftOut_1 rfl hl (Nat.le_of_ble_eq_true rfl) rfl (fun ls hl => ?_)
  refine lv_iconst (v := -1) hx hb dX8_leftOut_2 (by decide) ?_
  refine lv_istore_n (lv' := [(3, .int ((-1))), (2, .int (0)), (0, .ref (ad (0))), (1, .int (a1))]) hx hb dX8_leftOut_3 rfl hl (Nat.le_of_ble_eq_true rfl) rfl (fun ls hl => ?_)
  refine lv_aload_n hx hb dX8_leftOut_4 rfl (lv_at hl 2 rfl) ?_
  refine va_get (D := (dC, dI)) (ci := 8) (v := .ref (ad (3))) (C := RX8) (T := TX8) (N := 29) hx hb hg inX8 hown hKn.1 hP (0) (m_at8 (c := 0) (by decide)) rfl 2 (Nat.le_of_ble_eq_true rfl) (hg _ lkF_X8_16) (fun _ h9 => h9) rfl dX8_leftOut_5 ?_
  refine lv_bipush (v := 13) hx hb dX8_leftOut_8 (by decide) ?_
  refine m_iald (M := M) (a := 3) hx hb hKn hP (by decide) (j := 13) (by decide) (by decide) dX8_leftOut_10 ?_
  refine lv_istore (lv' := [(4, .int ((M.1 3 13))), (3, .int ((-1))), (2, .int (0)), (0, .ref (ad (0))), (1, .int (a1))]) hx hb dX8_leftOut_11 hl (Nat.le_of_ble_eq_true rfl) rfl (fun ls hl => ?_)
  refine lv_iconst (v := 0) hx hb dX8_leftOut_13 (by decide) ?_
  refine lv_istore (lv' := [(5, .int (0)), (4, .int ((M.1 3 13))), (3, .int ((-1))), (2, .int (0)), (0, .ref (ad (0))), (1, .int (a1))]) hx hb dX8_leftOut_14 hl (Nat.le_of_ble_eq_true rfl) rfl (fun ls hl => ?_)
  refine lv_iconst (v := 0) hx hb dX8_leftOut_16 (by decide) ?_
  refine lv_istore (lv' := [(6, .int (0)), (5, .int (0)), (4, .int ((M.1 3 13))), (3, .int ((-1))), (2, .int (0)), (0, .ref (ad (0))), (1, .int (a1))]) hx hb dX8_leftOut_17 hl (Nat.le_of_ble_eq_true rfl) rfl (fun ls hl => ?_)
  obtain ⟨K19, eK19, h⟩ := exK (Lp := fun K => FX8_leftOut_L19 a1 K fuelN 0 (-1) (M.1 3 13) 0 0 M) h
  have hK19 : ∀ (k2_1 : Int32) (k3_2 : Int32) (k4_3 : Int32) (k5_4 : Int32) (M_5 : MM) (H : Heap) (locs : List Loc) (ls : Array Slot), va_P (dC, dI) vwCl (m_w kI kZ ad M_5.1 M_5.2) H → va_S (m_A ad) s.heap H locs → lv_has ls 8 [(0, .ref (ad (0))), (1, .int (a1)), (2, .int (k2_1)), (3, .int (k3_2)), (4, .int (k4_3)), (5, .int (k5_4))] → K19 k2_1 k3_2 k4_3 k5_4 M_5 = some (r0, M0) → W p l e (headSpec (wsA yX8_leftOut cX8_leftOut 8 (some .int)) ({ frames := 4, cells := 0, slots := 0, locals := 92 } : Room)).room s m (([.ref (ad (0)), .int (a1)] : List Value).toArray) below meth c H locs 0 0 (MQ below (va_Qi (fun (r : Int32) (u : MM) => r = r0 ∧ u = M0) (gI (m_Wd dC dI kI kZ ad) (m_Kn dC dI kI kZ ad)) (m_A ad)) (([.ref (ad (0)), .int (a1)] : List Value).toArray) s 0 0 (m_A ad)) (F0 m 98 ls []) := by
    intro k2_1 k3_2 k4_3 k5_4 M_5 H locs ls hP hS hl h
    have h := useK5 eK19 h
    refine lv_iload_n hx hb dX8_leftOut_98 rfl (lv_at hl 1 rfl) ?_
    refine lv_iconst (v := -1) hx hb dX8_leftOut_99 (by decide) ?_
    refine lv_icmp_ne (tgt := 107) hx hb dX8_leftOut_100 (by decide) (fun c_6 => ?_) (fun c_6 => ?_)
    · have h := ife_f c_6 h
      refine lv_iload_n hx hb dX8_leftOut_107 rfl (lv_at hl 1 rfl) ?_
      refine lv_bipush (v := -2) hx hb dX8_leftOut_108 (by decide) ?_
      refine lv_icmp_ne (tgt := 126) hx hb dX8_leftOut_110 (by decide) (fun c_7 => ?_) (fun c_7 => ?_)
      · have h := ife_f c_7 h
        refine lv_iload_n hx hb dX8_leftOut_126 rfl (lv_at hl 1 rfl) ?_
        refine lv_bipush (v := -3) hx hb dX8_leftOut_127 (by decide) ?_
        refine lv_icmp_ne (tgt := 147) hx hb dX8_leftOut_129 (by decide) (fun c_8 => ?_) (fun c_8 => ?_)
        · have h := ife_f c_8 h
          refine lv_iload_n hx hb dX8_leftOut_147 rfl (lv_at hl 3 rfl) ?_
          exact W.iret (v := k3_2) hx hb hr (fun t ht hW => ⟨⟨k3_2, M_5, rfl, Prod.mk.inj (Option.some.inj h), by rw [ht]; exact hP, m_KnW hKn t hW⟩, hS.F ht⟩) hS.2.2 dX8_leftOut_148
        · have h := ife_t c_8 h
          refine lv_aload_n hx hb dX8_leftOut_132 rfl (lv_at hl 0 rfl) ?_
          refine va_get (D := (dC, dI)) (ci := 8) (v := .ref (ad (3))) (C := RX8) (T := TX8) (N := 29) hx hb hg inX8 hown hKn.1 hP (0) (m_at8 (c := 0) (by decide)) rfl 2 (Nat.le_of_ble_eq_true rfl) (hg _ lkF_X8_16) (fun _ h9 => h9) rfl dX8_leftOut_133 ?_
          refine lv_bipush (v := 13) hx hb dX8_leftOut_136 (by decide) ?_
          refine m_iald (M := M_5) (a := 3) hx hb hKn hP (by decide) (j := 13) (by decide) (by decide) dX8_leftOut_138 ?_
          refine lv_iload hx hb dX8_leftOut_139 (lv_at hl 5 rfl) ?_
          refine lv_iconst (v := -1) hx hb dX8_leftOut_141 (by decide) ?_
          refine lv_ixor hx hb dX8_leftOut_142 ?_
          refine lv_iand hx hb dX8_leftOut_143 ?_
          refine lv_goto (tgt := 148) hx hb dX8_leftOut_144 (by decide) ?_
          exact W.iret (v := ((M_5.1 3 13) &&& (k5_4 ^^^ (-1)))) hx hb hr (fun t ht hW => ⟨⟨((M_5.1 3 13) &&& (k5_4 ^^^ (-1))), M_5, rfl, Prod.mk.inj (Option.some.inj h), by rw [ht]; exact hP, m_KnW hKn t hW⟩, hS.F ht⟩) hS.2.2 dX8_leftOut_148
      · have h := ife_t c_7 h
        refine lv_iload_n hx hb dX8_leftOut_113 rfl (lv_at hl 2 rfl) ?_
        refine lv_if_ne (tgt := 121) hx hb dX8_leftOut_114 (by decide) (fun c_9 => ?_) (fun c_9 => ?_)
        · have h := ife_f c_9 h
          refine lv_iload hx hb dX8_leftOut_121 (lv_at hl 4 rfl) ?_
          refine lv_goto (tgt := 148) hx hb dX8_leftOut_123 (by decide) ?_
          exact W.iret (v := k4_3) hx hb hr (fun t ht hW => ⟨⟨k4_3, M_5, rfl, Prod.mk.inj (Option.some.inj h), by rw [ht]; exact hP, m_KnW hKn t hW⟩, hS.F ht⟩) hS.2.2 dX8_leftOut_148
        · have h := ife_t c_9 h
          refine lv_iconst (v := 0) hx hb dX8_leftOut_117 (by decide) ?_
          refine lv_goto (tgt := 148) hx hb dX8_leftOut_118 (by decide) ?_
          exact W.iret (v := 0) hx hb hr (fun t ht hW => ⟨⟨0, M_5, rfl, Prod.mk.inj (Option.some.inj h), by rw [ht]; exact hP, m_KnW hKn t hW⟩, hS.F ht⟩) hS.2.2 dX8_leftOut_148
    · have h := ife_t c_6 h
      refine lv_iload_n hx hb dX8_leftOut_103 rfl (lv_at hl 2 rfl) ?_
      refine lv_goto (tgt := 148) hx hb dX8_leftOut_104 (by decide) ?_
      exact W.iret (v := k2_1) hx hb hr (fun t ht hW => ⟨⟨k2_1, M_5, rfl, Prod.mk.inj (Option.some.inj h), by rw [ht]; exact hP, m_KnW hKn t hW⟩, hS.F ht⟩) hS.2.2 dX8_leftOut_148
  have hL19 : ∀ (k : Nat) (v2_10 : Int32) (v3_11 : Int32) (v4_12 : Int32) (v5_13 : Int32) (v6_14 : Int32) (M_15 : MM) (H : Heap) (locs : List Loc) (ls : Array Slot), va_P (dC, dI) vwCl (m_w kI kZ ad M_15.1 M_15.2) H → va_S (m_A ad) s.heap H locs → lv_has ls 8 [(0, .ref (ad (0))), (1, .int (a1)), (2, .int (v2_10)), (3, .int (v3_11)), (4, .int (v4_12)), (5, .int (v5_13)), (6, .int (v6_14))] → FX8_leftOut_L19 a1 K19 k v2_10 v3_11 v4_12 v5_13 v6_14 M_15 = some (r0, M0) → W p l e (headSpec (wsA yX8_leftOut cX8_leftOut 8 (some .int)) ({ frames := 4, cells := 0, slots := 0, locals := 92 } : Room)).room s m (([.ref (ad (0)), .int (a1)] : List Value).toArray) below meth c H locs 0 0 (MQ below (va_Qi (fun (r : Int32) (u : MM) => r = r0 ∧ u = M0) (gI (m_Wd dC dI kI kZ ad) (m_Kn dC dI kI kZ ad)) (m_A ad)) (([.ref (ad (0)), .int (a1)] : List Value).toArray) s 0 0 (m_A ad)) (F0 m 19 ls []) := by
    intro k
    induction k with
    | zero => intro v2_10 v3_11 v4_12 v5_13 v6_14 M_15 H locs ls hP hS hl h; cases h
    | succ k ih19 =>
      intro v2_10 v3_11 v4_12 v5_13 v6_14 M_15 H locs ls hP hS hl h
      unfold FX8_leftOut_L19 at h
      refine lv_iload hx hb dX8_leftOut_19 (lv_at hl 6 rfl) ?_
      refine lv_iconst (v := 1) hx hb dX8_leftOut_21 (by decide) ?_
      refine lv_aload_n hx hb dX8_leftOut_22 rfl (lv_at hl 0 rfl) ?_
      refine va_get (D := (dC, dI)) (ci := 8) (v := .ref (ad (1))) (C := RX8) (T := TX8) (N := 29) hx hb hg inX8 hown hKn.1 hP (0) (m_at8 (c := 0) (by decide)) rfl 0 (Nat.le_of_ble_eq_true rfl) (hg _ lkF_X8_7) (fun _ h9 => h9) rfl dX8_leftOut_23 ?_
      refine lv_iconst (v := 2) hx hb dX8_leftOut_26 (by decide) ?_
      refine m_iald (M := M_15) (a := 1) hx hb hKn hP (by decide) (j := 2) (by decide) (by decide) dX8_leftOut_27 ?_
      refine lv_ishl hx hb dX8_leftOut_28 ?_
      refine lv_icmp_ge (tgt := 98) hx hb dX8_leftOut_29 (by decide) (fun c_16 => ?_) (fun c_16 => ?_)
      · have h := ife_t c_16 h
        exact hK19 v2_10 v3_11 v4_12 v5_13 M_15 _ _ _ hP hS (lv_sub hl [0, 1, 2, 3, 4, 5] rfl) h
      · have h := ife_f c_16 h
        refine lv_aload_n hx hb dX8_leftOut_32 rfl (lv_at hl 0 rfl) ?_
        refine lv_iload hx hb dX8_leftOut_33 (lv_at hl 6 rfl) ?_
        refine lv_aload_n hx hb dX8_leftOut_35 rfl (lv_at hl 0 rfl) ?_
        refine va_get (D := (dC, dI)) (ci := 8) (v := .ref (ad (3))) (C := RX8) (T := TX8) (N := 29) hx hb hg inX8 hown hKn.1 hP (0) (m_at8 (c := 0) (by decide)) rfl 2 (Nat.le_of_ble_eq_true rfl) (hg _ lkF_X8_16) (fun _ h9 => h9) rfl dX8_leftOut_36 ?_
        refine lv_bipush (v := 13) hx hb dX8_leftOut_39 (by decide) ?_
        refine m_iald (M := M_15) (a := 3) hx hb hKn hP (by decide) (j := 13) (by decide) (by decide) dX8_leftOut_41 ?_
        obtain ⟨r_17, e42, h⟩ := bo_use h
        refine gc_i (va_runV (As := [.int (v6_14), .int ((M_15.1 3 13))]) (rest := []) hFx (tX8_maySheet l dC dI kI kZ ad v6_14 (M_15.1 3 13) M_15  e42) ⟨(gc_B hFx ck_yX8_maySheet lkM_X8_176 ⟨Nat.le_of_ble_eq_true rfl, Nat.le_of_ble_eq_true rfl⟩ rfl rfl), hg _ vi_yX8_maySheet, hg _ vs_yX8_maySheet⟩ (gp_V m_KnB (m_KnW hKn) hP (m_rc8 (c := 0) (by decide) hKn hP)) rfl rfl hl.1 rfl (lv_room (Nat.le_of_ble_eq_true rfl)) dX8_leftOut_42 ⟨Nat.zero_le _, Nat.zero_le _⟩) hS (fun H locs hP hS => ?_)
        have hP : va_P (dC, dI) vwCl (m_w kI kZ ad M_15.1 M_15.2) H := hP
        obtain ⟨J92, eJ92, h⟩ := jn_use h
        have hJ92 : ∀ (j2_18 : Int32) (j3_19 : Int32) (j4_20 : Int32) (j5_21 : Int32) (M_22 : MM) (H : Heap) (locs : List Loc) (ls : Array Slot), va_P (dC, dI) vwCl (m_w kI kZ ad M_22.1 M_22.2) H → va_S (m_A ad) s.heap H locs → lv_has ls 8 [(0, .ref (ad (0))), (1, .int (a1)), (6, .int (v6_14)), (2, .int (j2_18)), (3, .int (j3_19)), (4, .int (j4_20)), (5, .int (j5_21))] → J92 j2_18 j3_19 j4_20 j5_21 M_22 = some (r0, M0) → W p l e (headSpec (wsA yX8_leftOut cX8_leftOut 8 (some .int)) ({ frames := 4, cells := 0, slots := 0, locals := 92 } : Room)).room s m (([.ref (ad (0)), .int (a1)] : List Value).toArray) below meth c H locs 0 0 (MQ below (va_Qi (fun (r : Int32) (u : MM) => r = r0 ∧ u = M0) (gI (m_Wd dC dI kI kZ ad) (m_Kn dC dI kI kZ ad)) (m_A ad)) (([.ref (ad (0)), .int (a1)] : List Value).toArray) s 0 0 (m_A ad)) (F0 m 92 ls []) := by
          intro j2_18 j3_19 j4_20 j5_21 M_22 H locs ls hP hS hl h
          have h := useK5 eJ92 h
          refine lv_iinc (v := (v6_14 + 1)) (lv' := [(6, .int ((v6_14 + 1))), (0, .ref (ad (0))), (1, .int (a1)), (2, .int (j2_18)), (3, .int (j3_19)), (4, .int (j4_20)), (5, .int (j5_21))]) hx hb dX8_leftOut_92 hl (k := 2) rfl rfl (Nat.le_of_ble_eq_true rfl) rfl (fun ls hl => ?_)
          refine lv_goto (tgt := 19) hx hb dX8_leftOut_95 (by decide) ?_
          exact ih19 j2_18 j3_19 j4_20 j5_21 (v6_14 + 1) M_22 _ _ _ hP hS (lv_sub hl [1, 2, 3, 4, 5, 6, 0] rfl) h
        refine lv_if_eq (tgt := 92) hx hb dX8_leftOut_45 (by decide) (fun c_23 => ?_) (fun c_23 => ?_)
        · have h := ife_t c_23 h
          exact hJ92 v2_10 v3_11 v4_12 v5_13 M_15 _ _ _ hP hS (lv_sub hl [0, 1, 6, 2, 3, 4, 5] rfl) h
        · have h := ife_f c_23 h
          refine lv_aload_n hx hb dX8_leftOut_48 rfl (lv_at hl 0 rfl) ?_
          refine lv_iload hx hb dX8_leftOut_49 (lv_at hl 6 rfl) ?_
          obtain ⟨r_24, M_25, e51, h⟩ := bd_use h
          refine gc_i (va_runV (As := [.int (v6_14)]) (rest := []) hFx (tX8_triesTonight l dC dI kI kZ ad v6_14 M_15  e51) ⟨(gc_B hFx ck_yX8_triesTonight lkM_X8_207 ⟨Nat.le_of_ble_eq_true rfl, Nat.le_of_ble_eq_true rfl⟩ rfl rfl), hg _ vi_yX8_triesTonight, hg _ vs_yX8_triesTonight⟩ (gp_V m_KnB (m_KnW hKn) hP (m_rc8 (c := 0) (by decide) hKn hP)) rfl rfl hl.1 rfl (lv_room (Nat.le_of_ble_eq_true rfl)) dX8_leftOut_51 ⟨Nat.zero_le _, Nat.zero_le _⟩) hS (fun H locs hP hS => ?_)
          have hP : va_P (dC, dI) vwCl (m_w kI kZ ad M_25.1 M_25.2) H := hP
          refine lv_istore (lv' := [(7, .int (r_24)), (0, .ref (ad (0))), (1, .int (a1)), (2, .int (v2_10)), (3, .int (v3_11)), (4, .int (v4_12)), (5, .int (v5_13)), (6, .int (v6_14))]) hx hb dX8_leftOut_54 hl (Nat.le_of_ble_eq_true rfl) rfl (fun ls hl => ?_)
          refine lv_aload_n hx hb dX8_leftOut_56 rfl (lv_at hl 1 rfl) ?_
          obtain ⟨r_26, e57, h⟩ := bo_use h
          refine gc_i (va_runV (As := []) (rest := []) hFx (tX8_isThought l dC dI kI kZ ad  M_25  e57) ⟨(gc_B hFx ck_yX8_isThought lkM_X8_249 ⟨Nat.le_of_ble_eq_true rfl, Nat.le_of_ble_eq_true rfl⟩ rfl rfl), hg _ vi_yX8_isThought, hg _ vs_yX8_isThought⟩ (gp_V m_KnB (m_KnW hKn) hP (m_rc8 (c := 0) (by decide) hKn hP)) rfl rfl hl.1 rfl (lv_room (Nat.le_of_ble_eq_true rfl)) dX8_leftOut_57 ⟨Nat.zero_le _, Nat.zero_le _⟩) hS (fun H locs hP hS => ?_)
          have hP : va_P (dC, dI) vwCl (m_w kI kZ ad M_25.1 M_25.2) H := hP
          refine lv_if_eq (tgt := 92) hx hb dX8_leftOut_60 (by decide) (fun c_27 => ?_) (fun c_27 => ?_)
          · have h := ife_t c_27 h
            exact hJ92 v2_10 v3_11 v4_12 v5_13 M_25 _ _ _ hP hS (lv_sub hl [1, 2, 7, 3, 4, 5, 6] rfl) h
          · have h := ife_f c_27 h
            refine lv_iload_n hx hb dX8_leftOut_63 rfl (lv_at hl 3 rfl) ?_
            refine lv_iload_n hx hb dX8_leftOut_64 rfl (lv_at hl 2 rfl) ?_
            obtain ⟨J74, eJ74, h⟩ := jn_use h
            have hJ74 : ∀ (s_28 : Int32) (H : Heap) (locs : List Loc) (ls : Array Slot), va_P (dC, dI) vwCl (m_w kI kZ ad M_25.1 M_25.2) H → va_S (m_A ad) s.heap H locs → lv_has ls 8 [(0, .ref (ad (0))), (1, .int (a1)), (2, .int (v2_10)), (4, .int (v4_12)), (5, .int (v5_13)), (6, .int (v6_14))] → J74 s_28 = some (r0, M0) → W p l e (headSpec (wsA yX8_leftOut cX8_leftOut 8 (some .int)) ({ frames := 4, cells := 0, slots := 0, locals := 92 } : Room)).room s m (([.ref (ad (0)), .int (a1)] : List Value).toArray) below meth c H locs 0 0 (MQ below (va_Qi (fun (r : Int32) (u : MM) => r = r0 ∧ u = M0) (gI (m_Wd dC dI kI kZ ad) (m_Kn dC dI kI kZ ad)) (m_A ad)) (([.ref (ad (0)), .int (a1)] : List Value).toArray) s 0 0 (m_A ad)) (F0 m 74 ls [.int (s_28)]) := by
              intro s_28 H locs ls hP hS hl h
              have h := useK1 eJ74 h
              refine lv_istore_n (lv' := [(3, .int (s_28)), (0, .ref (ad (0))), (1, .int (a1)), (2, .int (v2_10)), (4, .int (v4_12)), (5, .int (v5_13)), (6, .int (v6_14))]) hx hb dX8_leftOut_74 rfl hl (Nat.le_of_ble_eq_true rfl) rfl (fun ls hl => ?_)
              refine lv_iinc (v := (v2_10 + 1)) (lv' := [(2, .int ((v2_10 + 1))), (3, .int (s_28)), (0, .ref (ad (0))), (1, .int (a1)), (4, .int (v4_12)), (5, .int (v5_13)), (6, .int (v6_14))]) hx hb dX8_leftOut_75 hl (k := 3) rfl rfl (Nat.le_of_ble_eq_true rfl) rfl (fun ls hl => ?_)
              refine lv_iload hx hb dX8_leftOut_78 (lv_at hl 4 rfl) ?_
              refine lv_iload hx hb dX8_leftOut_80 (lv_at hl 6 rfl) ?_
              refine lv_iand hx hb dX8_leftOut_82 ?_
              refine lv_istore (lv' := [(4, .int ((v4_12 &&& v6_14))), (2, .int ((v2_10 + 1))), (3, .int (s_28)), (0, .ref (ad (0))), (1, .int (a1)), (5, .int (v5_13)), (6, .int (v6_14))]) hx hb dX8_leftOut_83 hl (Nat.le_of_ble_eq_true rfl) rfl (fun ls hl => ?_)
              refine lv_iload hx hb dX8_leftOut_85 (lv_at hl 5 rfl) ?_
              refine lv_iload hx hb dX8_leftOut_87 (lv_at hl 6 rfl) ?_
              refine lv_ior hx hb dX8_leftOut_89 ?_
              refine lv_istore (lv' := [(5, .int ((v5_13 ||| v6_14))), (4, .int ((v4_12 &&& v6_14))), (2, .int ((v2_10 + 1))), (3, .int (s_28)), (0, .ref (ad (0))), (1, .int (a1)), (6, .int (v6_14))]) hx hb dX8_leftOut_90 hl (Nat.le_of_ble_eq_true rfl) rfl (fun ls hl => ?_)
              exact hJ92 (v2_10 + 1) s_28 (v4_12 &&& v6_14) (v5_13 ||| v6_14) M_25 _ _ _ hP hS (lv_sub hl [4, 5, 6, 2, 3, 1, 0] rfl) h
            refine lv_icmp_ne (tgt := 73) hx hb dX8_leftOut_65 (by decide) (fun c_29 => ?_) (fun c_29 => ?_)
            · have h := ife_f c_29 h
              refine lv_iload_n hx hb dX8_leftOut_73 rfl (lv_at hl 4 rfl) ?_
              exact hJ74 v3_11 _ _ _ hP hS (lv_sub hl [1, 2, 3, 5, 6, 7] rfl) h
            · have h := ife_t c_29 h
              refine lv_iload hx hb dX8_leftOut_68 (lv_at hl 7 rfl) ?_
              refine lv_goto (tgt := 74) hx hb dX8_leftOut_70 (by decide) ?_
              exact hJ74 v6_14 _ _ _ hP hS (lv_sub hl [1, 2, 3, 5, 6, 7] rfl) h
  exact hL19 fuelN 0 (-1) (M.1 3 13) 0 0 M _ _ _ hP hS (lv_sub hl [5, 6, 4, 3, 2, 1, 0] rfl) h
noncomputable def FX8_make (a1 : Int32) (M : MM) : Option (Int32 × MM) :=
  bo (FX8_isFact a1 M) (fun (r_1 : Int32) => (if r_1 = 0 then some ((-1000000001), M) else bo (FX8_has (M.1 3 13) a1) (fun (r_3 : Int32) => (if r_3 = 0 then bo (FX8_remember  M) (fun (M_5 : MM) => (if inb (42 + a1) 50 then some (((um (um M_5 3 13 ((M_5.1 3 13) ||| (1 <<< (a1 &&& 31)))) 3 15 (((um M_5 3 13 ((M_5.1 3 13) ||| (1 <<< (a1 &&& 31)))).1 3 15) + ((um M_5 3 13 ((M_5.1 3 13) ||| (1 <<< (a1 &&& 31)))).1 1 (ix (42 + a1))))).1 3 15), um (um M_5 3 13 ((M_5.1 3 13) ||| (1 <<< (a1 &&& 31)))) 3 15 (((um M_5 3 13 ((M_5.1 3 13) ||| (1 <<< (a1 &&& 31)))).1 3 15) + ((um M_5 3 13 ((M_5.1 3 13) ||| (1 <<< (a1 &&& 31)))).1 1 (ix (42 + a1))))) else none)) else some ((-1000000003), M)))))
set_option maxHeartbeats 4000000 in
set_option maxRecDepth 100000 in
theorem tX8_make (l : Launch) (dC : Nat → ClassId) (dI : Nat → Nat → Nat) (kI kZ : ClassId) (ad : Nat → Nat) (a1 : Int32) (M : MM)  {r0 : Int32} {M0 : MM} (h : FX8_make a1 M = some (r0, M0)) : Met l yX8_make (wsA yX8_make cX8_make 2 (some .int)) ({ frames := 2, cells := 0, slots := 0, locals := 46 } : Room) (va_Pc [.ref (ad (0)), .int (a1)] (gI (m_Wd dC dI kI kZ ad) (m_Kn dC dI kI kZ ad) M)) (va_Qi (fun (r : Int32) (u : MM) => r = r0 ∧ u = M0) (gI (m_Wd dC dI kI kZ ad) (m_Kn dC dI kI kZ ad)) (m_A ad)) 0 0 (m_A ad) := by
  refine Met.ofW (cc := cX8_make) (maxL := 2) (ret := (some .int)) (by decide) rfl ?_
  intro p e s m args below meth c s₁ B hml hv
  obtain ⟨rfl, hP, hKn⟩ := hv
  have hx := B.exec
  have hb := B.bytes
  have hr := B.returns
  have hts := atoms_spec (ws := wsA yX8_make cX8_make 2 (some .int)) B.pre
  have hg : ∀ w ∈ lw_good, w.before _ s = true := fun w h => hts w (List.mem_cons_of_mem _ h)
  have hown : s.vm.findClass RX8 = some m.cls := findClass_of_methodNamed B.named
  have hlocks := B.notSynchronized
  have hS : va_S (m_A ad) s.heap s.heap [] := va_S.rf
  have hFx : gFix p c cX8_make 2 s m _ RX8 := ⟨hx, hb, hml, hown, hg⟩
  have hP : va_P (dC, dI) vwCl (m_w kI kZ ad M.1 M.2) s.heap := hP
  have hl := lv_entry ([.ref (ad (0)), .int (a1)]) (n := 2) (Nat.le_of_ble_eq_true rfl)
  rw [lg_entry_eq]
  generalize (lg_sl ([.ref (ad (0)), .int (a1)]) ++ List.replicate (2 - (lg_sl ([.ref (ad (0)), .int (a1)])).length) Slot.unset).toArray = ls at hl ⊢
  have hl : lv_has ls 2 [(0, .ref (ad (0))), (1, .int (a1))] := hl
  unfold FX8_make at h
  refine lv_aload_n hx hb dX8_make_0 rfl (lv_at hl 0 rfl) ?_
  refine lv_iload_n hx hb dX8_make_1 rfl (lv_at hl 1 rfl) ?_
  obtain ⟨r_1, e2, h⟩ := bo_use h
  refine gc_i (va_runV (As := [.int (a1)]) (rest := []) hFx (tX8_isFact l dC dI kI kZ ad a1 M  e2) ⟨(gc_B hFx ck_yX8_isFact lkM_X8_144 ⟨Nat.le_of_ble_eq_true rfl, Nat.le_of_ble_eq_true rfl⟩ rfl rfl), hg _ vi_yX8_isFact, hg _ vs_yX8_isFact⟩ (gp_V m_KnB (m_KnW hKn) hP (m_rc8 (c := 0) (by decide) hKn hP)) rfl rfl hl.1 rfl (lv_room (Nat.le_of_ble_eq_true rfl)) dX8_make_2 ⟨Nat.zero_le _, Nat.zero_le _⟩) hS (fun H locs hP hS => ?_)
  have hP : va_P (dC, dI) vwCl (m_w kI kZ ad M.1 M.2) H := hP
  refine lv_if_ne (tgt := 11) hx hb dX8_make_5 (by decide) (fun c_2 => ?_) (fun c_2 => ?_)
  · have h := ife_f c_2 h
    refine lv_aload_n hx hb dX8_make_11 rfl (lv_at hl 0 rfl) ?_
    refine va_get (D := (dC, dI)) (ci := 8) (v := .ref (ad (3))) (C := RX8) (T := TX8) (N := 29) hx hb hg inX8 hown hKn.1 hP (0) (m_at8 (c := 0) (by decide)) rfl 2 (Nat.le_of_ble_eq_true rfl) (hg _ lkF_X8_16) (fun _ h9 => h9) rfl dX8_make_12 ?_
    refine lv_bipush (v := 13) hx hb dX8_make_15 (by decide) ?_
    refine m_iald (M := M) (a := 3) hx hb hKn hP (by decide) (j := 13) (by decide) (by decide) dX8_make_17 ?_
    refine lv_iload_n hx hb dX8_make_18 rfl (lv_at hl 1 rfl) ?_
    obtain ⟨r_3, e19, h⟩ := bo_use h
    refine gc_i (va_runS (As := [.int ((M.1 3 13)), .int (a1)]) (rest := []) hFx (tX8_has l dC dI kI kZ ad (M.1 3 13) a1 M  e19) ⟨(gc_B hFx ck_yX8_has lkM_X8_147 ⟨Nat.le_of_ble_eq_true rfl, Nat.le_of_ble_eq_true rfl⟩ rfl rfl), hg _ st_yX8_has⟩ (gp_S m_KnB (m_KnW hKn) hP) rfl rfl hl.1 rfl (lv_room (Nat.le_of_ble_eq_true rfl)) dX8_make_19 ⟨Nat.zero_le _, Nat.zero_le _⟩) hS (fun H locs hP hS => ?_)
    have hP : va_P (dC, dI) vwCl (m_w kI kZ ad M.1 M.2) H := hP
    refine lv_if_eq (tgt := 28) hx hb dX8_make_22 (by decide) (fun c_4 => ?_) (fun c_4 => ?_)
    · have h := ife_t c_4 h
      refine lv_aload_n hx hb dX8_make_28 rfl (lv_at hl 0 rfl) ?_
      obtain ⟨M_5, e29, h⟩ := bo_use h
      refine gc_v (va_runV (As := []) (rest := []) hFx (tX8_remember l dC dI kI kZ ad  M  e29) ⟨(gc_B hFx ck_yX8_remember lkM_X8_181 ⟨Nat.le_of_ble_eq_true rfl, Nat.le_of_ble_eq_true rfl⟩ rfl rfl), hg _ vi_yX8_remember, hg _ vs_yX8_remember⟩ (gp_V m_KnB (m_KnW hKn) hP (m_rc8 (c := 0) (by decide) hKn hP)) rfl rfl hl.1 rfl (lv_room (Nat.le_of_ble_eq_true rfl)) dX8_make_29 ⟨Nat.zero_le _, Nat.zero_le _⟩) hS (fun H locs hP hS => ?_)
      have hP : va_P (dC, dI) vwCl (m_w kI kZ ad M_5.1 M_5.2) H := hP
      refine lv_aload_n hx hb dX8_make_32 rfl (lv_at hl 0 rfl) ?_
      refine va_get (D := (dC, dI)) (ci := 8) (v := .ref (ad (3))) (C := RX8) (T := TX8) (N := 29) hx hb hg inX8 hown hKn.1 hP (0) (m_at8 (c := 0) (by decide)) rfl 2 (Nat.le_of_ble_eq_true rfl) (hg _ lkF_X8_16) (fun _ h9 => h9) rfl dX8_make_33 ?_
      refine lv_bipush (v := 13) hx hb dX8_make_36 (by decide) ?_
      refine lv_dup2_11 hx hb dX8_make_38 rfl rfl ?_
      refine m_iald (M := M_5) (a := 3) hx hb hKn hP (by decide) (j := 13) (by decide) (by decide) dX8_make_39 ?_
      refine lv_iconst (v := 1) hx hb dX8_make_40 (by decide) ?_
      refine lv_iload_n hx hb dX8_make_41 rfl (lv_at hl 1 rfl) ?_
      refine lv_ishl hx hb dX8_make_42 ?_
      refine lv_ior hx hb dX8_make_43 ?_
      refine m_iast (M := M_5) (a := 3) hx hb hKn hP hS (by decide) (x := ((M_5.1 3 13) ||| (1 <<< (a1 &&& 31)))) (j := 13) (by decide) (by decide) dX8_make_44 (fun H locs hP hS => ?_)
      have hP : va_P (dC, dI) vwCl (m_w kI kZ ad (um M_5 3 13 ((M_5.1 3 13) ||| (1 <<< (a1 &&& 31)))).1 (um M_5 3 13 ((M_5.1 3 13) ||| (1 <<< (a1 &&& 31)))).2) H := hP
      refine lv_aload_n hx hb dX8_make_45 rfl (lv_at hl 0 rfl) ?_
      refine va_get (D := (dC, dI)) (ci := 8) (v := .ref (ad (3))) (C := RX8) (T := TX8) (N := 29) hx hb hg inX8 hown hKn.1 hP (0) (m_at8 (c := 0) (by decide)) rfl 2 (Nat.le_of_ble_eq_true rfl) (hg _ lkF_X8_16) (fun _ h9 => h9) rfl dX8_make_46 ?_
      refine lv_bipush (v := 15) hx hb dX8_make_49 (by decide) ?_
      refine lv_dup2_11 hx hb dX8_make_51 rfl rfl ?_
      refine m_iald (M := (um M_5 3 13 ((M_5.1 3 13) ||| (1 <<< (a1 &&& 31))))) (a := 3) hx hb hKn hP (by decide) (j := 15) (by decide) (by decide) dX8_make_52 ?_
      refine lv_aload_n hx hb dX8_make_53 rfl (lv_at hl 0 rfl) ?_
      refine va_get (D := (dC, dI)) (ci := 8) (v := .ref (ad (1))) (C := RX8) (T := TX8) (N := 29) hx hb hg inX8 hown hKn.1 hP (0) (m_at8 (c := 0) (by decide)) rfl 0 (Nat.le_of_ble_eq_true rfl) (hg _ lkF_X8_7) (fun _ h9 => h9) rfl dX8_make_54 ?_
      refine lv_bipush (v := 42) hx hb dX8_make_57 (by decide) ?_
      refine lv_iload_n hx hb dX8_make_59 rfl (lv_at hl 1 rfl) ?_
      refine lv_iadd hx hb dX8_make_60 ?_
      obtain ⟨hi61, h⟩ := if_use h
      refine m_iald (M := (um M_5 3 13 ((M_5.1 3 13) ||| (1 <<< (a1 &&& 31))))) (a := 1) hx hb hKn hP (by decide) (j := (ix (42 + a1))) rfl hi61 dX8_make_61 ?_
      refine lv_iadd hx hb dX8_make_62 ?_
      refine m_iast (M := (um M_5 3 13 ((M_5.1 3 13) ||| (1 <<< (a1 &&& 31))))) (a := 3) hx hb hKn hP hS (by decide) (x := (((um M_5 3 13 ((M_5.1 3 13) ||| (1 <<< (a1 &&& 31)))).1 3 15) + ((um M_5 3 13 ((M_5.1 3 13) ||| (1 <<< (a1 &&& 31)))).1 1 (ix (42 + a1))))) (j := 15) (by decide) (by decide) dX8_make_63 (fun H locs hP hS => ?_)
      have hP : va_P (dC, dI) vwCl (m_w kI kZ ad (um (um M_5 3 13 ((M_5.1 3 13) ||| (1 <<< (a1 &&& 31)))) 3 15 (((um M_5 3 13 ((M_5.1 3 13) ||| (1 <<< (a1 &&& 31)))).1 3 15) + ((um M_5 3 13 ((M_5.1 3 13) ||| (1 <<< (a1 &&& 31)))).1 1 (ix (42 + a1))))).1 (um (um M_5 3 13 ((M_5.1 3 13) ||| (1 <<< (a1 &&& 31)))) 3 15 (((um M_5 3 13 ((M_5.1 3 13) ||| (1 <<< (a1 &&& 31)))).1 3 15) + ((um M_5 3 13 ((M_5.1 3 13) ||| (1 <<< (a1 &&& 31)))).1 1 (ix (42 + a1))))).2) H := hP
      refine lv_aload_n hx hb dX8_make_64 rfl (lv_at hl 0 rfl) ?_
      refine va_get (D := (dC, dI)) (ci := 8) (v := .ref (ad (3))) (C := RX8) (T := TX8) (N := 29) hx hb hg inX8 hown hKn.1 hP (0) (m_at8 (c := 0) (by decide)) rfl 2 (Nat.le_of_ble_eq_true rfl) (hg _ lkF_X8_16) (fun _ h9 => h9) rfl dX8_make_65 ?_
      refine lv_bipush (v := 15) hx hb dX8_make_68 (by decide) ?_
      refine m_iald (M := (um (um M_5 3 13 ((M_5.1 3 13) ||| (1 <<< (a1 &&& 31)))) 3 15 (((um M_5 3 13 ((M_5.1 3 13) ||| (1 <<< (a1 &&& 31)))).1 3 15) + ((um M_5 3 13 ((M_5.1 3 13) ||| (1 <<< (a1 &&& 31)))).1 1 (ix (42 + a1)))))) (a := 3) hx hb hKn hP (by decide) (j := 15) (by decide) (by decide) dX8_make_70 ?_
      exact W.iret (v := ((um (um M_5 3 13 ((M_5.1 3 13) ||| (1 <<< (a1 &&& 31)))) 3 15 (((um M_5 3 13 ((M_5.1 3 13) ||| (1 <<< (a1 &&& 31)))).1 3 15) + ((um M_5 3 13 ((M_5.1 3 13) ||| (1 <<< (a1 &&& 31)))).1 1 (ix (42 + a1))))).1 3 15)) hx hb hr (fun t ht hW => ⟨⟨((um (um M_5 3 13 ((M_5.1 3 13) ||| (1 <<< (a1 &&& 31)))) 3 15 (((um M_5 3 13 ((M_5.1 3 13) ||| (1 <<< (a1 &&& 31)))).1 3 15) + ((um M_5 3 13 ((M_5.1 3 13) ||| (1 <<< (a1 &&& 31)))).1 1 (ix (42 + a1))))).1 3 15), um (um M_5 3 13 ((M_5.1 3 13) ||| (1 <<< (a1 &&& 31)))) 3 15 (((um M_5 3 13 ((M_5.1 3 13) ||| (1 <<< (a1 &&& 31)))).1 3 15) + ((um M_5 3 13 ((M_5.1 3 13) ||| (1 <<< (a1 &&& 31)))).1 1 (ix (42 + a1)))), rfl, Prod.mk.inj (Option.some.inj h), by rw [ht]; exact hP, m_KnW hKn t hW⟩, hS.F ht⟩) hS.2.2 dX8_make_71
    · have h := ife_f c_4 h
      refine lv_ldc hx hb hown (hg _ kc_X8_179) dX8_make_25 ?_
      exact W.iret (v := (-1000000003)) hx hb hr (fun t ht hW => ⟨⟨(-1000000003), M, rfl, Prod.mk.inj (Option.some.inj h), by rw [ht]; exact hP, m_KnW hKn t hW⟩, hS.F ht⟩) hS.2.2 dX8_make_27
  · have h := ife_t c_2 h
    refine lv_ldc hx hb hown (hg _ kc_X8_143) dX8_make_8 ?_
    exact W.iret (v := (-1000000001)) hx hb hr (fun t ht hW => ⟨⟨(-1000000001), M, rfl, Prod.mk.inj (Option.some.inj h), by rw [ht]; exact hP, m_KnW hKn t hW⟩, hS.F ht⟩) hS.2.2 dX8_make_10
noncomputable def FX8_meet (a1 : Int32) (a2 : Int32) (M : MM) : Option (Int32 × MM) :=
  bo (FX8_isOpinion a1 M) (fun (r_1 : Int32) => (if r_1 = 0 then some ((-1000000001), M) else bo (FX8_in ((a2).toInt64) 0 20) (fun (r_3 : Int32) => (if r_3 = 0 then some ((-1000000002), M) else bo (FX8_remember  M) (fun (M_5 : MM) => (if inb a1 17 then (if inb a1 17 then (if inb a1 17 then some (((um M_5 3 (ix a1) (((2 * (M_5.1 3 (ix a1))) + a2) / 3)).1 3 (ix a1)), um M_5 3 (ix a1) (((2 * (M_5.1 3 (ix a1))) + a2) / 3)) else none) else none) else none))))))
set_option maxHeartbeats 4000000 in
set_option maxRecDepth 100000 in
theorem tX8_meet (l : Launch) (dC : Nat → ClassId) (dI : Nat → Nat → Nat) (kI kZ : ClassId) (ad : Nat → Nat) (a1 : Int32) (a2 : Int32) (M : MM)  {r0 : Int32} {M0 : MM} (h : FX8_meet a1 a2 M = some (r0, M0)) : Met l yX8_meet (wsA yX8_meet cX8_meet 3 (some .int)) ({ frames := 2, cells := 0, slots := 0, locals := 46 } : Room) (va_Pc [.ref (ad (0)), .int (a1), .int (a2)] (gI (m_Wd dC dI kI kZ ad) (m_Kn dC dI kI kZ ad) M)) (va_Qi (fun (r : Int32) (u : MM) => r = r0 ∧ u = M0) (gI (m_Wd dC dI kI kZ ad) (m_Kn dC dI kI kZ ad)) (m_A ad)) 0 0 (m_A ad) := by
  refine Met.ofW (cc := cX8_meet) (maxL := 3) (ret := (some .int)) (by decide) rfl ?_
  intro p e s m args below meth c s₁ B hml hv
  obtain ⟨rfl, hP, hKn⟩ := hv
  have hx := B.exec
  have hb := B.bytes
  have hr := B.returns
  have hts := atoms_spec (ws := wsA yX8_meet cX8_meet 3 (some .int)) B.pre
  have hg : ∀ w ∈ lw_good, w.before _ s = true := fun w h => hts w (List.mem_cons_of_mem _ h)
  have hown : s.vm.findClass RX8 = some m.cls := findClass_of_methodNamed B.named
  have hlocks := B.notSynchronized
  have hS : va_S (m_A ad) s.heap s.heap [] := va_S.rf
  have hFx : gFix p c cX8_meet 3 s m _ RX8 := ⟨hx, hb, hml, hown, hg⟩
  have hP : va_P (dC, dI) vwCl (m_w kI kZ ad M.1 M.2) s.heap := hP
  have hl := lv_entry ([.ref (ad (0)), .int (a1), .int (a2)]) (n := 3) (Nat.le_of_ble_eq_true rfl)
  rw [lg_entry_eq]
  generalize (lg_sl ([.ref (ad (0)), .int (a1), .int (a2)]) ++ List.replicate (3 - (lg_sl ([.ref (ad (0)), .int (a1), .int (a2)])).length) Slot.unset).toArray = ls at hl ⊢
  have hl : lv_has ls 3 [(0, .ref (ad (0))), (1, .int (a1)), (2, .int (a2))] := hl
  unfold FX8_meet at h
  refine lv_aload_n hx hb dX8_meet_0 rfl (lv_at hl 0 rfl) ?_
  refine lv_iload_n hx hb dX8_meet_1 rfl (lv_at hl 1 rfl) ?_
  obtain ⟨r_1, e2, h⟩ := bo_use h
  refine gc_i (va_runV (As := [.int (a1)]) (rest := []) hFx (tX8_isOpinion l dC dI kI kZ ad a1 M  e2) ⟨(gc_B hFx ck_yX8_isOpinion lkM_X8_140 ⟨Nat.le_of_ble_eq_true rfl, Nat.le_of_ble_eq_true rfl⟩ rfl rfl), hg _ vi_yX8_isOpinion, hg _ vs_yX8_isOpinion⟩ (gp_V m_KnB (m_KnW hKn) hP (m_rc8 (c := 0) (by decide) hKn hP)) rfl rfl hl.1 rfl (lv_room (Nat.le_of_ble_eq_true rfl)) dX8_meet_2 ⟨Nat.zero_le _, Nat.zero_le _⟩) hS (fun H locs hP hS => ?_)
  have hP : va_P (dC, dI) vwCl (m_w kI kZ ad M.1 M.2) H := hP
  refine lv_if_ne (tgt := 11) hx hb dX8_meet_5 (by decide) (fun c_2 => ?_) (fun c_2 => ?_)
  · have h := ife_f c_2 h
    refine lv_iload_n hx hb dX8_meet_11 rfl (lv_at hl 2 rfl) ?_
    refine lv_i2l (v := ((a2).toInt64)) hx hb dX8_meet_12 rfl ?_
    refine lv_lconst (v := 0) hx hb dX8_meet_13 (by decide) ?_
    refine lv_ldc2 hx hb hown (hg _ kc_X8_188) dX8_meet_14 ?_
    obtain ⟨r_3, e17, h⟩ := bo_use h
    refine gc_i (va_runS (As := [.long (((a2).toInt64)), .long (0), .long (20)]) (rest := []) hFx (tX8_in l dC dI kI kZ ad ((a2).toInt64) 0 20 M  e17) ⟨(gc_B hFx ck_yX8_in lkM_X8_74 ⟨Nat.le_of_ble_eq_true rfl, Nat.le_of_ble_eq_true rfl⟩ rfl rfl), hg _ st_yX8_in⟩ (gp_S m_KnB (m_KnW hKn) hP) rfl rfl hl.1 rfl (lv_room (Nat.le_of_ble_eq_true rfl)) dX8_meet_17 ⟨Nat.zero_le _, Nat.zero_le _⟩) hS (fun H locs hP hS => ?_)
    have hP : va_P (dC, dI) vwCl (m_w kI kZ ad M.1 M.2) H := hP
    refine lv_if_ne (tgt := 26) hx hb dX8_meet_20 (by decide) (fun c_4 => ?_) (fun c_4 => ?_)
    · have h := ife_f c_4 h
      refine lv_aload_n hx hb dX8_meet_26 rfl (lv_at hl 0 rfl) ?_
      obtain ⟨M_5, e27, h⟩ := bo_use h
      refine gc_v (va_runV (As := []) (rest := []) hFx (tX8_remember l dC dI kI kZ ad  M  e27) ⟨(gc_B hFx ck_yX8_remember lkM_X8_181 ⟨Nat.le_of_ble_eq_true rfl, Nat.le_of_ble_eq_true rfl⟩ rfl rfl), hg _ vi_yX8_remember, hg _ vs_yX8_remember⟩ (gp_V m_KnB (m_KnW hKn) hP (m_rc8 (c := 0) (by decide) hKn hP)) rfl rfl hl.1 rfl (lv_room (Nat.le_of_ble_eq_true rfl)) dX8_meet_27 ⟨Nat.zero_le _, Nat.zero_le _⟩) hS (fun H locs hP hS => ?_)
      have hP : va_P (dC, dI) vwCl (m_w kI kZ ad M_5.1 M_5.2) H := hP
      refine lv_aload_n hx hb dX8_meet_30 rfl (lv_at hl 0 rfl) ?_
      refine va_get (D := (dC, dI)) (ci := 8) (v := .ref (ad (3))) (C := RX8) (T := TX8) (N := 29) hx hb hg inX8 hown hKn.1 hP (0) (m_at8 (c := 0) (by decide)) rfl 2 (Nat.le_of_ble_eq_true rfl) (hg _ lkF_X8_16) (fun _ h9 => h9) rfl dX8_meet_31 ?_
      refine lv_iload_n hx hb dX8_meet_34 rfl (lv_at hl 1 rfl) ?_
      refine lv_iconst (v := 2) hx hb dX8_meet_35 (by decide) ?_
      refine lv_aload_n hx hb dX8_meet_36 rfl (lv_at hl 0 rfl) ?_
      refine va_get (D := (dC, dI)) (ci := 8) (v := .ref (ad (3))) (C := RX8) (T := TX8) (N := 29) hx hb hg inX8 hown hKn.1 hP (0) (m_at8 (c := 0) (by decide)) rfl 2 (Nat.le_of_ble_eq_true rfl) (hg _ lkF_X8_16) (fun _ h9 => h9) rfl dX8_meet_37 ?_
      refine lv_iload_n hx hb dX8_meet_40 rfl (lv_at hl 1 rfl) ?_
      obtain ⟨hi41, h⟩ := if_use h
      refine m_iald (M := M_5) (a := 3) hx hb hKn hP (by decide) (j := (ix a1)) rfl hi41 dX8_meet_41 ?_
      refine lv_imul hx hb dX8_meet_42 ?_
      refine lv_iload_n hx hb dX8_meet_43 rfl (lv_at hl 2 rfl) ?_
      refine lv_iadd hx hb dX8_meet_44 ?_
      refine lv_iconst (v := 3) hx hb dX8_meet_45 (by decide) ?_
      refine lv_idiv hx hb dX8_meet_46 (by decide) ?_
      obtain ⟨hi47, h⟩ := if_use h
      refine m_iast (M := M_5) (a := 3) hx hb hKn hP hS (by decide) (x := (((2 * (M_5.1 3 (ix a1))) + a2) / 3)) (j := (ix a1)) rfl hi47 dX8_meet_47 (fun H locs hP hS => ?_)
      have hP : va_P (dC, dI) vwCl (m_w kI kZ ad (um M_5 3 (ix a1) (((2 * (M_5.1 3 (ix a1))) + a2) / 3)).1 (um M_5 3 (ix a1) (((2 * (M_5.1 3 (ix a1))) + a2) / 3)).2) H := hP
      refine lv_aload_n hx hb dX8_meet_48 rfl (lv_at hl 0 rfl) ?_
      refine va_get (D := (dC, dI)) (ci := 8) (v := .ref (ad (3))) (C := RX8) (T := TX8) (N := 29) hx hb hg inX8 hown hKn.1 hP (0) (m_at8 (c := 0) (by decide)) rfl 2 (Nat.le_of_ble_eq_true rfl) (hg _ lkF_X8_16) (fun _ h9 => h9) rfl dX8_meet_49 ?_
      refine lv_iload_n hx hb dX8_meet_52 rfl (lv_at hl 1 rfl) ?_
      obtain ⟨hi53, h⟩ := if_use h
      refine m_iald (M := (um M_5 3 (ix a1) (((2 * (M_5.1 3 (ix a1))) + a2) / 3))) (a := 3) hx hb hKn hP (by decide) (j := (ix a1)) rfl hi53 dX8_meet_53 ?_
      exact W.iret (v := ((um M_5 3 (ix a1) (((2 * (M_5.1 3 (ix a1))) + a2) / 3)).1 3 (ix a1))) hx hb hr (fun t ht hW => ⟨⟨((um M_5 3 (ix a1) (((2 * (M_5.1 3 (ix a1))) + a2) / 3)).1 3 (ix a1)), um M_5 3 (ix a1) (((2 * (M_5.1 3 (ix a1))) + a2) / 3), rfl, Prod.mk.inj (Option.some.inj h), by rw [ht]; exact hP, m_KnW hKn t hW⟩, hS.F ht⟩) hS.2.2 dX8_meet_54
    · have h := ife_t c_4 h
      refine lv_ldc hx hb hown (hg _ kc_X8_78) dX8_meet_23 ?_
      exact W.iret (v := (-1000000002)) hx hb hr (fun t ht hW => ⟨⟨(-1000000002), M, rfl, Prod.mk.inj (Option.some.inj h), by rw [ht]; exact hP, m_KnW hKn t hW⟩, hS.F ht⟩) hS.2.2 dX8_meet_25
  · have h := ife_t c_2 h
    refine lv_ldc hx hb hown (hg _ kc_X8_143) dX8_meet_8 ?_
    exact W.iret (v := (-1000000001)) hx hb hr (fun t ht hW => ⟨⟨(-1000000001), M, rfl, Prod.mk.inj (Option.some.inj h), by rw [ht]; exact hP, m_KnW hKn t hW⟩, hS.F ht⟩) hS.2.2 dX8_meet_10
noncomputable def FX8_night (a1 : Int32) (M : MM) : Option (Int32 × MM) :=
  bo (FX8_areFacts a1 M) (fun (r_1 : Int32) => (if r_1 = 0 then some ((-1000000001), M) else bo (FX8_maySheet a1 (M.1 3 13) M) (fun (r_3 : Int32) => (if r_3 = 0 then some ((-1000000003), M) else (if (M.1 3 14) ≤ 90000 then bo (FX8_remember  M) (fun (M_6 : MM) => bo (FX8_prints a1 M_6) (fun (M_7 : MM) => some ((M_7.1 3 16), M_7))) else some ((-1000000004), M))))))
set_option maxHeartbeats 4000000 in
set_option maxRecDepth 100000 in
theorem tX8_night (l : Launch) (dC : Nat → ClassId) (dI : Nat → Nat → Nat) (kI kZ : ClassId) (ad : Nat → Nat) (a1 : Int32) (M : MM)  {r0 : Int32} {M0 : MM} (h : FX8_night a1 M = some (r0, M0)) : Met l yX8_night (wsA yX8_night cX8_night 2 (some .int)) ({ frames := 4, cells := 0, slots := 0, locals := 92 } : Room) (va_Pc [.ref (ad (0)), .int (a1)] (gI (m_Wd dC dI kI kZ ad) (m_Kn dC dI kI kZ ad) M)) (va_Qi (fun (r : Int32) (u : MM) => r = r0 ∧ u = M0) (gI (m_Wd dC dI kI kZ ad) (m_Kn dC dI kI kZ ad)) (m_A ad)) 0 0 (m_A ad) := by
  refine Met.ofW (cc := cX8_night) (maxL := 2) (ret := (some .int)) (by decide) rfl ?_
  intro p e s m args below meth c s₁ B hml hv
  obtain ⟨rfl, hP, hKn⟩ := hv
  have hx := B.exec
  have hb := B.bytes
  have hr := B.returns
  have hts := atoms_spec (ws := wsA yX8_night cX8_night 2 (some .int)) B.pre
  have hg : ∀ w ∈ lw_good, w.before _ s = true := fun w h => hts w (List.mem_cons_of_mem _ h)
  have hown : s.vm.findClass RX8 = some m.cls := findClass_of_methodNamed B.named
  have hlocks := B.notSynchronized
  have hS : va_S (m_A ad) s.heap s.heap [] := va_S.rf
  have hFx : gFix p c cX8_night 2 s m _ RX8 := ⟨hx, hb, hml, hown, hg⟩
  have hP : va_P (dC, dI) vwCl (m_w kI kZ ad M.1 M.2) s.heap := hP
  have hl := lv_entry ([.ref (ad (0)), .int (a1)]) (n := 2) (Nat.le_of_ble_eq_true rfl)
  rw [lg_entry_eq]
  generalize (lg_sl ([.ref (ad (0)), .int (a1)]) ++ List.replicate (2 - (lg_sl ([.ref (ad (0)), .int (a1)])).length) Slot.unset).toArray = ls at hl ⊢
  have hl : lv_has ls 2 [(0, .ref (ad (0))), (1, .int (a1))] := hl
  unfold FX8_night at h
  refine lv_aload_n hx hb dX8_night_0 rfl (lv_at hl 0 rfl) ?_
  refine lv_iload_n hx hb dX8_night_1 rfl (lv_at hl 1 rfl) ?_
  obtain ⟨r_1, e2, h⟩ := bo_use h
  refine gc_i (va_runV (As := [.int (a1)]) (rest := []) hFx (tX8_areFacts l dC dI kI kZ ad a1 M  e2) ⟨(gc_B hFx ck_yX8_areFacts lkM_X8_173 ⟨Nat.le_of_ble_eq_true rfl, Nat.le_of_ble_eq_true rfl⟩ rfl rfl), hg _ vi_yX8_areFacts, hg _ vs_yX8_areFacts⟩ (gp_V m_KnB (m_KnW hKn) hP (m_rc8 (c := 0) (by decide) hKn hP)) rfl rfl hl.1 rfl (lv_room (Nat.le_of_ble_eq_true rfl)) dX8_night_2 ⟨Nat.zero_le _, Nat.zero_le _⟩) hS (fun H locs hP hS => ?_)
  have hP : va_P (dC, dI) vwCl (m_w kI kZ ad M.1 M.2) H := hP
  refine lv_if_ne (tgt := 11) hx hb dX8_night_5 (by decide) (fun c_2 => ?_) (fun c_2 => ?_)
  · have h := ife_f c_2 h
    refine lv_aload_n hx hb dX8_night_11 rfl (lv_at hl 0 rfl) ?_
    refine lv_iload_n hx hb dX8_night_12 rfl (lv_at hl 1 rfl) ?_
    refine lv_aload_n hx hb dX8_night_13 rfl (lv_at hl 0 rfl) ?_
    refine va_get (D := (dC, dI)) (ci := 8) (v := .ref (ad (3))) (C := RX8) (T := TX8) (N := 29) hx hb hg inX8 hown hKn.1 hP (0) (m_at8 (c := 0) (by decide)) rfl 2 (Nat.le_of_ble_eq_true rfl) (hg _ lkF_X8_16) (fun _ h9 => h9) rfl dX8_night_14 ?_
    refine lv_bipush (v := 13) hx hb dX8_night_17 (by decide) ?_
    refine m_iald (M := M) (a := 3) hx hb hKn hP (by decide) (j := 13) (by decide) (by decide) dX8_night_19 ?_
    obtain ⟨r_3, e20, h⟩ := bo_use h
    refine gc_i (va_runV (As := [.int (a1), .int ((M.1 3 13))]) (rest := []) hFx (tX8_maySheet l dC dI kI kZ ad a1 (M.1 3 13) M  e20) ⟨(gc_B hFx ck_yX8_maySheet lkM_X8_176 ⟨Nat.le_of_ble_eq_true rfl, Nat.le_of_ble_eq_true rfl⟩ rfl rfl), hg _ vi_yX8_maySheet, hg _ vs_yX8_maySheet⟩ (gp_V m_KnB (m_KnW hKn) hP (m_rc8 (c := 0) (by decide) hKn hP)) rfl rfl hl.1 rfl (lv_room (Nat.le_of_ble_eq_true rfl)) dX8_night_20 ⟨Nat.zero_le _, Nat.zero_le _⟩) hS (fun H locs hP hS => ?_)
    have hP : va_P (dC, dI) vwCl (m_w kI kZ ad M.1 M.2) H := hP
    refine lv_if_ne (tgt := 29) hx hb dX8_night_23 (by decide) (fun c_4 => ?_) (fun c_4 => ?_)
    · have h := ife_f c_4 h
      refine lv_aload_n hx hb dX8_night_29 rfl (lv_at hl 0 rfl) ?_
      refine va_get (D := (dC, dI)) (ci := 8) (v := .ref (ad (3))) (C := RX8) (T := TX8) (N := 29) hx hb hg inX8 hown hKn.1 hP (0) (m_at8 (c := 0) (by decide)) rfl 2 (Nat.le_of_ble_eq_true rfl) (hg _ lkF_X8_16) (fun _ h9 => h9) rfl dX8_night_30 ?_
      refine lv_bipush (v := 14) hx hb dX8_night_33 (by decide) ?_
      refine m_iald (M := M) (a := 3) hx hb hKn hP (by decide) (j := 14) (by decide) (by decide) dX8_night_35 ?_
      refine lv_ldc hx hb hown (hg _ kc_X8_180) dX8_night_36 ?_
      refine lv_icmp_le (tgt := 44) hx hb dX8_night_38 (by decide) (fun c_5 => ?_) (fun c_5 => ?_)
      · have h := ife_t c_5 h
        refine lv_aload_n hx hb dX8_night_44 rfl (lv_at hl 0 rfl) ?_
        obtain ⟨M_6, e45, h⟩ := bo_use h
        refine gc_v (va_runV (As := []) (rest := []) hFx (tX8_remember l dC dI kI kZ ad  M  e45) ⟨(gc_B hFx ck_yX8_remember lkM_X8_181 ⟨Nat.le_of_ble_eq_true rfl, Nat.le_of_ble_eq_true rfl⟩ rfl rfl), hg _ vi_yX8_remember, hg _ vs_yX8_remember⟩ (gp_V m_KnB (m_KnW hKn) hP (m_rc8 (c := 0) (by decide) hKn hP)) rfl rfl hl.1 rfl (lv_room (Nat.le_of_ble_eq_true rfl)) dX8_night_45 ⟨Nat.zero_le _, Nat.zero_le _⟩) hS (fun H locs hP hS => ?_)
        have hP : va_P (dC, dI) vwCl (m_w kI kZ ad M_6.1 M_6.2) H := hP
        refine lv_aload_n hx hb dX8_night_48 rfl (lv_at hl 0 rfl) ?_
        refine lv_iload_n hx hb dX8_night_49 rfl (lv_at hl 1 rfl) ?_
        obtain ⟨M_7, e50, h⟩ := bo_use h
        refine gc_v (va_runV (As := [.int (a1)]) (rest := []) hFx (tX8_prints l dC dI kI kZ ad a1 M_6  e50) ⟨(gc_B hFx ck_yX8_prints lkM_X8_184 ⟨Nat.le_of_ble_eq_true rfl, Nat.le_of_ble_eq_true rfl⟩ rfl rfl), hg _ vi_yX8_prints, hg _ vs_yX8_prints⟩ (gp_V m_KnB (m_KnW hKn) hP (m_rc8 (c := 0) (by decide) hKn hP)) rfl rfl hl.1 rfl (lv_room (Nat.le_of_ble_eq_true rfl)) dX8_night_50 ⟨Nat.zero_le _, Nat.zero_le _⟩) hS (fun H locs hP hS => ?_)
        have hP : va_P (dC, dI) vwCl (m_w kI kZ ad M_7.1 M_7.2) H := hP
        refine lv_aload_n hx hb dX8_night_53 rfl (lv_at hl 0 rfl) ?_
        refine va_get (D := (dC, dI)) (ci := 8) (v := .ref (ad (3))) (C := RX8) (T := TX8) (N := 29) hx hb hg inX8 hown hKn.1 hP (0) (m_at8 (c := 0) (by decide)) rfl 2 (Nat.le_of_ble_eq_true rfl) (hg _ lkF_X8_16) (fun _ h9 => h9) rfl dX8_night_54 ?_
        refine lv_bipush (v := 16) hx hb dX8_night_57 (by decide) ?_
        refine m_iald (M := M_7) (a := 3) hx hb hKn hP (by decide) (j := 16) (by decide) (by decide) dX8_night_59 ?_
        exact W.iret (v := (M_7.1 3 16)) hx hb hr (fun t ht hW => ⟨⟨(M_7.1 3 16), M_7, rfl, Prod.mk.inj (Option.some.inj h), by rw [ht]; exact hP, m_KnW hKn t hW⟩, hS.F ht⟩) hS.2.2 dX8_night_60
      · have h := ife_f c_5 h
        refine lv_ldc hx hb hown (hg _ kc_X8_82) dX8_night_41 ?_
        exact W.iret (v := (-1000000004)) hx hb hr (fun t ht hW => ⟨⟨(-1000000004), M, rfl, Prod.mk.inj (Option.some.inj h), by rw [ht]; exact hP, m_KnW hKn t hW⟩, hS.F ht⟩) hS.2.2 dX8_night_43
    · have h := ife_t c_4 h
      refine lv_ldc hx hb hown (hg _ kc_X8_179) dX8_night_26 ?_
      exact W.iret (v := (-1000000003)) hx hb hr (fun t ht hW => ⟨⟨(-1000000003), M, rfl, Prod.mk.inj (Option.some.inj h), by rw [ht]; exact hP, m_KnW hKn t hW⟩, hS.F ht⟩) hS.2.2 dX8_night_28
  · have h := ife_t c_2 h
    refine lv_ldc hx hb hown (hg _ kc_X8_143) dX8_night_8 ?_
    exact W.iret (v := (-1000000001)) hx hb hr (fun t ht hW => ⟨⟨(-1000000001), M, rfl, Prod.mk.inj (Option.some.inj h), by rw [ht]; exact hP, m_KnW hKn t hW⟩, hS.F ht⟩) hS.2.2 dX8_night_10
noncomputable def FX8_weighs (a1 : Int32) (a2 : Int32) (M : MM) : Option MM :=
  (if inb a1 5 then jn (α := Int32 → Option MM) (fun (s_1 : Int32) => jn (α := Int32 → Option MM) (fun (s_2 : Int32) => (if inb a1 5 then some (um M 15 (ix a1) s_2) else none)) (fun J64 => (if s_1 = 0 then (if inb a1 5 then J64 (M.1 15 (ix a1)) else none) else J64 a2))) (fun J44 => jn (α := Option MM) (J44 1) (fun J39 => (if (M.1 15 (ix a1)) = (-1) then J39 else jn (α := Option MM) (J44 0) (fun J43 => (if (a1 - a1 / 2 * 2) = 0 then (if inb a1 5 then (if a2 ≤ (M.1 15 (ix a1)) then J43 else J39) else none) else (if inb a1 5 then (if (M.1 15 (ix a1)) ≤ a2 then J43 else J39) else none)))))) else none)
set_option maxHeartbeats 4000000 in
set_option maxRecDepth 100000 in
theorem tX8_weighs (l : Launch) (dC : Nat → ClassId) (dI : Nat → Nat → Nat) (kI kZ : ClassId) (ad : Nat → Nat) (a1 : Int32) (a2 : Int32) (M : MM)  {M0 : MM} (h : FX8_weighs a1 a2 M = some M0) : Met l yX8_weighs (wsA yX8_weighs cX8_weighs 4 none) ({ frames := 0, cells := 0, slots := 0, locals := 0 } : Room) (va_Pc [.ref (ad (0)), .int (a1), .int (a2)] (gI (m_Wd dC dI kI kZ ad) (m_Kn dC dI kI kZ ad) M)) (va_Qv (fun (u : MM) => u = M0) (gI (m_Wd dC dI kI kZ ad) (m_Kn dC dI kI kZ ad)) (m_A ad)) 0 0 (m_A ad) := by
  refine Met.ofW (cc := cX8_weighs) (maxL := 4) (ret := none) (by decide) rfl ?_
  intro p e s m args below meth c s₁ B hml hv
  obtain ⟨rfl, hP, hKn⟩ := hv
  have hx := B.exec
  have hb := B.bytes
  have hr := B.returns
  have hts := atoms_spec (ws := wsA yX8_weighs cX8_weighs 4 none) B.pre
  have hg : ∀ w ∈ lw_good, w.before _ s = true := fun w h => hts w (List.mem_cons_of_mem _ h)
  have hown : s.vm.findClass RX8 = some m.cls := findClass_of_methodNamed B.named
  have hlocks := B.notSynchronized
  have hS : va_S (m_A ad) s.heap s.heap [] := va_S.rf
  have hFx : gFix p c cX8_weighs 4 s m _ RX8 := ⟨hx, hb, hml, hown, hg⟩
  have hP : va_P (dC, dI) vwCl (m_w kI kZ ad M.1 M.2) s.heap := hP
  have hl := lv_entry ([.ref (ad (0)), .int (a1), .int (a2)]) (n := 4) (Nat.le_of_ble_eq_true rfl)
  rw [lg_entry_eq]
  generalize (lg_sl ([.ref (ad (0)), .int (a1), .int (a2)]) ++ List.replicate (4 - (lg_sl ([.ref (ad (0)), .int (a1), .int (a2)])).length) Slot.unset).toArray = ls at hl ⊢
  have hl : lv_has ls 4 [(0, .ref (ad (0))), (1, .int (a1)), (2, .int (a2))] := hl
  unfold FX8_weighs at h
  refine lv_aload_n hx hb dX8_weighs_0 rfl (lv_at hl 0 rfl) ?_
  refine va_get (D := (dC, dI)) (ci := 8) (v := .ref (ad (15))) (C := RX8) (T := TX8) (N := 29) hx hb hg inX8 hown hKn.1 hP (0) (m_at8 (c := 0) (by decide)) rfl 28 (Nat.le_of_ble_eq_true rfl) (hg _ lkF_X8_57) (fun _ h9 => h9) rfl dX8_weighs_1 ?_
  refine lv_iload_n hx hb dX8_weighs_4 rfl (lv_at hl 1 rfl) ?_
  obtain ⟨hi5, h⟩ := if_use h
  refine m_iald (M := M) (a := 15) hx hb hKn hP (by decide) (j := (ix a1)) rfl hi5 dX8_weighs_5 ?_
  refine lv_iconst (v := -1) hx hb dX8_weighs_6 (by decide) ?_
  obtain ⟨J44, eJ44, h⟩ := jn_use h
  have hJ44 : ∀ (s_1 : Int32) (H : Heap) (locs : List Loc) (ls : Array Slot), va_P (dC, dI) vwCl (m_w kI kZ ad M.1 M.2) H → va_S (m_A ad) s.heap H locs → lv_has ls 4 [(0, .ref (ad (0))), (1, .int (a1)), (2, .int (a2))] → J44 s_1 = some M0 → W p l e (headSpec (wsA yX8_weighs cX8_weighs 4 none) ({ frames := 0, cells := 0, slots := 0, locals := 0 } : Room)).room s m (([.ref (ad (0)), .int (a1), .int (a2)] : List Value).toArray) below meth c H locs 0 0 (MQ below (va_Qv (fun (u : MM) => u = M0) (gI (m_Wd dC dI kI kZ ad) (m_Kn dC dI kI kZ ad)) (m_A ad)) (([.ref (ad (0)), .int (a1), .int (a2)] : List Value).toArray) s 0 0 (m_A ad)) (F0 m 44 ls [.int (s_1)]) := by
    intro s_1 H locs ls hP hS hl h
    have h := useK1 eJ44 h
    refine lv_istore_n (lv' := [(3, .int (s_1)), (0, .ref (ad (0))), (1, .int (a1)), (2, .int (a2))]) hx hb dX8_weighs_44 rfl hl (Nat.le_of_ble_eq_true rfl) rfl (fun ls hl => ?_)
    refine lv_aload_n hx hb dX8_weighs_45 rfl (lv_at hl 1 rfl) ?_
    refine va_get (D := (dC, dI)) (ci := 8) (v := .ref (ad (15))) (C := RX8) (T := TX8) (N := 29) hx hb hg inX8 hown hKn.1 hP (0) (m_at8 (c := 0) (by decide)) rfl 28 (Nat.le_of_ble_eq_true rfl) (hg _ lkF_X8_57) (fun _ h9 => h9) rfl dX8_weighs_46 ?_
    refine lv_iload_n hx hb dX8_weighs_49 rfl (lv_at hl 2 rfl) ?_
    refine lv_iload_n hx hb dX8_weighs_50 rfl (lv_at hl 0 rfl) ?_
    obtain ⟨J64, eJ64, h⟩ := jn_use h
    have hJ64 : ∀ (s_2 : Int32) (H : Heap) (locs : List Loc) (ls : Array Slot), va_P (dC, dI) vwCl (m_w kI kZ ad M.1 M.2) H → va_S (m_A ad) s.heap H locs → lv_has ls 4 [] → J64 s_2 = some M0 → W p l e (headSpec (wsA yX8_weighs cX8_weighs 4 none) ({ frames := 0, cells := 0, slots := 0, locals := 0 } : Room)).room s m (([.ref (ad (0)), .int (a1), .int (a2)] : List Value).toArray) below meth c H locs 0 0 (MQ below (va_Qv (fun (u : MM) => u = M0) (gI (m_Wd dC dI kI kZ ad) (m_Kn dC dI kI kZ ad)) (m_A ad)) (([.ref (ad (0)), .int (a1), .int (a2)] : List Value).toArray) s 0 0 (m_A ad)) (F0 m 64 ls [.int (s_2), .int (a1), .ref (ad (15))]) := by
      intro s_2 H locs ls hP hS hl h
      have h := useK1 eJ64 h
      obtain ⟨hi64, h⟩ := if_use h
      refine m_iast (M := M) (a := 15) hx hb hKn hP hS (by decide) (x := s_2) (j := (ix a1)) rfl hi64 dX8_weighs_64 (fun H locs hP hS => ?_)
      have hP : va_P (dC, dI) vwCl (m_w kI kZ ad (um M 15 (ix a1) s_2).1 (um M 15 (ix a1) s_2).2) H := hP
      exact W.vret hx hb hr (fun t ht hW => ⟨⟨um M 15 (ix a1) s_2, rfl, Option.some.inj h, by rw [ht]; exact hP, m_KnW hKn t hW⟩, hS.F ht⟩) hS.2.2 dX8_weighs_65
    refine lv_if_eq (tgt := 58) hx hb dX8_weighs_51 (by decide) (fun c_3 => ?_) (fun c_3 => ?_)
    · have h := ife_t c_3 h
      refine lv_aload_n hx hb dX8_weighs_58 rfl (lv_at hl 1 rfl) ?_
      refine va_get (D := (dC, dI)) (ci := 8) (v := .ref (ad (15))) (C := RX8) (T := TX8) (N := 29) hx hb hg inX8 hown hKn.1 hP (0) (m_at8 (c := 0) (by decide)) rfl 28 (Nat.le_of_ble_eq_true rfl) (hg _ lkF_X8_57) (fun _ h9 => h9) rfl dX8_weighs_59 ?_
      refine lv_iload_n hx hb dX8_weighs_62 rfl (lv_at hl 2 rfl) ?_
      obtain ⟨hi63, h⟩ := if_use h
      refine m_iald (M := M) (a := 15) hx hb hKn hP (by decide) (j := (ix a1)) rfl hi63 dX8_weighs_63 ?_
      exact hJ64 (M.1 15 (ix a1)) _ _ _ hP hS (lv_sub hl [] rfl) h
    · have h := ife_f c_3 h
      refine lv_iload_n hx hb dX8_weighs_54 rfl (lv_at hl 3 rfl) ?_
      refine lv_goto (tgt := 64) hx hb dX8_weighs_55 (by decide) ?_
      exact hJ64 a2 _ _ _ hP hS (lv_sub hl [] rfl) h
  obtain ⟨J39, eJ39, h⟩ := jn_use h
  have hJ39 : ∀  (H : Heap) (locs : List Loc) (ls : Array Slot), va_P (dC, dI) vwCl (m_w kI kZ ad M.1 M.2) H → va_S (m_A ad) s.heap H locs → lv_has ls 4 [(0, .ref (ad (0))), (1, .int (a1)), (2, .int (a2))] → J39  = some M0 → W p l e (headSpec (wsA yX8_weighs cX8_weighs 4 none) ({ frames := 0, cells := 0, slots := 0, locals := 0 } : Room)).room s m (([.ref (ad (0)), .int (a1), .int (a2)] : List Value).toArray) below meth c H locs 0 0 (MQ below (va_Qv (fun (u : MM) => u = M0) (gI (m_Wd dC dI kI kZ ad) (m_Kn dC dI kI kZ ad)) (m_A ad)) (([.ref (ad (0)), .int (a1), .int (a2)] : List Value).toArray) s 0 0 (m_A ad)) (F0 m 39 ls []) := by
    intro  H locs ls hP hS hl h
    have h := useK0 eJ39 h
    refine lv_iconst (v := 1) hx hb dX8_weighs_39 (by decide) ?_
    refine lv_goto (tgt := 44) hx hb dX8_weighs_40 (by decide) ?_
    exact hJ44 1 _ _ _ hP hS (lv_sub hl [0, 1, 2] rfl) h
  refine lv_icmp_eq (tgt := 39) hx hb dX8_weighs_7 (by decide) (fun c_4 => ?_) (fun c_4 => ?_)
  · have h := ife_t c_4 h
    exact hJ39 _ _ _ hP hS (lv_sub hl [0, 1, 2] rfl) h
  · have h := ife_f c_4 h
    refine lv_iload_n hx hb dX8_weighs_10 rfl (lv_at hl 1 rfl) ?_
    refine lv_iconst (v := 2) hx hb dX8_weighs_11 (by decide) ?_
    refine lv_irem hx hb dX8_weighs_12 (by decide) ?_
    obtain ⟨J43, eJ43, h⟩ := jn_use h
    have hJ43 : ∀  (H : Heap) (locs : List Loc) (ls : Array Slot), va_P (dC, dI) vwCl (m_w kI kZ ad M.1 M.2) H → va_S (m_A ad) s.heap H locs → lv_has ls 4 [(0, .ref (ad (0))), (1, .int (a1)), (2, .int (a2))] → J43  = some M0 → W p l e (headSpec (wsA yX8_weighs cX8_weighs 4 none) ({ frames := 0, cells := 0, slots := 0, locals := 0 } : Room)).room s m (([.ref (ad (0)), .int (a1), .int (a2)] : List Value).toArray) below meth c H locs 0 0 (MQ below (va_Qv (fun (u : MM) => u = M0) (gI (m_Wd dC dI kI kZ ad) (m_Kn dC dI kI kZ ad)) (m_A ad)) (([.ref (ad (0)), .int (a1), .int (a2)] : List Value).toArray) s 0 0 (m_A ad)) (F0 m 43 ls []) := by
      intro  H locs ls hP hS hl h
      have h := useK0 eJ43 h
      refine lv_iconst (v := 0) hx hb dX8_weighs_43 (by decide) ?_
      exact hJ44 0 _ _ _ hP hS (lv_sub hl [0, 1, 2] rfl) h
    refine lv_if_ne (tgt := 29) hx hb dX8_weighs_13 (by decide) (fun c_5 => ?_) (fun c_5 => ?_)
    · have h := ife_f c_5 h
      refine lv_iload_n hx hb dX8_weighs_29 rfl (lv_at hl 2 rfl) ?_
      refine lv_aload_n hx hb dX8_weighs_30 rfl (lv_at hl 0 rfl) ?_
      refine va_get (D := (dC, dI)) (ci := 8) (v := .ref (ad (15))) (C := RX8) (T := TX8) (N := 29) hx hb hg inX8 hown hKn.1 hP (0) (m_at8 (c := 0) (by decide)) rfl 28 (Nat.le_of_ble_eq_true rfl) (hg _ lkF_X8_57) (fun _ h9 => h9) rfl dX8_weighs_31 ?_
      refine lv_iload_n hx hb dX8_weighs_34 rfl (lv_at hl 1 rfl) ?_
      obtain ⟨hi35, h⟩ := if_use h
      refine m_iald (M := M) (a := 15) hx hb hKn hP (by decide) (j := (ix a1)) rfl hi35 dX8_weighs_35 ?_
      refine lv_icmp_ge (tgt := 43) hx hb dX8_weighs_36 (by decide) (fun c_6 => ?_) (fun c_6 => ?_)
      · have h := ife_t c_6 h
        exact hJ43 _ _ _ hP hS (lv_sub hl [0, 1, 2] rfl) h
      · have h := ife_f c_6 h
        exact hJ39 _ _ _ hP hS (lv_sub hl [0, 1, 2] rfl) h
    · have h := ife_t c_5 h
      refine lv_iload_n hx hb dX8_weighs_16 rfl (lv_at hl 2 rfl) ?_
      refine lv_aload_n hx hb dX8_weighs_17 rfl (lv_at hl 0 rfl) ?_
      refine va_get (D := (dC, dI)) (ci := 8) (v := .ref (ad (15))) (C := RX8) (T := TX8) (N := 29) hx hb hg inX8 hown hKn.1 hP (0) (m_at8 (c := 0) (by decide)) rfl 28 (Nat.le_of_ble_eq_true rfl) (hg _ lkF_X8_57) (fun _ h9 => h9) rfl dX8_weighs_18 ?_
      refine lv_iload_n hx hb dX8_weighs_21 rfl (lv_at hl 1 rfl) ?_
      obtain ⟨hi22, h⟩ := if_use h
      refine m_iald (M := M) (a := 15) hx hb hKn hP (by decide) (j := (ix a1)) rfl hi22 dX8_weighs_22 ?_
      refine lv_icmp_le (tgt := 43) hx hb dX8_weighs_23 (by decide) (fun c_7 => ?_) (fun c_7 => ?_)
      · have h := ife_t c_7 h
        exact hJ43 _ _ _ hP hS (lv_sub hl [0, 1, 2] rfl) h
      · have h := ife_f c_7 h
        refine lv_goto (tgt := 39) hx hb dX8_weighs_26 (by decide) ?_
        exact hJ39 _ _ _ hP hS (lv_sub hl [0, 1, 2] rfl) h
noncomputable def FX8_rivals_L55 (b1 : Int32) (b2 : Int32) (K : MM → Option (Int32 × MM)) (k : Nat) (v3_8 : Int32) (M_9 : MM) : Option (Int32 × MM) := match k with
  | 0 => none
  | k + 1 => (if v3_8 < 0 then K M_9 else (if inb v3_8 5 then (if inb v3_8 5 then (if inb v3_8 5 then (if ((um M_9 14 (ix v3_8) ((M_9.1 14 (ix v3_8)) + 1)).1 14 (ix v3_8)) ≤ ((um M_9 14 (ix v3_8) ((M_9.1 14 (ix v3_8)) + 1)).1 1 2) then bd (FX8_goes v3_8 (um M_9 14 (ix v3_8) ((M_9.1 14 (ix v3_8)) + 1))) (fun (r_12 : Int32) (M_13 : MM) => (if r_12 = 0 then FX8_rivals_L55 b1 b2 K k v3_8 M_13 else (if (v3_8 + 1) = b2 then (if inb b1 17 then bo (FX8_weighs v3_8 (M_13.1 10 (ix b1)) M_13) (fun (M_17 : MM) => FX8_rivals_L55 b1 b2 K k v3_8 M_17) else none) else bo (FX8_beginsStep (v3_8 + 1) M_13) (fun (M_16 : MM) => FX8_rivals_L55 b1 b2 K k (v3_8 + 1) M_16)))) else (if (v3_8 + (-1)) < 0 then FX8_rivals_L55 b1 b2 K k (v3_8 + (-1)) (um M_9 14 (ix v3_8) ((M_9.1 14 (ix v3_8)) + 1)) else (if inb ((v3_8 + (-1)) + 1) 5 then bo (FX8_weighs (v3_8 + (-1)) ((um M_9 14 (ix v3_8) ((M_9.1 14 (ix v3_8)) + 1)).1 15 (ix ((v3_8 + (-1)) + 1))) (um M_9 14 (ix v3_8) ((M_9.1 14 (ix v3_8)) + 1))) (fun (M_19 : MM) => FX8_rivals_L55 b1 b2 K k (v3_8 + (-1)) M_19) else none))) else none) else none) else none))
noncomputable def FX8_rivals (a1 : Int32) (a2 : Int32) (M : MM) : Option (Int32 × MM) :=
  bo (FX8_isOpinion a1 M) (fun (r_1 : Int32) => (if r_1 = 0 then some ((-1000000001), M) else bo (FX8_in ((a2).toInt64) 1 4) (fun (r_3 : Int32) => (if r_3 = 0 then some ((-1000000002), M) else bo (FX8_copies 3 0 12 0 17 M) (fun (M_5 : MM) => bo (FX8_beginsStep 0 (um M_5 13 0 0)) (fun (M_6 : MM) => FX8_rivals_L55 a1 a2 (fun (M_7 : MM) => some ((M_7.1 15 0), M_7)) fuelN 0 M_6))))))
set_option maxHeartbeats 4000000 in
set_option maxRecDepth 100000 in
theorem tX8_rivals (l : Launch) (dC : Nat → ClassId) (dI : Nat → Nat → Nat) (kI kZ : ClassId) (ad : Nat → Nat) (a1 : Int32) (a2 : Int32) (M : MM)  {r0 : Int32} {M0 : MM} (h : FX8_rivals a1 a2 M = some (r0, M0)) : Met l yX8_rivals (wsA yX8_rivals cX8_rivals 4 (some .int)) ({ frames := 3, cells := 0, slots := 0, locals := 70 } : Room) (va_Pc [.ref (ad (0)), .int (a1), .int (a2)] (gI (m_Wd dC dI kI kZ ad) (m_Kn dC dI kI kZ ad) M)) (va_Qi (fun (r : Int32) (u : MM) => r = r0 ∧ u = M0) (gI (m_Wd dC dI kI kZ ad) (m_Kn dC dI kI kZ ad)) (m_A ad)) 0 0 (m_A ad) := by
  refine Met.ofW (cc := cX8_rivals) (maxL := 4) (ret := (some .int)) (by decide) rfl ?_
  intro p e s m args below meth c s₁ B hml hv
  obtain ⟨rfl, hP, hKn⟩ := hv
  have hx := B.exec
  have hb := B.bytes
  have hr := B.returns
  have hts := atoms_spec (ws := wsA yX8_rivals cX8_rivals 4 (some .int)) B.pre
  have hg : ∀ w ∈ lw_good, w.before _ s = true := fun w h => hts w (List.mem_cons_of_mem _ h)
  have hown : s.vm.findClass RX8 = some m.cls := findClass_of_methodNamed B.named
  have hlocks := B.notSynchronized
  have hS : va_S (m_A ad) s.heap s.heap [] := va_S.rf
  have hFx : gFix p c cX8_rivals 4 s m _ RX8 := ⟨hx, hb, hml, hown, hg⟩
  have hP : va_P (dC, dI) vwCl (m_w kI kZ ad M.1 M.2) s.heap := hP
  have hl := lv_entry ([.ref (ad (0)), .int (a1), .int (a2)]) (n := 4) (Nat.le_of_ble_eq_true rfl)
  rw [lg_entry_eq]
  generalize (lg_sl ([.ref (ad (0)), .int (a1), .int (a2)]) ++ List.replicate (4 - (lg_sl ([.ref (ad (0)), .int (a1), .int (a2)])).length) Slot.unset).toArray = ls at hl ⊢
  have hl : lv_has ls 4 [(0, .ref (ad (0))), (1, .int (a1)), (2, .int (a2))] := hl
  unfold FX8_rivals at h
  refine lv_aload_n hx hb dX8_rivals_0 rfl (lv_at hl 0 rfl) ?_
  refine lv_iload_n hx hb dX8_rivals_1 rfl (lv_at hl 1 rfl) ?_
  obtain ⟨r_1, e2, h⟩ := bo_use h
  refine gc_i (va_runV (As := [.int (a1)]) (rest := []) hFx (tX8_isOpinion l dC dI kI kZ ad a1 M  e2) ⟨(gc_B hFx ck_yX8_isOpinion lkM_X8_140 ⟨Nat.le_of_ble_eq_true rfl, Nat.le_of_ble_eq_true rfl⟩ rfl rfl), hg _ vi_yX8_isOpinion, hg _ vs_yX8_isOpinion⟩ (gp_V m_KnB (m_KnW hKn) hP (m_rc8 (c := 0) (by decide) hKn hP)) rfl rfl hl.1 rfl (lv_room (Nat.le_of_ble_eq_true rfl)) dX8_rivals_2 ⟨Nat.zero_le _, Nat.zero_le _⟩) hS (fun H locs hP hS => ?_)
  have hP : va_P (dC, dI) vwCl (m_w kI kZ ad M.1 M.2) H := hP
  refine lv_if_ne (tgt := 11) hx hb dX8_rivals_5 (by decide) (fun c_2 => ?_) (fun c_2 => ?_)
  · have h := ife_f c_2 h
    refine lv_iload_n hx hb dX8_rivals_11 rfl (lv_at hl 2 rfl) ?_
    refine lv_i2l (v := ((a2).toInt64)) hx hb dX8_rivals_12 rfl ?_
    refine lv_lconst (v := 1) hx hb dX8_rivals_13 (by decide) ?_
    refine lv_ldc2 hx hb hown (hg _ kc_X8_233) dX8_rivals_14 ?_
    obtain ⟨r_3, e17, h⟩ := bo_use h
    refine gc_i (va_runS (As := [.long (((a2).toInt64)), .long (1), .long (4)]) (rest := []) hFx (tX8_in l dC dI kI kZ ad ((a2).toInt64) 1 4 M  e17) ⟨(gc_B hFx ck_yX8_in lkM_X8_74 ⟨Nat.le_of_ble_eq_true rfl, Nat.le_of_ble_eq_true rfl⟩ rfl rfl), hg _ st_yX8_in⟩ (gp_S m_KnB (m_KnW hKn) hP) rfl rfl hl.1 rfl (lv_room (Nat.le_of_ble_eq_true rfl)) dX8_rivals_17 ⟨Nat.zero_le _, Nat.zero_le _⟩) hS (fun H locs hP hS => ?_)
    have hP : va_P (dC, dI) vwCl (m_w kI kZ ad M.1 M.2) H := hP
    refine lv_if_ne (tgt := 26) hx hb dX8_rivals_20 (by decide) (fun c_4 => ?_) (fun c_4 => ?_)
    · have h := ife_f c_4 h
      refine lv_aload_n hx hb dX8_rivals_26 rfl (lv_at hl 0 rfl) ?_
      refine va_get (D := (dC, dI)) (ci := 8) (v := .ref (ad (3))) (C := RX8) (T := TX8) (N := 29) hx hb hg inX8 hown hKn.1 hP (0) (m_at8 (c := 0) (by decide)) rfl 2 (Nat.le_of_ble_eq_true rfl) (hg _ lkF_X8_16) (fun _ h9 => h9) rfl dX8_rivals_27 ?_
      refine lv_iconst (v := 0) hx hb dX8_rivals_30 (by decide) ?_
      refine lv_aload_n hx hb dX8_rivals_31 rfl (lv_at hl 0 rfl) ?_
      refine va_get (D := (dC, dI)) (ci := 8) (v := .ref (ad (12))) (C := RX8) (T := TX8) (N := 29) hx hb hg inX8 hown hKn.1 hP (0) (m_at8 (c := 0) (by decide)) rfl 25 (Nat.le_of_ble_eq_true rfl) (hg _ lkF_X8_48) (fun _ h9 => h9) rfl dX8_rivals_32 ?_
      refine lv_iconst (v := 0) hx hb dX8_rivals_35 (by decide) ?_
      refine lv_bipush (v := 17) hx hb dX8_rivals_36 (by decide) ?_
      obtain ⟨M_5, e38, h⟩ := bo_use h
      refine gc_v (va_runS (As := [.ref (ad (3)), .int (0), .ref (ad (12)), .int (0), .int (17)]) (rest := []) hFx (tX8_copies l dC dI kI kZ ad 3 0 12 0 17 M (by decide) (by decide) e38) ⟨(gc_B hFx ck_yX8_copies lkM_X8_165 ⟨Nat.le_of_ble_eq_true rfl, Nat.le_of_ble_eq_true rfl⟩ rfl rfl), hg _ st_yX8_copies⟩ (gp_S m_KnB (m_KnW hKn) hP) rfl rfl hl.1 rfl (lv_room (Nat.le_of_ble_eq_true rfl)) dX8_rivals_38 ⟨Nat.zero_le _, Nat.zero_le _⟩) hS (fun H locs hP hS => ?_)
      have hP : va_P (dC, dI) vwCl (m_w kI kZ ad M_5.1 M_5.2) H := hP
      refine lv_aload_n hx hb dX8_rivals_41 rfl (lv_at hl 0 rfl) ?_
      refine va_get (D := (dC, dI)) (ci := 8) (v := .ref (ad (13))) (C := RX8) (T := TX8) (N := 29) hx hb hg inX8 hown hKn.1 hP (0) (m_at8 (c := 0) (by decide)) rfl 26 (Nat.le_of_ble_eq_true rfl) (hg _ lkF_X8_51) (fun _ h9 => h9) rfl dX8_rivals_42 ?_
      refine lv_iconst (v := 0) hx hb dX8_rivals_45 (by decide) ?_
      refine lv_iconst (v := 0) hx hb dX8_rivals_46 (by decide) ?_
      refine m_iast (M := M_5) (a := 13) hx hb hKn hP hS (by decide) (x := 0) (j := 0) (by decide) (by decide) dX8_rivals_47 (fun H locs hP hS => ?_)
      have hP : va_P (dC, dI) vwCl (m_w kI kZ ad (um M_5 13 0 0).1 (um M_5 13 0 0).2) H := hP
      refine lv_aload_n hx hb dX8_rivals_48 rfl (lv_at hl 0 rfl) ?_
      refine lv_iconst (v := 0) hx hb dX8_rivals_49 (by decide) ?_
      obtain ⟨M_6, e50, h⟩ := bo_use h
      refine gc_v (va_runV (As := [.int (0)]) (rest := []) hFx (tX8_beginsStep l dC dI kI kZ ad 0 (um M_5 13 0 0)  e50) ⟨(gc_B hFx ck_yX8_beginsStep lkM_X8_235 ⟨Nat.le_of_ble_eq_true rfl, Nat.le_of_ble_eq_true rfl⟩ rfl rfl), hg _ vi_yX8_beginsStep, hg _ vs_yX8_beginsStep⟩ (gp_V m_KnB (m_KnW hKn) hP (m_rc8 (c := 0) (by decide) hKn hP)) rfl rfl hl.1 rfl (lv_room (Nat.le_of_ble_eq_true rfl)) dX8_rivals_50 ⟨Nat.zero_le _, Nat.zero_le _⟩) hS (fun H locs hP hS => ?_)
      have hP : va_P (dC, dI) vwCl (m_w kI kZ ad M_6.1 M_6.2) H := hP
      refine lv_iconst (v := 0) hx hb dX8_rivals_53 (by decide) ?_
      refine lv_istore_n (lv' := [(3, .int (0)), (0, .ref (ad (0))), (1, .int (a1)), (2, .int (a2))]) hx hb dX8_rivals_54 rfl hl (Nat.le_of_ble_eq_true rfl) rfl (fun ls hl => ?_)
      obtain ⟨K55, eK55, h⟩ := exK (Lp := fun K => FX8_rivals_L55 a1 a2 K fuelN 0 M_6) h
      have hK55 : ∀ (M_7 : MM) (H : Heap) (locs : List Loc) (ls : Array Slot), va_P (dC, dI) vwCl (m_w kI kZ ad M_7.1 M_7.2) H → va_S (m_A ad) s.heap H locs → lv_has ls 4 [(0, .ref (ad (0)))] → K55 M_7 = some (r0, M0) → W p l e (headSpec (wsA yX8_rivals cX8_rivals 4 (some .int)) ({ frames := 3, cells := 0, slots := 0, locals := 70 } : Room)).room s m (([.ref (ad (0)), .int (a1), .int (a2)] : List Value).toArray) below meth c H locs 0 0 (MQ below (va_Qi (fun (r : Int32) (u : MM) => r = r0 ∧ u = M0) (gI (m_Wd dC dI kI kZ ad) (m_Kn dC dI kI kZ ad)) (m_A ad)) (([.ref (ad (0)), .int (a1), .int (a2)] : List Value).toArray) s 0 0 (m_A ad)) (F0 m 147 ls []) := by
        intro M_7 H locs ls hP hS hl h
        have h := useK1 eK55 h
        refine lv_aload_n hx hb dX8_rivals_147 rfl (lv_at hl 0 rfl) ?_
        refine va_get (D := (dC, dI)) (ci := 8) (v := .ref (ad (15))) (C := RX8) (T := TX8) (N := 29) hx hb hg inX8 hown hKn.1 hP (0) (m_at8 (c := 0) (by decide)) rfl 28 (Nat.le_of_ble_eq_true rfl) (hg _ lkF_X8_57) (fun _ h9 => h9) rfl dX8_rivals_148 ?_
        refine lv_iconst (v := 0) hx hb dX8_rivals_151 (by decide) ?_
        refine m_iald (M := M_7) (a := 15) hx hb hKn hP (by decide) (j := 0) (by decide) (by decide) dX8_rivals_152 ?_
        exact W.iret (v := (M_7.1 15 0)) hx hb hr (fun t ht hW => ⟨⟨(M_7.1 15 0), M_7, rfl, Prod.mk.inj (Option.some.inj h), by rw [ht]; exact hP, m_KnW hKn t hW⟩, hS.F ht⟩) hS.2.2 dX8_rivals_153
      have hL55 : ∀ (k : Nat) (v3_8 : Int32) (M_9 : MM) (H : Heap) (locs : List Loc) (ls : Array Slot), va_P (dC, dI) vwCl (m_w kI kZ ad M_9.1 M_9.2) H → va_S (m_A ad) s.heap H locs → lv_has ls 4 [(0, .ref (ad (0))), (1, .int (a1)), (2, .int (a2)), (3, .int (v3_8))] → FX8_rivals_L55 a1 a2 K55 k v3_8 M_9 = some (r0, M0) → W p l e (headSpec (wsA yX8_rivals cX8_rivals 4 (some .int)) ({ frames := 3, cells := 0, slots := 0, locals := 70 } : Room)).room s m (([.ref (ad (0)), .int (a1), .int (a2)] : List Value).toArray) below meth c H locs 0 0 (MQ below (va_Qi (fun (r : Int32) (u : MM) => r = r0 ∧ u = M0) (gI (m_Wd dC dI kI kZ ad) (m_Kn dC dI kI kZ ad)) (m_A ad)) (([.ref (ad (0)), .int (a1), .int (a2)] : List Value).toArray) s 0 0 (m_A ad)) (F0 m 55 ls []) := by
        intro k
        induction k with
        | zero => intro v3_8 M_9 H locs ls hP hS hl h; cases h
        | succ k ih55 =>
          intro v3_8 M_9 H locs ls hP hS hl h
          unfold FX8_rivals_L55 at h
          refine lv_iload_n hx hb dX8_rivals_55 rfl (lv_at hl 3 rfl) ?_
          refine lv_if_lt (tgt := 147) hx hb dX8_rivals_56 (by decide) (fun c_10 => ?_) (fun c_10 => ?_)
          · have h := ife_t c_10 h
            exact hK55 M_9 _ _ _ hP hS (lv_sub hl [0] rfl) h
          · have h := ife_f c_10 h
            refine lv_aload_n hx hb dX8_rivals_59 rfl (lv_at hl 0 rfl) ?_
            refine va_get (D := (dC, dI)) (ci := 8) (v := .ref (ad (14))) (C := RX8) (T := TX8) (N := 29) hx hb hg inX8 hown hKn.1 hP (0) (m_at8 (c := 0) (by decide)) rfl 27 (Nat.le_of_ble_eq_true rfl) (hg _ lkF_X8_54) (fun _ h9 => h9) rfl dX8_rivals_60 ?_
            refine lv_iload_n hx hb dX8_rivals_63 rfl (lv_at hl 3 rfl) ?_
            refine lv_dup2_11 hx hb dX8_rivals_64 rfl rfl ?_
            obtain ⟨hi65, h⟩ := if_use h
            refine m_iald (M := M_9) (a := 14) hx hb hKn hP (by decide) (j := (ix v3_8)) rfl hi65 dX8_rivals_65 ?_
            refine lv_iconst (v := 1) hx hb dX8_rivals_66 (by decide) ?_
            refine lv_iadd hx hb dX8_rivals_67 ?_
            obtain ⟨hi68, h⟩ := if_use h
            refine m_iast (M := M_9) (a := 14) hx hb hKn hP hS (by decide) (x := ((M_9.1 14 (ix v3_8)) + 1)) (j := (ix v3_8)) rfl hi68 dX8_rivals_68 (fun H locs hP hS => ?_)
            have hP : va_P (dC, dI) vwCl (m_w kI kZ ad (um M_9 14 (ix v3_8) ((M_9.1 14 (ix v3_8)) + 1)).1 (um M_9 14 (ix v3_8) ((M_9.1 14 (ix v3_8)) + 1)).2) H := hP
            refine lv_aload_n hx hb dX8_rivals_69 rfl (lv_at hl 0 rfl) ?_
            refine va_get (D := (dC, dI)) (ci := 8) (v := .ref (ad (14))) (C := RX8) (T := TX8) (N := 29) hx hb hg inX8 hown hKn.1 hP (0) (m_at8 (c := 0) (by decide)) rfl 27 (Nat.le_of_ble_eq_true rfl) (hg _ lkF_X8_54) (fun _ h9 => h9) rfl dX8_rivals_70 ?_
            refine lv_iload_n hx hb dX8_rivals_73 rfl (lv_at hl 3 rfl) ?_
            obtain ⟨hi74, h⟩ := if_use h
            refine m_iald (M := (um M_9 14 (ix v3_8) ((M_9.1 14 (ix v3_8)) + 1))) (a := 14) hx hb hKn hP (by decide) (j := (ix v3_8)) rfl hi74 dX8_rivals_74 ?_
            refine lv_aload_n hx hb dX8_rivals_75 rfl (lv_at hl 0 rfl) ?_
            refine va_get (D := (dC, dI)) (ci := 8) (v := .ref (ad (1))) (C := RX8) (T := TX8) (N := 29) hx hb hg inX8 hown hKn.1 hP (0) (m_at8 (c := 0) (by decide)) rfl 0 (Nat.le_of_ble_eq_true rfl) (hg _ lkF_X8_7) (fun _ h9 => h9) rfl dX8_rivals_76 ?_
            refine lv_iconst (v := 2) hx hb dX8_rivals_79 (by decide) ?_
            refine m_iald (M := (um M_9 14 (ix v3_8) ((M_9.1 14 (ix v3_8)) + 1))) (a := 1) hx hb hKn hP (by decide) (j := 2) (by decide) (by decide) dX8_rivals_80 ?_
            refine lv_icmp_le (tgt := 107) hx hb dX8_rivals_81 (by decide) (fun c_11 => ?_) (fun c_11 => ?_)
            · have h := ife_t c_11 h
              refine lv_aload_n hx hb dX8_rivals_107 rfl (lv_at hl 0 rfl) ?_
              refine lv_iload_n hx hb dX8_rivals_108 rfl (lv_at hl 3 rfl) ?_
              obtain ⟨r_12, M_13, e109, h⟩ := bd_use h
              refine gc_i (va_runV (As := [.int (v3_8)]) (rest := []) hFx (tX8_goes l dC dI kI kZ ad v3_8 (um M_9 14 (ix v3_8) ((M_9.1 14 (ix v3_8)) + 1))  e109) ⟨(gc_B hFx ck_yX8_goes lkM_X8_242 ⟨Nat.le_of_ble_eq_true rfl, Nat.le_of_ble_eq_true rfl⟩ rfl rfl), hg _ vi_yX8_goes, hg _ vs_yX8_goes⟩ (gp_V m_KnB (m_KnW hKn) hP (m_rc8 (c := 0) (by decide) hKn hP)) rfl rfl hl.1 rfl (lv_room (Nat.le_of_ble_eq_true rfl)) dX8_rivals_109 ⟨Nat.zero_le _, Nat.zero_le _⟩) hS (fun H locs hP hS => ?_)
              have hP : va_P (dC, dI) vwCl (m_w kI kZ ad M_13.1 M_13.2) H := hP
              refine lv_if_eq (tgt := 55) hx hb dX8_rivals_112 (by decide) (fun c_14 => ?_) (fun c_14 => ?_)
              · have h := ife_t c_14 h
                exact ih55 v3_8 M_13 _ _ _ hP hS (lv_sub hl [0, 1, 2, 3] rfl) h
              · have h := ife_f c_14 h
                refine lv_iload_n hx hb dX8_rivals_115 rfl (lv_at hl 3 rfl) ?_
                refine lv_iconst (v := 1) hx hb dX8_rivals_116 (by decide) ?_
                refine lv_iadd hx hb dX8_rivals_117 ?_
                refine lv_iload_n hx hb dX8_rivals_118 rfl (lv_at hl 2 rfl) ?_
                refine lv_icmp_ne (tgt := 136) hx hb dX8_rivals_119 (by decide) (fun c_15 => ?_) (fun c_15 => ?_)
                · have h := ife_f c_15 h
                  refine lv_iinc (v := (v3_8 + 1)) (lv' := [(3, .int ((v3_8 + 1))), (0, .ref (ad (0))), (1, .int (a1)), (2, .int (a2))]) hx hb dX8_rivals_136 hl (k := 3) rfl rfl (Nat.le_of_ble_eq_true rfl) rfl (fun ls hl => ?_)
                  refine lv_aload_n hx hb dX8_rivals_139 rfl (lv_at hl 1 rfl) ?_
                  refine lv_iload_n hx hb dX8_rivals_140 rfl (lv_at hl 0 rfl) ?_
                  obtain ⟨M_16, e141, h⟩ := bo_use h
                  refine gc_v (va_runV (As := [.int ((v3_8 + 1))]) (rest := []) hFx (tX8_beginsStep l dC dI kI kZ ad (v3_8 + 1) M_13  e141) ⟨(gc_B hFx ck_yX8_beginsStep lkM_X8_235 ⟨Nat.le_of_ble_eq_true rfl, Nat.le_of_ble_eq_true rfl⟩ rfl rfl), hg _ vi_yX8_beginsStep, hg _ vs_yX8_beginsStep⟩ (gp_V m_KnB (m_KnW hKn) hP (m_rc8 (c := 0) (by decide) hKn hP)) rfl rfl hl.1 rfl (lv_room (Nat.le_of_ble_eq_true rfl)) dX8_rivals_141 ⟨Nat.zero_le _, Nat.zero_le _⟩) hS (fun H locs hP hS => ?_)
                  have hP : va_P (dC, dI) vwCl (m_w kI kZ ad M_16.1 M_16.2) H := hP
                  refine lv_goto (tgt := 55) hx hb dX8_rivals_144 (by decide) ?_
                  exact ih55 (v3_8 + 1) M_16 _ _ _ hP hS (lv_sub hl [1, 2, 3, 0] rfl) h
                · have h := ife_t c_15 h
                  refine lv_aload_n hx hb dX8_rivals_122 rfl (lv_at hl 0 rfl) ?_
                  refine lv_iload_n hx hb dX8_rivals_123 rfl (lv_at hl 3 rfl) ?_
                  refine lv_aload_n hx hb dX8_rivals_124 rfl (lv_at hl 0 rfl) ?_
                  refine va_get (D := (dC, dI)) (ci := 8) (v := .ref (ad (10))) (C := RX8) (T := TX8) (N := 29) hx hb hg inX8 hown hKn.1 hP (0) (m_at8 (c := 0) (by decide)) rfl 21 (Nat.le_of_ble_eq_true rfl) (hg _ lkF_X8_42) (fun _ h9 => h9) rfl dX8_rivals_125 ?_
                  refine lv_iload_n hx hb dX8_rivals_128 rfl (lv_at hl 1 rfl) ?_
                  obtain ⟨hi129, h⟩ := if_use h
                  refine m_iald (M := M_13) (a := 10) hx hb hKn hP (by decide) (j := (ix a1)) rfl hi129 dX8_rivals_129 ?_
                  obtain ⟨M_17, e130, h⟩ := bo_use h
                  refine gc_v (va_runV (As := [.int (v3_8), .int ((M_13.1 10 (ix a1)))]) (rest := []) hFx (tX8_weighs l dC dI kI kZ ad v3_8 (M_13.1 10 (ix a1)) M_13  e130) ⟨(gc_B hFx ck_yX8_weighs lkM_X8_238 ⟨Nat.le_of_ble_eq_true rfl, Nat.le_of_ble_eq_true rfl⟩ rfl rfl), hg _ vi_yX8_weighs, hg _ vs_yX8_weighs⟩ (gp_V m_KnB (m_KnW hKn) hP (m_rc8 (c := 0) (by decide) hKn hP)) rfl rfl hl.1 rfl (lv_room (Nat.le_of_ble_eq_true rfl)) dX8_rivals_130 ⟨Nat.zero_le _, Nat.zero_le _⟩) hS (fun H locs hP hS => ?_)
                  have hP : va_P (dC, dI) vwCl (m_w kI kZ ad M_17.1 M_17.2) H := hP
                  refine lv_goto (tgt := 55) hx hb dX8_rivals_133 (by decide) ?_
                  exact ih55 v3_8 M_17 _ _ _ hP hS (lv_sub hl [0, 1, 2, 3] rfl) h
            · have h := ife_f c_11 h
              refine lv_iinc (v := (v3_8 + (-1))) (lv' := [(3, .int ((v3_8 + (-1)))), (0, .ref (ad (0))), (1, .int (a1)), (2, .int (a2))]) hx hb dX8_rivals_84 hl (k := 3) rfl rfl (Nat.le_of_ble_eq_true rfl) rfl (fun ls hl => ?_)
              refine lv_iload_n hx hb dX8_rivals_87 rfl (lv_at hl 0 rfl) ?_
              refine lv_if_lt (tgt := 55) hx hb dX8_rivals_88 (by decide) (fun c_18 => ?_) (fun c_18 => ?_)
              · have h := ife_t c_18 h
                exact ih55 (v3_8 + (-1)) (um M_9 14 (ix v3_8) ((M_9.1 14 (ix v3_8)) + 1)) _ _ _ hP hS (lv_sub hl [1, 2, 3, 0] rfl) h
              · have h := ife_f c_18 h
                refine lv_aload_n hx hb dX8_rivals_91 rfl (lv_at hl 1 rfl) ?_
                refine lv_iload_n hx hb dX8_rivals_92 rfl (lv_at hl 0 rfl) ?_
                refine lv_aload_n hx hb dX8_rivals_93 rfl (lv_at hl 1 rfl) ?_
                refine va_get (D := (dC, dI)) (ci := 8) (v := .ref (ad (15))) (C := RX8) (T := TX8) (N := 29) hx hb hg inX8 hown hKn.1 hP (0) (m_at8 (c := 0) (by decide)) rfl 28 (Nat.le_of_ble_eq_true rfl) (hg _ lkF_X8_57) (fun _ h9 => h9) rfl dX8_rivals_94 ?_
                refine lv_iload_n hx hb dX8_rivals_97 rfl (lv_at hl 0 rfl) ?_
                refine lv_iconst (v := 1) hx hb dX8_rivals_98 (by decide) ?_
                refine lv_iadd hx hb dX8_rivals_99 ?_
                obtain ⟨hi100, h⟩ := if_use h
                refine m_iald (M := (um M_9 14 (ix v3_8) ((M_9.1 14 (ix v3_8)) + 1))) (a := 15) hx hb hKn hP (by decide) (j := (ix ((v3_8 + (-1)) + 1))) rfl hi100 dX8_rivals_100 ?_
                obtain ⟨M_19, e101, h⟩ := bo_use h
                refine gc_v (va_runV (As := [.int ((v3_8 + (-1))), .int (((um M_9 14 (ix v3_8) ((M_9.1 14 (ix v3_8)) + 1)).1 15 (ix ((v3_8 + (-1)) + 1))))]) (rest := []) hFx (tX8_weighs l dC dI kI kZ ad (v3_8 + (-1)) ((um M_9 14 (ix v3_8) ((M_9.1 14 (ix v3_8)) + 1)).1 15 (ix ((v3_8 + (-1)) + 1))) (um M_9 14 (ix v3_8) ((M_9.1 14 (ix v3_8)) + 1))  e101) ⟨(gc_B hFx ck_yX8_weighs lkM_X8_238 ⟨Nat.le_of_ble_eq_true rfl, Nat.le_of_ble_eq_true rfl⟩ rfl rfl), hg _ vi_yX8_weighs, hg _ vs_yX8_weighs⟩ (gp_V m_KnB (m_KnW hKn) hP (m_rc8 (c := 0) (by decide) hKn hP)) rfl rfl hl.1 rfl (lv_room (Nat.le_of_ble_eq_true rfl)) dX8_rivals_101 ⟨Nat.zero_le _, Nat.zero_le _⟩) hS (fun H locs hP hS => ?_)
                have hP : va_P (dC, dI) vwCl (m_w kI kZ ad M_19.1 M_19.2) H := hP
                refine lv_goto (tgt := 55) hx hb dX8_rivals_104 (by decide) ?_
                exact ih55 (v3_8 + (-1)) M_19 _ _ _ hP hS (lv_sub hl [1, 2, 3, 0] rfl) h
      exact hL55 fuelN 0 M_6 _ _ _ hP hS (lv_sub hl [1, 2, 3, 0] rfl) h
    · have h := ife_t c_4 h
      refine lv_ldc hx hb hown (hg _ kc_X8_78) dX8_rivals_23 ?_
      exact W.iret (v := (-1000000002)) hx hb hr (fun t ht hW => ⟨⟨(-1000000002), M, rfl, Prod.mk.inj (Option.some.inj h), by rw [ht]; exact hP, m_KnW hKn t hW⟩, hS.F ht⟩) hS.2.2 dX8_rivals_25
  · have h := ife_t c_2 h
    refine lv_ldc hx hb hown (hg _ kc_X8_143) dX8_rivals_8 ?_
    exact W.iret (v := (-1000000001)) hx hb hr (fun t ht hW => ⟨⟨(-1000000001), M, rfl, Prod.mk.inj (Option.some.inj h), by rw [ht]; exact hP, m_KnW hKn t hW⟩, hS.F ht⟩) hS.2.2 dX8_rivals_10
noncomputable def FX8_seed (a1 : Int32) (M : MM) : Option (Int32 × MM) :=
  (if 0 ≤ a1 then some ((Int64.toInt32 M.2), us M ((a1).toInt64)) else some ((-1000000002), M))
set_option maxHeartbeats 4000000 in
set_option maxRecDepth 100000 in
theorem tX8_seed (l : Launch) (dC : Nat → ClassId) (dI : Nat → Nat → Nat) (kI kZ : ClassId) (ad : Nat → Nat) (a1 : Int32) (M : MM)  {r0 : Int32} {M0 : MM} (h : FX8_seed a1 M = some (r0, M0)) : Met l yX8_seed (wsA yX8_seed cX8_seed 3 (some .int)) ({ frames := 0, cells := 0, slots := 0, locals := 0 } : Room) (va_Pc [.ref (ad (0)), .int (a1)] (gI (m_Wd dC dI kI kZ ad) (m_Kn dC dI kI kZ ad) M)) (va_Qi (fun (r : Int32) (u : MM) => r = r0 ∧ u = M0) (gI (m_Wd dC dI kI kZ ad) (m_Kn dC dI kI kZ ad)) (m_A ad)) 0 0 (m_A ad) := by
  refine Met.ofW (cc := cX8_seed) (maxL := 3) (ret := (some .int)) (by decide) rfl ?_
  intro p e s m args below meth c s₁ B hml hv
  obtain ⟨rfl, hP, hKn⟩ := hv
  have hx := B.exec
  have hb := B.bytes
  have hr := B.returns
  have hts := atoms_spec (ws := wsA yX8_seed cX8_seed 3 (some .int)) B.pre
  have hg : ∀ w ∈ lw_good, w.before _ s = true := fun w h => hts w (List.mem_cons_of_mem _ h)
  have hown : s.vm.findClass RX8 = some m.cls := findClass_of_methodNamed B.named
  have hlocks := B.notSynchronized
  have hS : va_S (m_A ad) s.heap s.heap [] := va_S.rf
  have hFx : gFix p c cX8_seed 3 s m _ RX8 := ⟨hx, hb, hml, hown, hg⟩
  have hP : va_P (dC, dI) vwCl (m_w kI kZ ad M.1 M.2) s.heap := hP
  have hl := lv_entry ([.ref (ad (0)), .int (a1)]) (n := 3) (Nat.le_of_ble_eq_true rfl)
  rw [lg_entry_eq]
  generalize (lg_sl ([.ref (ad (0)), .int (a1)]) ++ List.replicate (3 - (lg_sl ([.ref (ad (0)), .int (a1)])).length) Slot.unset).toArray = ls at hl ⊢
  have hl : lv_has ls 3 [(0, .ref (ad (0))), (1, .int (a1))] := hl
  unfold FX8_seed at h
  refine lv_iload_n hx hb dX8_seed_0 rfl (lv_at hl 1 rfl) ?_
  refine lv_if_ge (tgt := 7) hx hb dX8_seed_1 (by decide) (fun c_1 => ?_) (fun c_1 => ?_)
  · have h := ife_t c_1 h
    refine lv_aload_n hx hb dX8_seed_7 rfl (lv_at hl 0 rfl) ?_
    refine va_get (D := (dC, dI)) (ci := 8) (v := .long (M.2)) (C := RX8) (T := TX8) (N := 29) hx hb hg inX8 hown hKn.1 hP (0) (m_at8 (c := 0) (by decide)) rfl 7 (Nat.le_of_ble_eq_true rfl) (hg _ lkF_X8_190) (fun _ h9 => h9) rfl dX8_seed_8 ?_
    refine lv_l2i (v := (Int64.toInt32 M.2)) hx hb dX8_seed_11 rfl ?_
    refine lv_istore_n (lv' := [(2, .int ((Int64.toInt32 M.2))), (0, .ref (ad (0))), (1, .int (a1))]) hx hb dX8_seed_12 rfl hl (Nat.le_of_ble_eq_true rfl) rfl (fun ls hl => ?_)
    refine lv_aload_n hx hb dX8_seed_13 rfl (lv_at hl 1 rfl) ?_
    refine lv_iload_n hx hb dX8_seed_14 rfl (lv_at hl 2 rfl) ?_
    refine lv_i2l (v := ((a1).toInt64)) hx hb dX8_seed_15 rfl ?_
    refine va_put (D := (dC, dI)) (ci := 8) (v := .long (((a1).toInt64))) (ty := .long) (C := RX8) (T := TX8) (N := 29) hx hb hg inX8 tyX8 tyX8_ok nmX8 hown hKn.1 hP (m_D hKn.2.1) hS (0) (m_at8 (c := 0) (by decide)) rfl 7 (Nat.le_of_ble_eq_true rfl) (hg _ lkF_X8_190) (fun _ h9 => h9) rfl (by decide +kernel) rfl rfl (Nat.le_of_ble_eq_true rfl) dX8_seed_16 (fun H locs hP _ hS => ?_)
    have hP : va_P (dC, dI) vwCl (m_w kI kZ ad (us M ((a1).toInt64)).1 (us M ((a1).toInt64)).2) H := vp_eq (m_put8_7 (by decide) _) hP
    refine lv_iload_n hx hb dX8_seed_19 rfl (lv_at hl 0 rfl) ?_
    exact W.iret (v := (Int64.toInt32 M.2)) hx hb hr (fun t ht hW => ⟨⟨(Int64.toInt32 M.2), us M ((a1).toInt64), rfl, Prod.mk.inj (Option.some.inj h), by rw [ht]; exact hP, m_KnW hKn t hW⟩, hS.F ht⟩) hS.2.2 dX8_seed_20
  · have h := ife_f c_1 h
    refine lv_ldc hx hb hown (hg _ kc_X8_78) dX8_seed_4 ?_
    exact W.iret (v := (-1000000002)) hx hb hr (fun t ht hW => ⟨⟨(-1000000002), M, rfl, Prod.mk.inj (Option.some.inj h), by rw [ht]; exact hP, m_KnW hKn t hW⟩, hS.F ht⟩) hS.2.2 dX8_seed_6
noncomputable def FX8_shun_L29 (b1 : Int32) (b2 : Int32) (M : MM) (K : Int32 → Option Int32) (k : Nat) (v3_6 : Int32) (v4_7 : Int32) : Option Int32 := match k with
  | 0 => none
  | k + 1 => (if 20 < v4_7 then K v3_6 else (if inb b1 17 then (if (M.1 3 (ix b1)) < (M.1 1 3) then K v3_6 else jn (α := Int32 → Option Int32) (fun (s_10 : Int32) => (if inb b1 17 then jn (α := Int32 → Option Int32) (fun (s_11 : Int32) => FX8_shun_L29 b1 b2 M K k s_11 (v4_7 + 1)) (fun J95 => (if (M.1 1 3) ≤ (((2 * (M.1 3 (ix b1))) + s_10) / 3) then J95 v3_6 else J95 s_10)) else none)) (fun J65 => (if b2 = 0 then J65 (20 - v4_7) else J65 v4_7))) else none))
noncomputable def FX8_shun (a1 : Int32) (a2 : Int32) (M : MM) : Option Int32 :=
  bo (FX8_isOpinion a1 M) (fun (r_1 : Int32) => (if r_1 = 0 then some (-1000000001) else bo (FX8_in ((a2).toInt64) 0 1) (fun (r_3 : Int32) => (if r_3 = 0 then some (-1000000002) else FX8_shun_L29 a1 a2 M (fun (k3_5 : Int32) => some k3_5) fuelN (-1) 0))))
set_option maxHeartbeats 4000000 in
set_option maxRecDepth 100000 in
theorem tX8_shun (l : Launch) (dC : Nat → ClassId) (dI : Nat → Nat → Nat) (kI kZ : ClassId) (ad : Nat → Nat) (a1 : Int32) (a2 : Int32) (M : MM)  {r0 : Int32} (h : FX8_shun a1 a2 M = some r0) : Met l yX8_shun (wsA yX8_shun cX8_shun 6 (some .int)) ({ frames := 2, cells := 0, slots := 0, locals := 46 } : Room) (va_Pc [.ref (ad (0)), .int (a1), .int (a2)] (gI (m_Wd dC dI kI kZ ad) (m_Kn dC dI kI kZ ad) M)) (va_Qi (fun (r : Int32) (u : MM) => r = r0 ∧ u = M) (gI (m_Wd dC dI kI kZ ad) (m_Kn dC dI kI kZ ad)) (m_A ad)) 0 0 (m_A ad) := by
  refine Met.ofW (cc := cX8_shun) (maxL := 6) (ret := (some .int)) (by decide) rfl ?_
  intro p e s m args below meth c s₁ B hml hv
  obtain ⟨rfl, hP, hKn⟩ := hv
  have hx := B.exec
  have hb := B.bytes
  have hr := B.returns
  have hts := atoms_spec (ws := wsA yX8_shun cX8_shun 6 (some .int)) B.pre
  have hg : ∀ w ∈ lw_good, w.before _ s = true := fun w h => hts w (List.mem_cons_of_mem _ h)
  have hown : s.vm.findClass RX8 = some m.cls := findClass_of_methodNamed B.named
  have hlocks := B.notSynchronized
  have hS : va_S (m_A ad) s.heap s.heap [] := va_S.rf
  have hFx : gFix p c cX8_shun 6 s m _ RX8 := ⟨hx, hb, hml, hown, hg⟩
  have hP : va_P (dC, dI) vwCl (m_w kI kZ ad M.1 M.2) s.heap := hP
  have hl := lv_entry ([.ref (ad (0)), .int (a1), .int (a2)]) (n := 6) (Nat.le_of_ble_eq_true rfl)
  rw [lg_entry_eq]
  generalize (lg_sl ([.ref (ad (0)), .int (a1), .int (a2)]) ++ List.replicate (6 - (lg_sl ([.ref (ad (0)), .int (a1), .int (a2)])).length) Slot.unset).toArray = ls at hl ⊢
  have hl : lv_has ls 6 [(0, .ref (ad (0))), (1, .int (a1)), (2, .int (a2))] := hl
  unfold FX8_shun at h
  refine lv_aload_n hx hb dX8_shun_0 rfl (lv_at hl 0 rfl) ?_
  refine lv_iload_n hx hb dX8_shun_1 rfl (lv_at hl 1 rfl) ?_
  obtain ⟨r_1, e2, h⟩ := bo_use h
  refine gc_i (va_runV (As := [.int (a1)]) (rest := []) hFx (tX8_isOpinion l dC dI kI kZ ad a1 M  e2) ⟨(gc_B hFx ck_yX8_isOpinion lkM_X8_140 ⟨Nat.le_of_ble_eq_true rfl, Nat.le_of_ble_eq_true rfl⟩ rfl rfl), hg _ vi_yX8_isOpinion, hg _ vs_yX8_isOpinion⟩ (gp_V m_KnB (m_KnW hKn) hP (m_rc8 (c := 0) (by decide) hKn hP)) rfl rfl hl.1 rfl (lv_room (Nat.le_of_ble_eq_true rfl)) dX8_shun_2 ⟨Nat.zero_le _, Nat.zero_le _⟩) hS (fun H locs hP hS => ?_)
  have hP : va_P (dC, dI) vwCl (m_w kI kZ ad M.1 M.2) H := hP
  refine lv_if_ne (tgt := 11) hx hb dX8_shun_5 (by decide) (fun c_2 => ?_) (fun c_2 => ?_)
  · have h := ife_f c_2 h
    refine lv_iload_n hx hb dX8_shun_11 rfl (lv_at hl 2 rfl) ?_
    refine lv_i2l (v := ((a2).toInt64)) hx hb dX8_shun_12 rfl ?_
    refine lv_lconst (v := 0) hx hb dX8_shun_13 (by decide) ?_
    refine lv_lconst (v := 1) hx hb dX8_shun_14 (by decide) ?_
    obtain ⟨r_3, e15, h⟩ := bo_use h
    refine gc_i (va_runS (As := [.long (((a2).toInt64)), .long (0), .long (1)]) (rest := []) hFx (tX8_in l dC dI kI kZ ad ((a2).toInt64) 0 1 M  e15) ⟨(gc_B hFx ck_yX8_in lkM_X8_74 ⟨Nat.le_of_ble_eq_true rfl, Nat.le_of_ble_eq_true rfl⟩ rfl rfl), hg _ st_yX8_in⟩ (gp_S m_KnB (m_KnW hKn) hP) rfl rfl hl.1 rfl (lv_room (Nat.le_of_ble_eq_true rfl)) dX8_shun_15 ⟨Nat.zero_le _, Nat.zero_le _⟩) hS (fun H locs hP hS => ?_)
    have hP : va_P (dC, dI) vwCl (m_w kI kZ ad M.1 M.2) H := hP
    refine lv_if_ne (tgt := 24) hx hb dX8_shun_18 (by decide) (fun c_4 => ?_) (fun c_4 => ?_)
    · have h := ife_f c_4 h
      refine lv_iconst (v := -1) hx hb dX8_shun_24 (by decide) ?_
      refine lv_istore_n (lv' := [(3, .int ((-1))), (0, .ref (ad (0))), (1, .int (a1)), (2, .int (a2))]) hx hb dX8_shun_25 rfl hl (Nat.le_of_ble_eq_true rfl) rfl (fun ls hl => ?_)
      refine lv_iconst (v := 0) hx hb dX8_shun_26 (by decide) ?_
      refine lv_istore (lv' := [(4, .int (0)), (3, .int ((-1))), (0, .ref (ad (0))), (1, .int (a1)), (2, .int (a2))]) hx hb dX8_shun_27 hl (Nat.le_of_ble_eq_true rfl) rfl (fun ls hl => ?_)
      obtain ⟨K29, eK29, h⟩ := exK (Lp := fun K => FX8_shun_L29 a1 a2 M K fuelN (-1) 0) h
      have hK29 : ∀ (k3_5 : Int32) (H : Heap) (locs : List Loc) (ls : Array Slot), va_P (dC, dI) vwCl (m_w kI kZ ad M.1 M.2) H → va_S (m_A ad) s.heap H locs → lv_has ls 6 [(3, .int (k3_5))] → K29 k3_5 = some r0 → W p l e (headSpec (wsA yX8_shun cX8_shun 6 (some .int)) ({ frames := 2, cells := 0, slots := 0, locals := 46 } : Room)).room s m (([.ref (ad (0)), .int (a1), .int (a2)] : List Value).toArray) below meth c H locs 0 0 (MQ below (va_Qi (fun (r : Int32) (u : MM) => r = r0 ∧ u = M) (gI (m_Wd dC dI kI kZ ad) (m_Kn dC dI kI kZ ad)) (m_A ad)) (([.ref (ad (0)), .int (a1), .int (a2)] : List Value).toArray) s 0 0 (m_A ad)) (F0 m 102 ls []) := by
        intro k3_5 H locs ls hP hS hl h
        have h := useK1 eK29 h
        refine lv_iload_n hx hb dX8_shun_102 rfl (lv_at hl 0 rfl) ?_
        exact W.iret (v := k3_5) hx hb hr (fun t ht hW => ⟨⟨k3_5, M, rfl, ⟨Option.some.inj h, rfl⟩, by rw [ht]; exact hP, m_KnW hKn t hW⟩, hS.F ht⟩) hS.2.2 dX8_shun_103
      have hL29 : ∀ (k : Nat) (v3_6 : Int32) (v4_7 : Int32) (H : Heap) (locs : List Loc) (ls : Array Slot), va_P (dC, dI) vwCl (m_w kI kZ ad M.1 M.2) H → va_S (m_A ad) s.heap H locs → lv_has ls 6 [(0, .ref (ad (0))), (1, .int (a1)), (2, .int (a2)), (3, .int (v3_6)), (4, .int (v4_7))] → FX8_shun_L29 a1 a2 M K29 k v3_6 v4_7 = some r0 → W p l e (headSpec (wsA yX8_shun cX8_shun 6 (some .int)) ({ frames := 2, cells := 0, slots := 0, locals := 46 } : Room)).room s m (([.ref (ad (0)), .int (a1), .int (a2)] : List Value).toArray) below meth c H locs 0 0 (MQ below (va_Qi (fun (r : Int32) (u : MM) => r = r0 ∧ u = M) (gI (m_Wd dC dI kI kZ ad) (m_Kn dC dI kI kZ ad)) (m_A ad)) (([.ref (ad (0)), .int (a1), .int (a2)] : List Value).toArray) s 0 0 (m_A ad)) (F0 m 29 ls []) := by
        intro k
        induction k with
        | zero => intro v3_6 v4_7 H locs ls hP hS hl h; cases h
        | succ k ih29 =>
          intro v3_6 v4_7 H locs ls hP hS hl h
          unfold FX8_shun_L29 at h
          refine lv_iload hx hb dX8_shun_29 (lv_at hl 4 rfl) ?_
          refine lv_bipush (v := 20) hx hb dX8_shun_31 (by decide) ?_
          refine lv_icmp_gt (tgt := 102) hx hb dX8_shun_33 (by decide) (fun c_8 => ?_) (fun c_8 => ?_)
          · have h := ife_t c_8 h
            exact hK29 v3_6 _ _ _ hP hS (lv_sub hl [3] rfl) h
          · have h := ife_f c_8 h
            refine lv_aload_n hx hb dX8_shun_36 rfl (lv_at hl 0 rfl) ?_
            refine va_get (D := (dC, dI)) (ci := 8) (v := .ref (ad (3))) (C := RX8) (T := TX8) (N := 29) hx hb hg inX8 hown hKn.1 hP (0) (m_at8 (c := 0) (by decide)) rfl 2 (Nat.le_of_ble_eq_true rfl) (hg _ lkF_X8_16) (fun _ h9 => h9) rfl dX8_shun_37 ?_
            refine lv_iload_n hx hb dX8_shun_40 rfl (lv_at hl 1 rfl) ?_
            obtain ⟨hi41, h⟩ := if_use h
            refine m_iald (M := M) (a := 3) hx hb hKn hP (by decide) (j := (ix a1)) rfl hi41 dX8_shun_41 ?_
            refine lv_aload_n hx hb dX8_shun_42 rfl (lv_at hl 0 rfl) ?_
            refine va_get (D := (dC, dI)) (ci := 8) (v := .ref (ad (1))) (C := RX8) (T := TX8) (N := 29) hx hb hg inX8 hown hKn.1 hP (0) (m_at8 (c := 0) (by decide)) rfl 0 (Nat.le_of_ble_eq_true rfl) (hg _ lkF_X8_7) (fun _ h9 => h9) rfl dX8_shun_43 ?_
            refine lv_iconst (v := 3) hx hb dX8_shun_46 (by decide) ?_
            refine m_iald (M := M) (a := 1) hx hb hKn hP (by decide) (j := 3) (by decide) (by decide) dX8_shun_47 ?_
            refine lv_icmp_lt (tgt := 102) hx hb dX8_shun_48 (by decide) (fun c_9 => ?_) (fun c_9 => ?_)
            · have h := ife_t c_9 h
              exact hK29 v3_6 _ _ _ hP hS (lv_sub hl [3] rfl) h
            · have h := ife_f c_9 h
              refine lv_iload_n hx hb dX8_shun_51 rfl (lv_at hl 2 rfl) ?_
              obtain ⟨J65, eJ65, h⟩ := jn_use h
              have hJ65 : ∀ (s_10 : Int32) (H : Heap) (locs : List Loc) (ls : Array Slot), va_P (dC, dI) vwCl (m_w kI kZ ad M.1 M.2) H → va_S (m_A ad) s.heap H locs → lv_has ls 6 [(0, .ref (ad (0))), (1, .int (a1)), (2, .int (a2)), (3, .int (v3_6)), (4, .int (v4_7))] → J65 s_10 = some r0 → W p l e (headSpec (wsA yX8_shun cX8_shun 6 (some .int)) ({ frames := 2, cells := 0, slots := 0, locals := 46 } : Room)).room s m (([.ref (ad (0)), .int (a1), .int (a2)] : List Value).toArray) below meth c H locs 0 0 (MQ below (va_Qi (fun (r : Int32) (u : MM) => r = r0 ∧ u = M) (gI (m_Wd dC dI kI kZ ad) (m_Kn dC dI kI kZ ad)) (m_A ad)) (([.ref (ad (0)), .int (a1), .int (a2)] : List Value).toArray) s 0 0 (m_A ad)) (F0 m 65 ls [.int (s_10)]) := by
                intro s_10 H locs ls hP hS hl h
                have h := useK1 eJ65 h
                refine lv_istore (lv' := [(5, .int (s_10)), (0, .ref (ad (0))), (1, .int (a1)), (2, .int (a2)), (3, .int (v3_6)), (4, .int (v4_7))]) hx hb dX8_shun_65 hl (Nat.le_of_ble_eq_true rfl) rfl (fun ls hl => ?_)
                refine lv_iconst (v := 2) hx hb dX8_shun_67 (by decide) ?_
                refine lv_aload_n hx hb dX8_shun_68 rfl (lv_at hl 1 rfl) ?_
                refine va_get (D := (dC, dI)) (ci := 8) (v := .ref (ad (3))) (C := RX8) (T := TX8) (N := 29) hx hb hg inX8 hown hKn.1 hP (0) (m_at8 (c := 0) (by decide)) rfl 2 (Nat.le_of_ble_eq_true rfl) (hg _ lkF_X8_16) (fun _ h9 => h9) rfl dX8_shun_69 ?_
                refine lv_iload_n hx hb dX8_shun_72 rfl (lv_at hl 2 rfl) ?_
                obtain ⟨hi73, h⟩ := if_use h
                refine m_iald (M := M) (a := 3) hx hb hKn hP (by decide) (j := (ix a1)) rfl hi73 dX8_shun_73 ?_
                refine lv_imul hx hb dX8_shun_74 ?_
                refine lv_iload hx hb dX8_shun_75 (lv_at hl 0 rfl) ?_
                refine lv_iadd hx hb dX8_shun_77 ?_
                refine lv_iconst (v := 3) hx hb dX8_shun_78 (by decide) ?_
                refine lv_idiv hx hb dX8_shun_79 (by decide) ?_
                refine lv_aload_n hx hb dX8_shun_80 rfl (lv_at hl 1 rfl) ?_
                refine va_get (D := (dC, dI)) (ci := 8) (v := .ref (ad (1))) (C := RX8) (T := TX8) (N := 29) hx hb hg inX8 hown hKn.1 hP (0) (m_at8 (c := 0) (by decide)) rfl 0 (Nat.le_of_ble_eq_true rfl) (hg _ lkF_X8_7) (fun _ h9 => h9) rfl dX8_shun_81 ?_
                refine lv_iconst (v := 3) hx hb dX8_shun_84 (by decide) ?_
                refine m_iald (M := M) (a := 1) hx hb hKn hP (by decide) (j := 3) (by decide) (by decide) dX8_shun_85 ?_
                obtain ⟨J95, eJ95, h⟩ := jn_use h
                have hJ95 : ∀ (s_11 : Int32) (H : Heap) (locs : List Loc) (ls : Array Slot), va_P (dC, dI) vwCl (m_w kI kZ ad M.1 M.2) H → va_S (m_A ad) s.heap H locs → lv_has ls 6 [(0, .ref (ad (0))), (1, .int (a1)), (2, .int (a2)), (4, .int (v4_7))] → J95 s_11 = some r0 → W p l e (headSpec (wsA yX8_shun cX8_shun 6 (some .int)) ({ frames := 2, cells := 0, slots := 0, locals := 46 } : Room)).room s m (([.ref (ad (0)), .int (a1), .int (a2)] : List Value).toArray) below meth c H locs 0 0 (MQ below (va_Qi (fun (r : Int32) (u : MM) => r = r0 ∧ u = M) (gI (m_Wd dC dI kI kZ ad) (m_Kn dC dI kI kZ ad)) (m_A ad)) (([.ref (ad (0)), .int (a1), .int (a2)] : List Value).toArray) s 0 0 (m_A ad)) (F0 m 95 ls [.int (s_11)]) := by
                  intro s_11 H locs ls hP hS hl h
                  have h := useK1 eJ95 h
                  refine lv_istore_n (lv' := [(3, .int (s_11)), (0, .ref (ad (0))), (1, .int (a1)), (2, .int (a2)), (4, .int (v4_7))]) hx hb dX8_shun_95 rfl hl (Nat.le_of_ble_eq_true rfl) rfl (fun ls hl => ?_)
                  refine lv_iinc (v := (v4_7 + 1)) (lv' := [(4, .int ((v4_7 + 1))), (3, .int (s_11)), (0, .ref (ad (0))), (1, .int (a1)), (2, .int (a2))]) hx hb dX8_shun_96 hl (k := 4) rfl rfl (Nat.le_of_ble_eq_true rfl) rfl (fun ls hl => ?_)
                  refine lv_goto (tgt := 29) hx hb dX8_shun_99 (by decide) ?_
                  exact ih29 s_11 (v4_7 + 1) _ _ _ hP hS (lv_sub hl [2, 3, 4, 1, 0] rfl) h
                refine lv_icmp_ge (tgt := 94) hx hb dX8_shun_86 (by decide) (fun c_12 => ?_) (fun c_12 => ?_)
                · have h := ife_t c_12 h
                  refine lv_iload_n hx hb dX8_shun_94 rfl (lv_at hl 4 rfl) ?_
                  exact hJ95 v3_6 _ _ _ hP hS (lv_sub hl [1, 2, 3, 5] rfl) h
                · have h := ife_f c_12 h
                  refine lv_iload hx hb dX8_shun_89 (lv_at hl 0 rfl) ?_
                  refine lv_goto (tgt := 95) hx hb dX8_shun_91 (by decide) ?_
                  exact hJ95 s_10 _ _ _ hP hS (lv_sub hl [1, 2, 3, 5] rfl) h
              refine lv_if_ne (tgt := 63) hx hb dX8_shun_52 (by decide) (fun c_13 => ?_) (fun c_13 => ?_)
              · have h := ife_f c_13 h
                refine lv_iload hx hb dX8_shun_63 (lv_at hl 4 rfl) ?_
                exact hJ65 v4_7 _ _ _ hP hS (lv_sub hl [0, 1, 2, 3, 4] rfl) h
              · have h := ife_t c_13 h
                refine lv_bipush (v := 20) hx hb dX8_shun_55 (by decide) ?_
                refine lv_iload hx hb dX8_shun_57 (lv_at hl 4 rfl) ?_
                refine lv_isub hx hb dX8_shun_59 ?_
                refine lv_goto (tgt := 65) hx hb dX8_shun_60 (by decide) ?_
                exact hJ65 (20 - v4_7) _ _ _ hP hS (lv_sub hl [0, 1, 2, 3, 4] rfl) h
      exact hL29 fuelN (-1) 0 _ _ _ hP hS (lv_sub hl [2, 3, 4, 1, 0] rfl) h
    · have h := ife_t c_4 h
      refine lv_ldc hx hb hown (hg _ kc_X8_78) dX8_shun_21 ?_
      exact W.iret (v := (-1000000002)) hx hb hr (fun t ht hW => ⟨⟨(-1000000002), M, rfl, ⟨Option.some.inj h, rfl⟩, by rw [ht]; exact hP, m_KnW hKn t hW⟩, hS.F ht⟩) hS.2.2 dX8_shun_23
  · have h := ife_t c_2 h
    refine lv_ldc hx hb hown (hg _ kc_X8_143) dX8_shun_8 ?_
    exact W.iret (v := (-1000000001)) hx hb hr (fun t ht hW => ⟨⟨(-1000000001), M, rfl, ⟨Option.some.inj h, rfl⟩, by rw [ht]; exact hP, m_KnW hKn t hW⟩, hS.F ht⟩) hS.2.2 dX8_shun_10
noncomputable def FX8_soonest (a1 : Int32) (a2 : Int32) (a3 : Int32) (M : MM) : Option (Int32 × MM) :=
  bo (FX8_areOpinions a1 M) (fun (r_1 : Int32) => (if r_1 = 0 then some ((-1000000001), M) else bo (FX8_areOpinions a2 M) (fun (r_3 : Int32) => (if r_3 = 0 then some ((-1000000001), M) else bd (FX8_layNights a1 a2 M) (fun (r_5 : Int32) (M_6 : MM) => (if r_5 = 1000000 then some ((-1), M_6) else (if a3 = (-1) then some (r_5, M_6) else bo (FX8_in ((a3).toInt64) 0 (((r_5 - 1)).toInt64)) (fun (r_9 : Int32) => (if r_9 = 0 then some ((-1), M_6) else (if a3 = 0 then some ((M_6.1 0 23), M_6) else some ((M_6.1 0 24), M_6)))))))))))
set_option maxHeartbeats 4000000 in
set_option maxRecDepth 100000 in
theorem tX8_soonest (l : Launch) (dC : Nat → ClassId) (dI : Nat → Nat → Nat) (kI kZ : ClassId) (ad : Nat → Nat) (a1 : Int32) (a2 : Int32) (a3 : Int32) (M : MM)  {r0 : Int32} {M0 : MM} (h : FX8_soonest a1 a2 a3 M = some (r0, M0)) : Met l yX8_soonest (wsA yX8_soonest cX8_soonest 5 (some .int)) ({ frames := 5, cells := 0, slots := 0, locals := 119 } : Room) (va_Pc [.ref (ad (0)), .int (a1), .int (a2), .int (a3)] (gI (m_Wd dC dI kI kZ ad) (m_Kn dC dI kI kZ ad) M)) (va_Qi (fun (r : Int32) (u : MM) => r = r0 ∧ u = M0) (gI (m_Wd dC dI kI kZ ad) (m_Kn dC dI kI kZ ad)) (m_A ad)) 0 0 (m_A ad) := by
  refine Met.ofW (cc := cX8_soonest) (maxL := 5) (ret := (some .int)) (by decide) rfl ?_
  intro p e s m args below meth c s₁ B hml hv
  obtain ⟨rfl, hP, hKn⟩ := hv
  have hx := B.exec
  have hb := B.bytes
  have hr := B.returns
  have hts := atoms_spec (ws := wsA yX8_soonest cX8_soonest 5 (some .int)) B.pre
  have hg : ∀ w ∈ lw_good, w.before _ s = true := fun w h => hts w (List.mem_cons_of_mem _ h)
  have hown : s.vm.findClass RX8 = some m.cls := findClass_of_methodNamed B.named
  have hlocks := B.notSynchronized
  have hS : va_S (m_A ad) s.heap s.heap [] := va_S.rf
  have hFx : gFix p c cX8_soonest 5 s m _ RX8 := ⟨hx, hb, hml, hown, hg⟩
  have hP : va_P (dC, dI) vwCl (m_w kI kZ ad M.1 M.2) s.heap := hP
  have hl := lv_entry ([.ref (ad (0)), .int (a1), .int (a2), .int (a3)]) (n := 5) (Nat.le_of_ble_eq_true rfl)
  rw [lg_entry_eq]
  generalize (lg_sl ([.ref (ad (0)), .int (a1), .int (a2), .int (a3)]) ++ List.replicate (5 - (lg_sl ([.ref (ad (0)), .int (a1), .int (a2), .int (a3)])).length) Slot.unset).toArray = ls at hl ⊢
  have hl : lv_has ls 5 [(0, .ref (ad (0))), (1, .int (a1)), (2, .int (a2)), (3, .int (a3))] := hl
  unfold FX8_soonest at h
  refine lv_aload_n hx hb dX8_soonest_0 rfl (lv_at hl 0 rfl) ?_
  refine lv_iload_n hx hb dX8_soonest_1 rfl (lv_at hl 1 rfl) ?_
  obtain ⟨r_1, e2, h⟩ := bo_use h
  refine gc_i (va_runV (As := [.int (a1)]) (rest := []) hFx (tX8_areOpinions l dC dI kI kZ ad a1 M  e2) ⟨(gc_B hFx ck_yX8_areOpinions lkM_X8_220 ⟨Nat.le_of_ble_eq_true rfl, Nat.le_of_ble_eq_true rfl⟩ rfl rfl), hg _ vi_yX8_areOpinions, hg _ vs_yX8_areOpinions⟩ (gp_V m_KnB (m_KnW hKn) hP (m_rc8 (c := 0) (by decide) hKn hP)) rfl rfl hl.1 rfl (lv_room (Nat.le_of_ble_eq_true rfl)) dX8_soonest_2 ⟨Nat.zero_le _, Nat.zero_le _⟩) hS (fun H locs hP hS => ?_)
  have hP : va_P (dC, dI) vwCl (m_w kI kZ ad M.1 M.2) H := hP
  refine lv_if_eq (tgt := 16) hx hb dX8_soonest_5 (by decide) (fun c_2 => ?_) (fun c_2 => ?_)
  · have h := ife_t c_2 h
    refine lv_ldc hx hb hown (hg _ kc_X8_143) dX8_soonest_16 ?_
    exact W.iret (v := (-1000000001)) hx hb hr (fun t ht hW => ⟨⟨(-1000000001), M, rfl, Prod.mk.inj (Option.some.inj h), by rw [ht]; exact hP, m_KnW hKn t hW⟩, hS.F ht⟩) hS.2.2 dX8_soonest_18
  · have h := ife_f c_2 h
    refine lv_aload_n hx hb dX8_soonest_8 rfl (lv_at hl 0 rfl) ?_
    refine lv_iload_n hx hb dX8_soonest_9 rfl (lv_at hl 2 rfl) ?_
    obtain ⟨r_3, e10, h⟩ := bo_use h
    refine gc_i (va_runV (As := [.int (a2)]) (rest := []) hFx (tX8_areOpinions l dC dI kI kZ ad a2 M  e10) ⟨(gc_B hFx ck_yX8_areOpinions lkM_X8_220 ⟨Nat.le_of_ble_eq_true rfl, Nat.le_of_ble_eq_true rfl⟩ rfl rfl), hg _ vi_yX8_areOpinions, hg _ vs_yX8_areOpinions⟩ (gp_V m_KnB (m_KnW hKn) hP (m_rc8 (c := 0) (by decide) hKn hP)) rfl rfl hl.1 rfl (lv_room (Nat.le_of_ble_eq_true rfl)) dX8_soonest_10 ⟨Nat.zero_le _, Nat.zero_le _⟩) hS (fun H locs hP hS => ?_)
    have hP : va_P (dC, dI) vwCl (m_w kI kZ ad M.1 M.2) H := hP
    refine lv_if_ne (tgt := 19) hx hb dX8_soonest_13 (by decide) (fun c_4 => ?_) (fun c_4 => ?_)
    · have h := ife_f c_4 h
      refine lv_aload_n hx hb dX8_soonest_19 rfl (lv_at hl 0 rfl) ?_
      refine lv_iload_n hx hb dX8_soonest_20 rfl (lv_at hl 1 rfl) ?_
      refine lv_iload_n hx hb dX8_soonest_21 rfl (lv_at hl 2 rfl) ?_
      obtain ⟨r_5, M_6, e22, h⟩ := bd_use h
      refine gc_i (va_runV (As := [.int (a1), .int (a2)]) (rest := []) hFx (tX8_layNights l dC dI kI kZ ad a1 a2 M  e22) ⟨(gc_B hFx ck_yX8_layNights lkM_X8_223 ⟨Nat.le_of_ble_eq_true rfl, Nat.le_of_ble_eq_true rfl⟩ rfl rfl), hg _ vi_yX8_layNights, hg _ vs_yX8_layNights⟩ (gp_V m_KnB (m_KnW hKn) hP (m_rc8 (c := 0) (by decide) hKn hP)) rfl rfl hl.1 rfl (lv_room (Nat.le_of_ble_eq_true rfl)) dX8_soonest_22 ⟨Nat.zero_le _, Nat.zero_le _⟩) hS (fun H locs hP hS => ?_)
      have hP : va_P (dC, dI) vwCl (m_w kI kZ ad M_6.1 M_6.2) H := hP
      refine lv_istore (lv' := [(4, .int (r_5)), (0, .ref (ad (0))), (1, .int (a1)), (2, .int (a2)), (3, .int (a3))]) hx hb dX8_soonest_25 hl (Nat.le_of_ble_eq_true rfl) rfl (fun ls hl => ?_)
      refine lv_iload hx hb dX8_soonest_27 (lv_at hl 0 rfl) ?_
      refine lv_ldc hx hb hown (hg _ kc_X8_219) dX8_soonest_29 ?_
      refine lv_icmp_ne (tgt := 36) hx hb dX8_soonest_31 (by decide) (fun c_7 => ?_) (fun c_7 => ?_)
      · have h := ife_f c_7 h
        refine lv_iload_n hx hb dX8_soonest_36 rfl (lv_at hl 4 rfl) ?_
        refine lv_iconst (v := -1) hx hb dX8_soonest_37 (by decide) ?_
        refine lv_icmp_ne (tgt := 46) hx hb dX8_soonest_38 (by decide) (fun c_8 => ?_) (fun c_8 => ?_)
        · have h := ife_f c_8 h
          refine lv_iload_n hx hb dX8_soonest_46 rfl (lv_at hl 4 rfl) ?_
          refine lv_i2l (v := ((a3).toInt64)) hx hb dX8_soonest_47 rfl ?_
          refine lv_lconst (v := 0) hx hb dX8_soonest_48 (by decide) ?_
          refine lv_iload hx hb dX8_soonest_49 (lv_at hl 0 rfl) ?_
          refine lv_iconst (v := 1) hx hb dX8_soonest_51 (by decide) ?_
          refine lv_isub hx hb dX8_soonest_52 ?_
          refine lv_i2l (v := (((r_5 - 1)).toInt64)) hx hb dX8_soonest_53 rfl ?_
          obtain ⟨r_9, e54, h⟩ := bo_use h
          refine gc_i (va_runS (As := [.long (((a3).toInt64)), .long (0), .long ((((r_5 - 1)).toInt64))]) (rest := []) hFx (tX8_in l dC dI kI kZ ad ((a3).toInt64) 0 (((r_5 - 1)).toInt64) M_6  e54) ⟨(gc_B hFx ck_yX8_in lkM_X8_74 ⟨Nat.le_of_ble_eq_true rfl, Nat.le_of_ble_eq_true rfl⟩ rfl rfl), hg _ st_yX8_in⟩ (gp_S m_KnB (m_KnW hKn) hP) rfl rfl hl.1 rfl (lv_room (Nat.le_of_ble_eq_true rfl)) dX8_soonest_54 ⟨Nat.zero_le _, Nat.zero_le _⟩) hS (fun H locs hP hS => ?_)
          have hP : va_P (dC, dI) vwCl (m_w kI kZ ad M_6.1 M_6.2) H := hP
          refine lv_if_ne (tgt := 64) hx hb dX8_soonest_57 (by decide) (fun c_10 => ?_) (fun c_10 => ?_)
          · have h := ife_f c_10 h
            refine lv_iload_n hx hb dX8_soonest_64 rfl (lv_at hl 4 rfl) ?_
            refine lv_if_ne (tgt := 75) hx hb dX8_soonest_65 (by decide) (fun c_11 => ?_) (fun c_11 => ?_)
            · have h := ife_f c_11 h
              refine lv_aload_n hx hb dX8_soonest_75 rfl (lv_at hl 1 rfl) ?_
              refine va_get (D := (dC, dI)) (ci := 8) (v := .int ((M_6.1 0 24))) (C := RX8) (T := TX8) (N := 29) hx hb hg inX8 hown hKn.1 hP (0) (m_at8 (c := 0) (by decide)) rfl 24 (Nat.le_of_ble_eq_true rfl) (hg _ lkF_X8_216) (fun _ h9 => h9) rfl dX8_soonest_76 ?_
              exact W.iret (v := (M_6.1 0 24)) hx hb hr (fun t ht hW => ⟨⟨(M_6.1 0 24), M_6, rfl, Prod.mk.inj (Option.some.inj h), by rw [ht]; exact hP, m_KnW hKn t hW⟩, hS.F ht⟩) hS.2.2 dX8_soonest_79
            · have h := ife_t c_11 h
              refine lv_aload_n hx hb dX8_soonest_68 rfl (lv_at hl 1 rfl) ?_
              refine va_get (D := (dC, dI)) (ci := 8) (v := .int ((M_6.1 0 23))) (C := RX8) (T := TX8) (N := 29) hx hb hg inX8 hown hKn.1 hP (0) (m_at8 (c := 0) (by decide)) rfl 23 (Nat.le_of_ble_eq_true rfl) (hg _ lkF_X8_213) (fun _ h9 => h9) rfl dX8_soonest_69 ?_
              refine lv_goto (tgt := 79) hx hb dX8_soonest_72 (by decide) ?_
              exact W.iret (v := (M_6.1 0 23)) hx hb hr (fun t ht hW => ⟨⟨(M_6.1 0 23), M_6, rfl, Prod.mk.inj (Option.some.inj h), by rw [ht]; exact hP, m_KnW hKn t hW⟩, hS.F ht⟩) hS.2.2 dX8_soonest_79
          · have h := ife_t c_10 h
            refine lv_iconst (v := -1) hx hb dX8_soonest_60 (by decide) ?_
            refine lv_goto (tgt := 79) hx hb dX8_soonest_61 (by decide) ?_
            exact W.iret (v := (-1)) hx hb hr (fun t ht hW => ⟨⟨(-1), M_6, rfl, Prod.mk.inj (Option.some.inj h), by rw [ht]; exact hP, m_KnW hKn t hW⟩, hS.F ht⟩) hS.2.2 dX8_soonest_79
        · have h := ife_t c_8 h
          refine lv_iload hx hb dX8_soonest_41 (lv_at hl 0 rfl) ?_
          refine lv_goto (tgt := 79) hx hb dX8_soonest_43 (by decide) ?_
          exact W.iret (v := r_5) hx hb hr (fun t ht hW => ⟨⟨r_5, M_6, rfl, Prod.mk.inj (Option.some.inj h), by rw [ht]; exact hP, m_KnW hKn t hW⟩, hS.F ht⟩) hS.2.2 dX8_soonest_79
      · have h := ife_t c_7 h
        refine lv_iconst (v := -1) hx hb dX8_soonest_34 (by decide) ?_
        exact W.iret (v := (-1)) hx hb hr (fun t ht hW => ⟨⟨(-1), M_6, rfl, Prod.mk.inj (Option.some.inj h), by rw [ht]; exact hP, m_KnW hKn t hW⟩, hS.F ht⟩) hS.2.2 dX8_soonest_35
    · have h := ife_t c_4 h
      refine lv_ldc hx hb hown (hg _ kc_X8_143) dX8_soonest_16 ?_
      exact W.iret (v := (-1000000001)) hx hb hr (fun t ht hW => ⟨⟨(-1000000001), M, rfl, Prod.mk.inj (Option.some.inj h), by rw [ht]; exact hP, m_KnW hKn t hW⟩, hS.F ht⟩) hS.2.2 dX8_soonest_18
noncomputable def FX8_strengths_L67 (b1 : Int32) (b2 : Int32) (b3 : Int32) (b4 : Int32) (K : MM → Option (Int32 × MM)) (k : Nat) (v5_18 : Int32) (M_19 : MM) : Option (Int32 × MM) := match k with
  | 0 => none
  | k + 1 => (if (M_19.1 1 2) ≤ v5_18 then K M_19 else bo (FX8_has b2 v5_18) (fun (r_21 : Int32) => jn (α := MM → Option (Int32 × MM)) (fun (M_22 : MM) => FX8_strengths_L67 b1 b2 b3 b4 K k (v5_18 + 1) M_22) (fun J119 => (if r_21 = 0 then J119 M_19 else jn (α := Int32 → Option (Int32 × MM)) (fun (s_24 : Int32) => bd (FX8_reads 10 v5_18 s_24 M_19) (fun (r_25 : Int32) (M_26 : MM) => J119 M_26)) (fun J114 => (if v5_18 = b1 then J114 (b4 - 9) else bo (FX8_byOf v5_18 M_19) (fun (r_28 : Int32) => J114 r_28)))))))
noncomputable def FX8_strengths_L42 (b1 : Int32) (b2 : Int32) (K : Int32 → MM → Option (Int32 × MM)) (k : Nat) (v3_9 : Int32) (v4_10 : Int32) (M_11 : MM) : Option (Int32 × MM) := match k with
  | 0 => none
  | k + 1 => (if 19 ≤ v4_10 then K v3_9 M_11 else bo (FX8_copies 3 0 10 0 17 M_11) (fun (M_13 : MM) => FX8_strengths_L67 b1 b2 v3_9 v4_10 (fun (M_14 : MM) => bo (FX8_isThought  M_14) (fun (r_15 : Int32) => jn (α := Int32 → Option (Int32 × MM)) (fun (s_16 : Int32) => FX8_strengths_L42 b1 b2 K k (v3_9 ||| s_16) (v4_10 + 1) M_14) (fun J141 => (if r_15 = 0 then J141 0 else J141 (1 <<< (v4_10 &&& 31)))))) fuelN 0 M_13))
noncomputable def FX8_strengths (a1 : Int32) (a2 : Int32) (M : MM) : Option (Int32 × MM) :=
  bo (FX8_isFact a1 M) (fun (r_1 : Int32) => (if r_1 = 0 then some ((-1000000001), M) else bo (FX8_areFacts a2 M) (fun (r_3 : Int32) => (if r_3 = 0 then some ((-1000000001), M) else bo (FX8_maySheet a2 (M.1 3 13) M) (fun (r_5 : Int32) => (if r_5 = 0 then some ((-1000000003), M) else FX8_strengths_L42 a1 a2 (fun (k3_7 : Int32) (M_8 : MM) => some (k3_7, M_8)) fuelN 0 0 M))))))
set_option maxHeartbeats 4000000 in
set_option maxRecDepth 100000 in
theorem tX8_strengths (l : Launch) (dC : Nat → ClassId) (dI : Nat → Nat → Nat) (kI kZ : ClassId) (ad : Nat → Nat) (a1 : Int32) (a2 : Int32) (M : MM)  {r0 : Int32} {M0 : MM} (h : FX8_strengths a1 a2 M = some (r0, M0)) : Met l yX8_strengths (wsA yX8_strengths cX8_strengths 7 (some .int)) ({ frames := 2, cells := 0, slots := 0, locals := 46 } : Room) (va_Pc [.ref (ad (0)), .int (a1), .int (a2)] (gI (m_Wd dC dI kI kZ ad) (m_Kn dC dI kI kZ ad) M)) (va_Qi (fun (r : Int32) (u : MM) => r = r0 ∧ u = M0) (gI (m_Wd dC dI kI kZ ad) (m_Kn dC dI kI kZ ad)) (m_A ad)) 0 0 (m_A ad) := by
  refine Met.ofW (cc := cX8_strengths) (maxL := 7) (ret := (some .int)) (by decide) rfl ?_
  intro p e s m args below meth c s₁ B hml hv
  obtain ⟨rfl, hP, hKn⟩ := hv
  have hx := B.exec
  have hb := B.bytes
  have hr := B.returns
  have hts := atoms_spec (ws := wsA yX8_strengths cX8_strengths 7 (some .int)) B.pre
  have hg : ∀ w ∈ lw_good, w.before _ s = true := fun w h => hts w (List.mem_cons_of_mem _ h)
  have hown : s.vm.findClass RX8 = some m.cls := findClass_of_methodNamed B.named
  have hlocks := B.notSynchronized
  have hS : va_S (m_A ad) s.heap s.heap [] := va_S.rf
  have hFx : gFix p c cX8_strengths 7 s m _ RX8 := ⟨hx, hb, hml, hown, hg⟩
  have hP : va_P (dC, dI) vwCl (m_w kI kZ ad M.1 M.2) s.heap := hP
  have hl := lv_entry ([.ref (ad (0)), .int (a1), .int (a2)]) (n := 7) (Nat.le_of_ble_eq_true rfl)
  rw [lg_entry_eq]
  generalize (lg_sl ([.ref (ad (0)), .int (a1), .int (a2)]) ++ List.replicate (7 - (lg_sl ([.ref (ad (0)), .int (a1), .int (a2)])).length) Slot.unset).toArray = ls at hl ⊢
  have hl : lv_has ls 7 [(0, .ref (ad (0))), (1, .int (a1)), (2, .int (a2))] := hl
  unfold FX8_strengths at h
  refine lv_aload_n hx hb dX8_strengths_0 rfl (lv_at hl 0 rfl) ?_
  refine lv_iload_n hx hb dX8_strengths_1 rfl (lv_at hl 1 rfl) ?_
  obtain ⟨r_1, e2, h⟩ := bo_use h
  refine gc_i (va_runV (As := [.int (a1)]) (rest := []) hFx (tX8_isFact l dC dI kI kZ ad a1 M  e2) ⟨(gc_B hFx ck_yX8_isFact lkM_X8_144 ⟨Nat.le_of_ble_eq_true rfl, Nat.le_of_ble_eq_true rfl⟩ rfl rfl), hg _ vi_yX8_isFact, hg _ vs_yX8_isFact⟩ (gp_V m_KnB (m_KnW hKn) hP (m_rc8 (c := 0) (by decide) hKn hP)) rfl rfl hl.1 rfl (lv_room (Nat.le_of_ble_eq_true rfl)) dX8_strengths_2 ⟨Nat.zero_le _, Nat.zero_le _⟩) hS (fun H locs hP hS => ?_)
  have hP : va_P (dC, dI) vwCl (m_w kI kZ ad M.1 M.2) H := hP
  refine lv_if_eq (tgt := 16) hx hb dX8_strengths_5 (by decide) (fun c_2 => ?_) (fun c_2 => ?_)
  · have h := ife_t c_2 h
    refine lv_ldc hx hb hown (hg _ kc_X8_143) dX8_strengths_16 ?_
    exact W.iret (v := (-1000000001)) hx hb hr (fun t ht hW => ⟨⟨(-1000000001), M, rfl, Prod.mk.inj (Option.some.inj h), by rw [ht]; exact hP, m_KnW hKn t hW⟩, hS.F ht⟩) hS.2.2 dX8_strengths_18
  · have h := ife_f c_2 h
    refine lv_aload_n hx hb dX8_strengths_8 rfl (lv_at hl 0 rfl) ?_
    refine lv_iload_n hx hb dX8_strengths_9 rfl (lv_at hl 2 rfl) ?_
    obtain ⟨r_3, e10, h⟩ := bo_use h
    refine gc_i (va_runV (As := [.int (a2)]) (rest := []) hFx (tX8_areFacts l dC dI kI kZ ad a2 M  e10) ⟨(gc_B hFx ck_yX8_areFacts lkM_X8_173 ⟨Nat.le_of_ble_eq_true rfl, Nat.le_of_ble_eq_true rfl⟩ rfl rfl), hg _ vi_yX8_areFacts, hg _ vs_yX8_areFacts⟩ (gp_V m_KnB (m_KnW hKn) hP (m_rc8 (c := 0) (by decide) hKn hP)) rfl rfl hl.1 rfl (lv_room (Nat.le_of_ble_eq_true rfl)) dX8_strengths_10 ⟨Nat.zero_le _, Nat.zero_le _⟩) hS (fun H locs hP hS => ?_)
    have hP : va_P (dC, dI) vwCl (m_w kI kZ ad M.1 M.2) H := hP
    refine lv_if_ne (tgt := 19) hx hb dX8_strengths_13 (by decide) (fun c_4 => ?_) (fun c_4 => ?_)
    · have h := ife_f c_4 h
      refine lv_aload_n hx hb dX8_strengths_19 rfl (lv_at hl 0 rfl) ?_
      refine lv_iload_n hx hb dX8_strengths_20 rfl (lv_at hl 2 rfl) ?_
      refine lv_aload_n hx hb dX8_strengths_21 rfl (lv_at hl 0 rfl) ?_
      refine va_get (D := (dC, dI)) (ci := 8) (v := .ref (ad (3))) (C := RX8) (T := TX8) (N := 29) hx hb hg inX8 hown hKn.1 hP (0) (m_at8 (c := 0) (by decide)) rfl 2 (Nat.le_of_ble_eq_true rfl) (hg _ lkF_X8_16) (fun _ h9 => h9) rfl dX8_strengths_22 ?_
      refine lv_bipush (v := 13) hx hb dX8_strengths_25 (by decide) ?_
      refine m_iald (M := M) (a := 3) hx hb hKn hP (by decide) (j := 13) (by decide) (by decide) dX8_strengths_27 ?_
      obtain ⟨r_5, e28, h⟩ := bo_use h
      refine gc_i (va_runV (As := [.int (a2), .int ((M.1 3 13))]) (rest := []) hFx (tX8_maySheet l dC dI kI kZ ad a2 (M.1 3 13) M  e28) ⟨(gc_B hFx ck_yX8_maySheet lkM_X8_176 ⟨Nat.le_of_ble_eq_true rfl, Nat.le_of_ble_eq_true rfl⟩ rfl rfl), hg _ vi_yX8_maySheet, hg _ vs_yX8_maySheet⟩ (gp_V m_KnB (m_KnW hKn) hP (m_rc8 (c := 0) (by decide) hKn hP)) rfl rfl hl.1 rfl (lv_room (Nat.le_of_ble_eq_true rfl)) dX8_strengths_28 ⟨Nat.zero_le _, Nat.zero_le _⟩) hS (fun H locs hP hS => ?_)
      have hP : va_P (dC, dI) vwCl (m_w kI kZ ad M.1 M.2) H := hP
      refine lv_if_ne (tgt := 37) hx hb dX8_strengths_31 (by decide) (fun c_6 => ?_) (fun c_6 => ?_)
      · have h := ife_f c_6 h
        refine lv_iconst (v := 0) hx hb dX8_strengths_37 (by decide) ?_
        refine lv_istore_n (lv' := [(3, .int (0)), (0, .ref (ad (0))), (1, .int (a1)), (2, .int (a2))]) hx hb dX8_strengths_38 rfl hl (Nat.le_of_ble_eq_true rfl) rfl (fun ls hl => ?_)
        refine lv_iconst (v := 0) hx hb dX8_strengths_39 (by decide) ?_
        refine lv_istore (lv' := [(4, .int (0)), (3, .int (0)), (0, .ref (ad (0))), (1, .int (a1)), (2, .int (a2))]) hx hb dX8_strengths_40 hl (Nat.le_of_ble_eq_true rfl) rfl (fun ls hl => ?_)
        obtain ⟨K42, eK42, h⟩ := exK (Lp := fun K => FX8_strengths_L42 a1 a2 K fuelN 0 0 M) h
        have hK42 : ∀ (k3_7 : Int32) (M_8 : MM) (H : Heap) (locs : List Loc) (ls : Array Slot), va_P (dC, dI) vwCl (m_w kI kZ ad M_8.1 M_8.2) H → va_S (m_A ad) s.heap H locs → lv_has ls 7 [(3, .int (k3_7))] → K42 k3_7 M_8 = some (r0, M0) → W p l e (headSpec (wsA yX8_strengths cX8_strengths 7 (some .int)) ({ frames := 2, cells := 0, slots := 0, locals := 46 } : Room)).room s m (([.ref (ad (0)), .int (a1), .int (a2)] : List Value).toArray) below meth c H locs 0 0 (MQ below (va_Qi (fun (r : Int32) (u : MM) => r = r0 ∧ u = M0) (gI (m_Wd dC dI kI kZ ad) (m_Kn dC dI kI kZ ad)) (m_A ad)) (([.ref (ad (0)), .int (a1), .int (a2)] : List Value).toArray) s 0 0 (m_A ad)) (F0 m 149 ls []) := by
          intro k3_7 M_8 H locs ls hP hS hl h
          have h := useK2 eK42 h
          refine lv_iload_n hx hb dX8_strengths_149 rfl (lv_at hl 0 rfl) ?_
          exact W.iret (v := k3_7) hx hb hr (fun t ht hW => ⟨⟨k3_7, M_8, rfl, Prod.mk.inj (Option.some.inj h), by rw [ht]; exact hP, m_KnW hKn t hW⟩, hS.F ht⟩) hS.2.2 dX8_strengths_150
        have hL42 : ∀ (k : Nat) (v3_9 : Int32) (v4_10 : Int32) (M_11 : MM) (H : Heap) (locs : List Loc) (ls : Array Slot), va_P (dC, dI) vwCl (m_w kI kZ ad M_11.1 M_11.2) H → va_S (m_A ad) s.heap H locs → lv_has ls 7 [(0, .ref (ad (0))), (1, .int (a1)), (2, .int (a2)), (3, .int (v3_9)), (4, .int (v4_10))] → FX8_strengths_L42 a1 a2 K42 k v3_9 v4_10 M_11 = some (r0, M0) → W p l e (headSpec (wsA yX8_strengths cX8_strengths 7 (some .int)) ({ frames := 2, cells := 0, slots := 0, locals := 46 } : Room)).room s m (([.ref (ad (0)), .int (a1), .int (a2)] : List Value).toArray) below meth c H locs 0 0 (MQ below (va_Qi (fun (r : Int32) (u : MM) => r = r0 ∧ u = M0) (gI (m_Wd dC dI kI kZ ad) (m_Kn dC dI kI kZ ad)) (m_A ad)) (([.ref (ad (0)), .int (a1), .int (a2)] : List Value).toArray) s 0 0 (m_A ad)) (F0 m 42 ls []) := by
          intro k
          induction k with
          | zero => intro v3_9 v4_10 M_11 H locs ls hP hS hl h; cases h
          | succ k ih42 =>
            intro v3_9 v4_10 M_11 H locs ls hP hS hl h
            unfold FX8_strengths_L42 at h
            refine lv_iload hx hb dX8_strengths_42 (lv_at hl 4 rfl) ?_
            refine lv_bipush (v := 19) hx hb dX8_strengths_44 (by decide) ?_
            refine lv_icmp_ge (tgt := 149) hx hb dX8_strengths_46 (by decide) (fun c_12 => ?_) (fun c_12 => ?_)
            · have h := ife_t c_12 h
              exact hK42 v3_9 M_11 _ _ _ hP hS (lv_sub hl [3] rfl) h
            · have h := ife_f c_12 h
              refine lv_aload_n hx hb dX8_strengths_49 rfl (lv_at hl 0 rfl) ?_
              refine va_get (D := (dC, dI)) (ci := 8) (v := .ref (ad (3))) (C := RX8) (T := TX8) (N := 29) hx hb hg inX8 hown hKn.1 hP (0) (m_at8 (c := 0) (by decide)) rfl 2 (Nat.le_of_ble_eq_true rfl) (hg _ lkF_X8_16) (fun _ h9 => h9) rfl dX8_strengths_50 ?_
              refine lv_iconst (v := 0) hx hb dX8_strengths_53 (by decide) ?_
              refine lv_aload_n hx hb dX8_strengths_54 rfl (lv_at hl 0 rfl) ?_
              refine va_get (D := (dC, dI)) (ci := 8) (v := .ref (ad (10))) (C := RX8) (T := TX8) (N := 29) hx hb hg inX8 hown hKn.1 hP (0) (m_at8 (c := 0) (by decide)) rfl 21 (Nat.le_of_ble_eq_true rfl) (hg _ lkF_X8_42) (fun _ h9 => h9) rfl dX8_strengths_55 ?_
              refine lv_iconst (v := 0) hx hb dX8_strengths_58 (by decide) ?_
              refine lv_bipush (v := 17) hx hb dX8_strengths_59 (by decide) ?_
              obtain ⟨M_13, e61, h⟩ := bo_use h
              refine gc_v (va_runS (As := [.ref (ad (3)), .int (0), .ref (ad (10)), .int (0), .int (17)]) (rest := []) hFx (tX8_copies l dC dI kI kZ ad 3 0 10 0 17 M_11 (by decide) (by decide) e61) ⟨(gc_B hFx ck_yX8_copies lkM_X8_165 ⟨Nat.le_of_ble_eq_true rfl, Nat.le_of_ble_eq_true rfl⟩ rfl rfl), hg _ st_yX8_copies⟩ (gp_S m_KnB (m_KnW hKn) hP) rfl rfl hl.1 rfl (lv_room (Nat.le_of_ble_eq_true rfl)) dX8_strengths_61 ⟨Nat.zero_le _, Nat.zero_le _⟩) hS (fun H locs hP hS => ?_)
              have hP : va_P (dC, dI) vwCl (m_w kI kZ ad M_13.1 M_13.2) H := hP
              refine lv_iconst (v := 0) hx hb dX8_strengths_64 (by decide) ?_
              refine lv_istore (lv' := [(5, .int (0)), (0, .ref (ad (0))), (1, .int (a1)), (2, .int (a2)), (3, .int (v3_9)), (4, .int (v4_10))]) hx hb dX8_strengths_65 hl (Nat.le_of_ble_eq_true rfl) rfl (fun ls hl => ?_)
              obtain ⟨K67, eK67, h⟩ := exK (Lp := fun K42 => FX8_strengths_L67 a1 a2 v3_9 v4_10 K42 fuelN 0 M_13) h
              have hK67 : ∀ (M_14 : MM) (H : Heap) (locs : List Loc) (ls : Array Slot), va_P (dC, dI) vwCl (m_w kI kZ ad M_14.1 M_14.2) H → va_S (m_A ad) s.heap H locs → lv_has ls 7 [(0, .ref (ad (0))), (1, .int (a1)), (2, .int (a2)), (3, .int (v3_9)), (4, .int (v4_10))] → K67 M_14 = some (r0, M0) → W p l e (headSpec (wsA yX8_strengths cX8_strengths 7 (some .int)) ({ frames := 2, cells := 0, slots := 0, locals := 46 } : Room)).room s m (([.ref (ad (0)), .int (a1), .int (a2)] : List Value).toArray) below meth c H locs 0 0 (MQ below (va_Qi (fun (r : Int32) (u : MM) => r = r0 ∧ u = M0) (gI (m_Wd dC dI kI kZ ad) (m_Kn dC dI kI kZ ad)) (m_A ad)) (([.ref (ad (0)), .int (a1), .int (a2)] : List Value).toArray) s 0 0 (m_A ad)) (F0 m 125 ls []) := by
                intro M_14 H locs ls hP hS hl h
                have h := useK1 eK67 h
                refine lv_iload_n hx hb dX8_strengths_125 rfl (lv_at hl 3 rfl) ?_
                refine lv_aload_n hx hb dX8_strengths_126 rfl (lv_at hl 0 rfl) ?_
                obtain ⟨r_15, e127, h⟩ := bo_use h
                refine gc_i (va_runV (As := []) (rest := [.int (v3_9)]) hFx (tX8_isThought l dC dI kI kZ ad  M_14  e127) ⟨(gc_B hFx ck_yX8_isThought lkM_X8_249 ⟨Nat.le_of_ble_eq_true rfl, Nat.le_of_ble_eq_true rfl⟩ rfl rfl), hg _ vi_yX8_isThought, hg _ vs_yX8_isThought⟩ (gp_V m_KnB (m_KnW hKn) hP (m_rc8 (c := 0) (by decide) hKn hP)) rfl rfl hl.1 rfl (lv_room (Nat.le_of_ble_eq_true rfl)) dX8_strengths_127 ⟨Nat.zero_le _, Nat.zero_le _⟩) hS (fun H locs hP hS => ?_)
                have hP : va_P (dC, dI) vwCl (m_w kI kZ ad M_14.1 M_14.2) H := hP
                obtain ⟨J141, eJ141, h⟩ := jn_use h
                have hJ141 : ∀ (s_16 : Int32) (H : Heap) (locs : List Loc) (ls : Array Slot), va_P (dC, dI) vwCl (m_w kI kZ ad M_14.1 M_14.2) H → va_S (m_A ad) s.heap H locs → lv_has ls 7 [(0, .ref (ad (0))), (1, .int (a1)), (2, .int (a2)), (4, .int (v4_10))] → J141 s_16 = some (r0, M0) → W p l e (headSpec (wsA yX8_strengths cX8_strengths 7 (some .int)) ({ frames := 2, cells := 0, slots := 0, locals := 46 } : Room)).room s m (([.ref (ad (0)), .int (a1), .int (a2)] : List Value).toArray) below meth c H locs 0 0 (MQ below (va_Qi (fun (r : Int32) (u : MM) => r = r0 ∧ u = M0) (gI (m_Wd dC dI kI kZ ad) (m_Kn dC dI kI kZ ad)) (m_A ad)) (([.ref (ad (0)), .int (a1), .int (a2)] : List Value).toArray) s 0 0 (m_A ad)) (F0 m 141 ls [.int (s_16), .int (v3_9)]) := by
                  intro s_16 H locs ls hP hS hl h
                  have h := useK1 eJ141 h
                  refine lv_ior hx hb dX8_strengths_141 ?_
                  refine lv_istore_n (lv' := [(3, .int ((v3_9 ||| s_16))), (0, .ref (ad (0))), (1, .int (a1)), (2, .int (a2)), (4, .int (v4_10))]) hx hb dX8_strengths_142 rfl hl (Nat.le_of_ble_eq_true rfl) rfl (fun ls hl => ?_)
                  refine lv_iinc (v := (v4_10 + 1)) (lv' := [(4, .int ((v4_10 + 1))), (3, .int ((v3_9 ||| s_16))), (0, .ref (ad (0))), (1, .int (a1)), (2, .int (a2))]) hx hb dX8_strengths_143 hl (k := 4) rfl rfl (Nat.le_of_ble_eq_true rfl) rfl (fun ls hl => ?_)
                  refine lv_goto (tgt := 42) hx hb dX8_strengths_146 (by decide) ?_
                  exact ih42 (v3_9 ||| s_16) (v4_10 + 1) M_14 _ _ _ hP hS (lv_sub hl [2, 3, 4, 1, 0] rfl) h
                refine lv_if_eq (tgt := 140) hx hb dX8_strengths_130 (by decide) (fun c_17 => ?_) (fun c_17 => ?_)
                · have h := ife_t c_17 h
                  refine lv_iconst (v := 0) hx hb dX8_strengths_140 (by decide) ?_
                  exact hJ141 0 _ _ _ hP hS (lv_sub hl [0, 1, 2, 4] rfl) h
                · have h := ife_f c_17 h
                  refine lv_iconst (v := 1) hx hb dX8_strengths_133 (by decide) ?_
                  refine lv_iload hx hb dX8_strengths_134 (lv_at hl 4 rfl) ?_
                  refine lv_ishl hx hb dX8_strengths_136 ?_
                  refine lv_goto (tgt := 141) hx hb dX8_strengths_137 (by decide) ?_
                  exact hJ141 (1 <<< (v4_10 &&& 31)) _ _ _ hP hS (lv_sub hl [0, 1, 2, 4] rfl) h
              have hL67 : ∀ (k : Nat) (v5_18 : Int32) (M_19 : MM) (H : Heap) (locs : List Loc) (ls : Array Slot), va_P (dC, dI) vwCl (m_w kI kZ ad M_19.1 M_19.2) H → va_S (m_A ad) s.heap H locs → lv_has ls 7 [(0, .ref (ad (0))), (1, .int (a1)), (2, .int (a2)), (3, .int (v3_9)), (4, .int (v4_10)), (5, .int (v5_18))] → FX8_strengths_L67 a1 a2 v3_9 v4_10 K67 k v5_18 M_19 = some (r0, M0) → W p l e (headSpec (wsA yX8_strengths cX8_strengths 7 (some .int)) ({ frames := 2, cells := 0, slots := 0, locals := 46 } : Room)).room s m (([.ref (ad (0)), .int (a1), .int (a2)] : List Value).toArray) below meth c H locs 0 0 (MQ below (va_Qi (fun (r : Int32) (u : MM) => r = r0 ∧ u = M0) (gI (m_Wd dC dI kI kZ ad) (m_Kn dC dI kI kZ ad)) (m_A ad)) (([.ref (ad (0)), .int (a1), .int (a2)] : List Value).toArray) s 0 0 (m_A ad)) (F0 m 67 ls []) := by
                intro k
                induction k with
                | zero => intro v5_18 M_19 H locs ls hP hS hl h; cases h
                | succ k ih67 =>
                  intro v5_18 M_19 H locs ls hP hS hl h
                  unfold FX8_strengths_L67 at h
                  refine lv_iload hx hb dX8_strengths_67 (lv_at hl 5 rfl) ?_
                  refine lv_aload_n hx hb dX8_strengths_69 rfl (lv_at hl 0 rfl) ?_
                  refine va_get (D := (dC, dI)) (ci := 8) (v := .ref (ad (1))) (C := RX8) (T := TX8) (N := 29) hx hb hg inX8 hown hKn.1 hP (0) (m_at8 (c := 0) (by decide)) rfl 0 (Nat.le_of_ble_eq_true rfl) (hg _ lkF_X8_7) (fun _ h9 => h9) rfl dX8_strengths_70 ?_
                  refine lv_iconst (v := 2) hx hb dX8_strengths_73 (by decide) ?_
                  refine m_iald (M := M_19) (a := 1) hx hb hKn hP (by decide) (j := 2) (by decide) (by decide) dX8_strengths_74 ?_
                  refine lv_icmp_ge (tgt := 125) hx hb dX8_strengths_75 (by decide) (fun c_20 => ?_) (fun c_20 => ?_)
                  · have h := ife_t c_20 h
                    exact hK67 M_19 _ _ _ hP hS (lv_sub hl [0, 1, 2, 3, 4] rfl) h
                  · have h := ife_f c_20 h
                    refine lv_iload_n hx hb dX8_strengths_78 rfl (lv_at hl 2 rfl) ?_
                    refine lv_iload hx hb dX8_strengths_79 (lv_at hl 5 rfl) ?_
                    obtain ⟨r_21, e81, h⟩ := bo_use h
                    refine gc_i (va_runS (As := [.int (a2), .int (v5_18)]) (rest := []) hFx (tX8_has l dC dI kI kZ ad a2 v5_18 M_19  e81) ⟨(gc_B hFx ck_yX8_has lkM_X8_147 ⟨Nat.le_of_ble_eq_true rfl, Nat.le_of_ble_eq_true rfl⟩ rfl rfl), hg _ st_yX8_has⟩ (gp_S m_KnB (m_KnW hKn) hP) rfl rfl hl.1 rfl (lv_room (Nat.le_of_ble_eq_true rfl)) dX8_strengths_81 ⟨Nat.zero_le _, Nat.zero_le _⟩) hS (fun H locs hP hS => ?_)
                    have hP : va_P (dC, dI) vwCl (m_w kI kZ ad M_19.1 M_19.2) H := hP
                    obtain ⟨J119, eJ119, h⟩ := jn_use h
                    have hJ119 : ∀ (M_22 : MM) (H : Heap) (locs : List Loc) (ls : Array Slot), va_P (dC, dI) vwCl (m_w kI kZ ad M_22.1 M_22.2) H → va_S (m_A ad) s.heap H locs → lv_has ls 7 [(0, .ref (ad (0))), (1, .int (a1)), (2, .int (a2)), (3, .int (v3_9)), (4, .int (v4_10)), (5, .int (v5_18))] → J119 M_22 = some (r0, M0) → W p l e (headSpec (wsA yX8_strengths cX8_strengths 7 (some .int)) ({ frames := 2, cells := 0, slots := 0, locals := 46 } : Room)).room s m (([.ref (ad (0)), .int (a1), .int (a2)] : List Value).toArray) below meth c H locs 0 0 (MQ below (va_Qi (fun (r : Int32) (u : MM) => r = r0 ∧ u = M0) (gI (m_Wd dC dI kI kZ ad) (m_Kn dC dI kI kZ ad)) (m_A ad)) (([.ref (ad (0)), .int (a1), .int (a2)] : List Value).toArray) s 0 0 (m_A ad)) (F0 m 119 ls []) := by
                      intro M_22 H locs ls hP hS hl h
                      have h := useK1 eJ119 h
                      refine lv_iinc (v := (v5_18 + 1)) (lv' := [(5, .int ((v5_18 + 1))), (0, .ref (ad (0))), (1, .int (a1)), (2, .int (a2)), (3, .int (v3_9)), (4, .int (v4_10))]) hx hb dX8_strengths_119 hl (k := 5) rfl rfl (Nat.le_of_ble_eq_true rfl) rfl (fun ls hl => ?_)
                      refine lv_goto (tgt := 67) hx hb dX8_strengths_122 (by decide) ?_
                      exact ih67 (v5_18 + 1) M_22 _ _ _ hP hS (lv_sub hl [1, 2, 3, 4, 5, 0] rfl) h
                    refine lv_if_eq (tgt := 119) hx hb dX8_strengths_84 (by decide) (fun c_23 => ?_) (fun c_23 => ?_)
                    · have h := ife_t c_23 h
                      exact hJ119 M_19 _ _ _ hP hS (lv_sub hl [0, 1, 2, 3, 4, 5] rfl) h
                    · have h := ife_f c_23 h
                      refine lv_aload_n hx hb dX8_strengths_87 rfl (lv_at hl 0 rfl) ?_
                      refine lv_aload_n hx hb dX8_strengths_88 rfl (lv_at hl 0 rfl) ?_
                      refine va_get (D := (dC, dI)) (ci := 8) (v := .ref (ad (10))) (C := RX8) (T := TX8) (N := 29) hx hb hg inX8 hown hKn.1 hP (0) (m_at8 (c := 0) (by decide)) rfl 21 (Nat.le_of_ble_eq_true rfl) (hg _ lkF_X8_42) (fun _ h9 => h9) rfl dX8_strengths_89 ?_
                      refine lv_iload hx hb dX8_strengths_92 (lv_at hl 5 rfl) ?_
                      refine lv_iload hx hb dX8_strengths_94 (lv_at hl 5 rfl) ?_
                      refine lv_iload_n hx hb dX8_strengths_96 rfl (lv_at hl 1 rfl) ?_
                      obtain ⟨J114, eJ114, h⟩ := jn_use h
                      have hJ114 : ∀ (s_24 : Int32) (H : Heap) (locs : List Loc) (ls : Array Slot), va_P (dC, dI) vwCl (m_w kI kZ ad M_19.1 M_19.2) H → va_S (m_A ad) s.heap H locs → lv_has ls 7 [(0, .ref (ad (0))), (1, .int (a1)), (2, .int (a2)), (3, .int (v3_9)), (4, .int (v4_10)), (5, .int (v5_18))] → J114 s_24 = some (r0, M0) → W p l e (headSpec (wsA yX8_strengths cX8_strengths 7 (some .int)) ({ frames := 2, cells := 0, slots := 0, locals := 46 } : Room)).room s m (([.ref (ad (0)), .int (a1), .int (a2)] : List Value).toArray) below meth c H locs 0 0 (MQ below (va_Qi (fun (r : Int32) (u : MM) => r = r0 ∧ u = M0) (gI (m_Wd dC dI kI kZ ad) (m_Kn dC dI kI kZ ad)) (m_A ad)) (([.ref (ad (0)), .int (a1), .int (a2)] : List Value).toArray) s 0 0 (m_A ad)) (F0 m 114 ls [.int (s_24), .int (v5_18), .ref (ad (10)), .ref (ad (0))]) := by
                        intro s_24 H locs ls hP hS hl h
                        have h := useK1 eJ114 h
                        obtain ⟨r_25, M_26, e114, h⟩ := bd_use h
                        refine gc_i (va_runV (As := [.ref (ad (10)), .int (v5_18), .int (s_24)]) (rest := []) hFx (tX8_reads l dC dI kI kZ ad 10 v5_18 s_24 M_19 (by decide) e114) ⟨(gc_B hFx ck_yX8_reads lkM_X8_158 ⟨Nat.le_of_ble_eq_true rfl, Nat.le_of_ble_eq_true rfl⟩ rfl rfl), hg _ vi_yX8_reads, hg _ vs_yX8_reads⟩ (gp_V m_KnB (m_KnW hKn) hP (m_rc8 (c := 0) (by decide) hKn hP)) rfl rfl hl.1 rfl (lv_room (Nat.le_of_ble_eq_true rfl)) dX8_strengths_114 ⟨Nat.zero_le _, Nat.zero_le _⟩) hS (fun H locs hP hS => ?_)
                        have hP : va_P (dC, dI) vwCl (m_w kI kZ ad M_26.1 M_26.2) H := hP
                        refine lv_istore (lv' := [(6, .int (r_25)), (0, .ref (ad (0))), (1, .int (a1)), (2, .int (a2)), (3, .int (v3_9)), (4, .int (v4_10)), (5, .int (v5_18))]) hx hb dX8_strengths_117 hl (Nat.le_of_ble_eq_true rfl) rfl (fun ls hl => ?_)
                        exact hJ119 M_26 _ _ _ hP hS (lv_sub hl [1, 2, 3, 4, 5, 6] rfl) h
                      refine lv_icmp_ne (tgt := 108) hx hb dX8_strengths_97 (by decide) (fun c_27 => ?_) (fun c_27 => ?_)
                      · have h := ife_f c_27 h
                        refine lv_aload_n hx hb dX8_strengths_108 rfl (lv_at hl 0 rfl) ?_
                        refine lv_iload hx hb dX8_strengths_109 (lv_at hl 5 rfl) ?_
                        obtain ⟨r_28, e111, h⟩ := bo_use h
                        refine gc_i (va_runV (As := [.int (v5_18)]) (rest := [.int (v5_18), .ref (ad (10)), .ref (ad (0))]) hFx (tX8_byOf l dC dI kI kZ ad v5_18 M_19  e111) ⟨(gc_B hFx ck_yX8_byOf lkM_X8_155 ⟨Nat.le_of_ble_eq_true rfl, Nat.le_of_ble_eq_true rfl⟩ rfl rfl), hg _ vi_yX8_byOf, hg _ vs_yX8_byOf⟩ (gp_V m_KnB (m_KnW hKn) hP (m_rc8 (c := 0) (by decide) hKn hP)) rfl rfl hl.1 rfl (lv_room (Nat.le_of_ble_eq_true rfl)) dX8_strengths_111 ⟨Nat.zero_le _, Nat.zero_le _⟩) hS (fun H locs hP hS => ?_)
                        have hP : va_P (dC, dI) vwCl (m_w kI kZ ad M_19.1 M_19.2) H := hP
                        exact hJ114 r_28 _ _ _ hP hS (lv_sub hl [0, 1, 2, 3, 4, 5] rfl) h
                      · have h := ife_t c_27 h
                        refine lv_iload hx hb dX8_strengths_100 (lv_at hl 4 rfl) ?_
                        refine lv_bipush (v := 9) hx hb dX8_strengths_102 (by decide) ?_
                        refine lv_isub hx hb dX8_strengths_104 ?_
                        refine lv_goto (tgt := 114) hx hb dX8_strengths_105 (by decide) ?_
                        exact hJ114 (v4_10 - 9) _ _ _ hP hS (lv_sub hl [0, 1, 2, 3, 4, 5] rfl) h
              exact hL67 fuelN 0 M_13 _ _ _ hP hS (lv_sub hl [1, 2, 3, 4, 5, 0] rfl) h
        exact hL42 fuelN 0 0 M _ _ _ hP hS (lv_sub hl [2, 3, 4, 1, 0] rfl) h
      · have h := ife_t c_6 h
        refine lv_ldc hx hb hown (hg _ kc_X8_179) dX8_strengths_34 ?_
        exact W.iret (v := (-1000000003)) hx hb hr (fun t ht hW => ⟨⟨(-1000000003), M, rfl, Prod.mk.inj (Option.some.inj h), by rw [ht]; exact hP, m_KnW hKn t hW⟩, hS.F ht⟩) hS.2.2 dX8_strengths_36
    · have h := ife_t c_4 h
      refine lv_ldc hx hb hown (hg _ kc_X8_143) dX8_strengths_16 ?_
      exact W.iret (v := (-1000000001)) hx hb hr (fun t ht hW => ⟨⟨(-1000000001), M, rfl, Prod.mk.inj (Option.some.inj h), by rw [ht]; exact hP, m_KnW hKn t hW⟩, hS.F ht⟩) hS.2.2 dX8_strengths_18
noncomputable def FX8_tear  (M : MM) : Option (Int32 × MM) :=
  some (((M.1 0 12) + (M.1 0 14)), um (um M 0 12 0) 0 14 0)
set_option maxHeartbeats 4000000 in
set_option maxRecDepth 100000 in
theorem tX8_tear (l : Launch) (dC : Nat → ClassId) (dI : Nat → Nat → Nat) (kI kZ : ClassId) (ad : Nat → Nat)  (M : MM)  {r0 : Int32} {M0 : MM} (h : FX8_tear  M = some (r0, M0)) : Met l yX8_tear (wsA yX8_tear cX8_tear 2 (some .int)) ({ frames := 0, cells := 0, slots := 0, locals := 0 } : Room) (va_Pc [.ref (ad (0))] (gI (m_Wd dC dI kI kZ ad) (m_Kn dC dI kI kZ ad) M)) (va_Qi (fun (r : Int32) (u : MM) => r = r0 ∧ u = M0) (gI (m_Wd dC dI kI kZ ad) (m_Kn dC dI kI kZ ad)) (m_A ad)) 0 0 (m_A ad) := by
  refine Met.ofW (cc := cX8_tear) (maxL := 2) (ret := (some .int)) (by decide) rfl ?_
  intro p e s m args below meth c s₁ B hml hv
  obtain ⟨rfl, hP, hKn⟩ := hv
  have hx := B.exec
  have hb := B.bytes
  have hr := B.returns
  have hts := atoms_spec (ws := wsA yX8_tear cX8_tear 2 (some .int)) B.pre
  have hg : ∀ w ∈ lw_good, w.before _ s = true := fun w h => hts w (List.mem_cons_of_mem _ h)
  have hown : s.vm.findClass RX8 = some m.cls := findClass_of_methodNamed B.named
  have hlocks := B.notSynchronized
  have hS : va_S (m_A ad) s.heap s.heap [] := va_S.rf
  have hFx : gFix p c cX8_tear 2 s m _ RX8 := ⟨hx, hb, hml, hown, hg⟩
  have hP : va_P (dC, dI) vwCl (m_w kI kZ ad M.1 M.2) s.heap := hP
  have hl := lv_entry ([.ref (ad (0))]) (n := 2) (Nat.le_of_ble_eq_true rfl)
  rw [lg_entry_eq]
  generalize (lg_sl ([.ref (ad (0))]) ++ List.replicate (2 - (lg_sl ([.ref (ad (0))])).length) Slot.unset).toArray = ls at hl ⊢
  have hl : lv_has ls 2 [(0, .ref (ad (0)))] := hl
  unfold FX8_tear at h
  refine lv_aload_n hx hb dX8_tear_0 rfl (lv_at hl 0 rfl) ?_
  refine va_get (D := (dC, dI)) (ci := 8) (v := .int ((M.1 0 12))) (C := RX8) (T := TX8) (N := 29) hx hb hg inX8 hown hKn.1 hP (0) (m_at8 (c := 0) (by decide)) rfl 12 (Nat.le_of_ble_eq_true rfl) (hg _ lkF_X8_66) (fun _ h9 => h9) rfl dX8_tear_1 ?_
  refine lv_aload_n hx hb dX8_tear_4 rfl (lv_at hl 0 rfl) ?_
  refine va_get (D := (dC, dI)) (ci := 8) (v := .int ((M.1 0 14))) (C := RX8) (T := TX8) (N := 29) hx hb hg inX8 hown hKn.1 hP (0) (m_at8 (c := 0) (by decide)) rfl 14 (Nat.le_of_ble_eq_true rfl) (hg _ lkF_X8_69) (fun _ h9 => h9) rfl dX8_tear_5 ?_
  refine lv_iadd hx hb dX8_tear_8 ?_
  refine lv_istore_n (lv' := [(1, .int (((M.1 0 12) + (M.1 0 14)))), (0, .ref (ad (0)))]) hx hb dX8_tear_9 rfl hl (Nat.le_of_ble_eq_true rfl) rfl (fun ls hl => ?_)
  refine lv_aload_n hx hb dX8_tear_10 rfl (lv_at hl 1 rfl) ?_
  refine lv_iconst (v := 0) hx hb dX8_tear_11 (by decide) ?_
  refine va_put (D := (dC, dI)) (ci := 8) (v := .int (0)) (ty := .int) (C := RX8) (T := TX8) (N := 29) hx hb hg inX8 tyX8 tyX8_ok nmX8 hown hKn.1 hP (m_D hKn.2.1) hS (0) (m_at8 (c := 0) (by decide)) rfl 12 (Nat.le_of_ble_eq_true rfl) (hg _ lkF_X8_66) (fun _ h9 => h9) rfl (by decide +kernel) rfl rfl (Nat.le_of_ble_eq_true rfl) dX8_tear_12 (fun H locs hP _ hS => ?_)
  have hP : va_P (dC, dI) vwCl (m_w kI kZ ad (um M 0 12 0).1 (um M 0 12 0).2) H := vp_eq (m_put8_12 (by decide) _) hP
  refine lv_aload_n hx hb dX8_tear_15 rfl (lv_at hl 1 rfl) ?_
  refine lv_iconst (v := 0) hx hb dX8_tear_16 (by decide) ?_
  refine va_put (D := (dC, dI)) (ci := 8) (v := .int (0)) (ty := .int) (C := RX8) (T := TX8) (N := 29) hx hb hg inX8 tyX8 tyX8_ok nmX8 hown hKn.1 hP (m_D hKn.2.1) hS (0) (m_at8 (c := 0) (by decide)) rfl 14 (Nat.le_of_ble_eq_true rfl) (hg _ lkF_X8_69) (fun _ h9 => h9) rfl (by decide +kernel) rfl rfl (Nat.le_of_ble_eq_true rfl) dX8_tear_17 (fun H locs hP _ hS => ?_)
  have hP : va_P (dC, dI) vwCl (m_w kI kZ ad (um (um M 0 12 0) 0 14 0).1 (um (um M 0 12 0) 0 14 0).2) H := vp_eq (m_put8_14 (by decide) _) hP
  refine lv_iload_n hx hb dX8_tear_20 rfl (lv_at hl 0 rfl) ?_
  exact W.iret (v := ((M.1 0 12) + (M.1 0 14))) hx hb hr (fun t ht hW => ⟨⟨((M.1 0 12) + (M.1 0 14)), um (um M 0 12 0) 0 14 0, rfl, Prod.mk.inj (Option.some.inj h), by rw [ht]; exact hP, m_KnW hKn t hW⟩, hS.F ht⟩) hS.2.2 dX8_tear_21
noncomputable def FX8_thinks (a1 : Int32) (a2 : Int32) (M : MM) : Option (Int32 × MM) :=
  bo (FX8_areFacts a1 M) (fun (r_1 : Int32) => (if r_1 = 0 then some ((-1000000001), M) else jn (α := Option (Int32 × MM)) (bo (FX8_maySheet a1 (M.1 3 13) M) (fun (r_3 : Int32) => (if r_3 = 0 then some ((-1000000003), M) else bd (FX8_triesTonight a1 M) (fun (r_5 : Int32) (M_6 : MM) => (if a2 = (-1) then some (r_5, M_6) else (if inb a2 17 then some ((M_6.1 10 (ix a2)), M_6) else none)))))) (fun J24 => (if a2 = (-1) then J24 else bo (FX8_isOpinion a2 M) (fun (r_9 : Int32) => (if r_9 = 0 then some ((-1000000001), M) else J24))))))
set_option maxHeartbeats 4000000 in
set_option maxRecDepth 100000 in
theorem tX8_thinks (l : Launch) (dC : Nat → ClassId) (dI : Nat → Nat → Nat) (kI kZ : ClassId) (ad : Nat → Nat) (a1 : Int32) (a2 : Int32) (M : MM)  {r0 : Int32} {M0 : MM} (h : FX8_thinks a1 a2 M = some (r0, M0)) : Met l yX8_thinks (wsA yX8_thinks cX8_thinks 4 (some .int)) ({ frames := 4, cells := 0, slots := 0, locals := 92 } : Room) (va_Pc [.ref (ad (0)), .int (a1), .int (a2)] (gI (m_Wd dC dI kI kZ ad) (m_Kn dC dI kI kZ ad) M)) (va_Qi (fun (r : Int32) (u : MM) => r = r0 ∧ u = M0) (gI (m_Wd dC dI kI kZ ad) (m_Kn dC dI kI kZ ad)) (m_A ad)) 0 0 (m_A ad) := by
  refine Met.ofW (cc := cX8_thinks) (maxL := 4) (ret := (some .int)) (by decide) rfl ?_
  intro p e s m args below meth c s₁ B hml hv
  obtain ⟨rfl, hP, hKn⟩ := hv
  have hx := B.exec
  have hb := B.bytes
  have hr := B.returns
  have hts := atoms_spec (ws := wsA yX8_thinks cX8_thinks 4 (some .int)) B.pre
  have hg : ∀ w ∈ lw_good, w.before _ s = true := fun w h => hts w (List.mem_cons_of_mem _ h)
  have hown : s.vm.findClass RX8 = some m.cls := findClass_of_methodNamed B.named
  have hlocks := B.notSynchronized
  have hS : va_S (m_A ad) s.heap s.heap [] := va_S.rf
  have hFx : gFix p c cX8_thinks 4 s m _ RX8 := ⟨hx, hb, hml, hown, hg⟩
  have hP : va_P (dC, dI) vwCl (m_w kI kZ ad M.1 M.2) s.heap := hP
  have hl := lv_entry ([.ref (ad (0)), .int (a1), .int (a2)]) (n := 4) (Nat.le_of_ble_eq_true rfl)
  rw [lg_entry_eq]
  generalize (lg_sl ([.ref (ad (0)), .int (a1), .int (a2)]) ++ List.replicate (4 - (lg_sl ([.ref (ad (0)), .int (a1), .int (a2)])).length) Slot.unset).toArray = ls at hl ⊢
  have hl : lv_has ls 4 [(0, .ref (ad (0))), (1, .int (a1)), (2, .int (a2))] := hl
  unfold FX8_thinks at h
  refine lv_aload_n hx hb dX8_thinks_0 rfl (lv_at hl 0 rfl) ?_
  refine lv_iload_n hx hb dX8_thinks_1 rfl (lv_at hl 1 rfl) ?_
  obtain ⟨r_1, e2, h⟩ := bo_use h
  refine gc_i (va_runV (As := [.int (a1)]) (rest := []) hFx (tX8_areFacts l dC dI kI kZ ad a1 M  e2) ⟨(gc_B hFx ck_yX8_areFacts lkM_X8_173 ⟨Nat.le_of_ble_eq_true rfl, Nat.le_of_ble_eq_true rfl⟩ rfl rfl), hg _ vi_yX8_areFacts, hg _ vs_yX8_areFacts⟩ (gp_V m_KnB (m_KnW hKn) hP (m_rc8 (c := 0) (by decide) hKn hP)) rfl rfl hl.1 rfl (lv_room (Nat.le_of_ble_eq_true rfl)) dX8_thinks_2 ⟨Nat.zero_le _, Nat.zero_le _⟩) hS (fun H locs hP hS => ?_)
  have hP : va_P (dC, dI) vwCl (m_w kI kZ ad M.1 M.2) H := hP
  refine lv_if_eq (tgt := 21) hx hb dX8_thinks_5 (by decide) (fun c_2 => ?_) (fun c_2 => ?_)
  · have h := ife_t c_2 h
    refine lv_ldc hx hb hown (hg _ kc_X8_143) dX8_thinks_21 ?_
    exact W.iret (v := (-1000000001)) hx hb hr (fun t ht hW => ⟨⟨(-1000000001), M, rfl, Prod.mk.inj (Option.some.inj h), by rw [ht]; exact hP, m_KnW hKn t hW⟩, hS.F ht⟩) hS.2.2 dX8_thinks_23
  · have h := ife_f c_2 h
    refine lv_iload_n hx hb dX8_thinks_8 rfl (lv_at hl 2 rfl) ?_
    refine lv_iconst (v := -1) hx hb dX8_thinks_9 (by decide) ?_
    obtain ⟨J24, eJ24, h⟩ := jn_use h
    have hJ24 : ∀  (H : Heap) (locs : List Loc) (ls : Array Slot), va_P (dC, dI) vwCl (m_w kI kZ ad M.1 M.2) H → va_S (m_A ad) s.heap H locs → lv_has ls 4 [(0, .ref (ad (0))), (1, .int (a1)), (2, .int (a2))] → J24  = some (r0, M0) → W p l e (headSpec (wsA yX8_thinks cX8_thinks 4 (some .int)) ({ frames := 4, cells := 0, slots := 0, locals := 92 } : Room)).room s m (([.ref (ad (0)), .int (a1), .int (a2)] : List Value).toArray) below meth c H locs 0 0 (MQ below (va_Qi (fun (r : Int32) (u : MM) => r = r0 ∧ u = M0) (gI (m_Wd dC dI kI kZ ad) (m_Kn dC dI kI kZ ad)) (m_A ad)) (([.ref (ad (0)), .int (a1), .int (a2)] : List Value).toArray) s 0 0 (m_A ad)) (F0 m 24 ls []) := by
      intro  H locs ls hP hS hl h
      have h := useK0 eJ24 h
      refine lv_aload_n hx hb dX8_thinks_24 rfl (lv_at hl 0 rfl) ?_
      refine lv_iload_n hx hb dX8_thinks_25 rfl (lv_at hl 1 rfl) ?_
      refine lv_aload_n hx hb dX8_thinks_26 rfl (lv_at hl 0 rfl) ?_
      refine va_get (D := (dC, dI)) (ci := 8) (v := .ref (ad (3))) (C := RX8) (T := TX8) (N := 29) hx hb hg inX8 hown hKn.1 hP (0) (m_at8 (c := 0) (by decide)) rfl 2 (Nat.le_of_ble_eq_true rfl) (hg _ lkF_X8_16) (fun _ h9 => h9) rfl dX8_thinks_27 ?_
      refine lv_bipush (v := 13) hx hb dX8_thinks_30 (by decide) ?_
      refine m_iald (M := M) (a := 3) hx hb hKn hP (by decide) (j := 13) (by decide) (by decide) dX8_thinks_32 ?_
      obtain ⟨r_3, e33, h⟩ := bo_use h
      refine gc_i (va_runV (As := [.int (a1), .int ((M.1 3 13))]) (rest := []) hFx (tX8_maySheet l dC dI kI kZ ad a1 (M.1 3 13) M  e33) ⟨(gc_B hFx ck_yX8_maySheet lkM_X8_176 ⟨Nat.le_of_ble_eq_true rfl, Nat.le_of_ble_eq_true rfl⟩ rfl rfl), hg _ vi_yX8_maySheet, hg _ vs_yX8_maySheet⟩ (gp_V m_KnB (m_KnW hKn) hP (m_rc8 (c := 0) (by decide) hKn hP)) rfl rfl hl.1 rfl (lv_room (Nat.le_of_ble_eq_true rfl)) dX8_thinks_33 ⟨Nat.zero_le _, Nat.zero_le _⟩) hS (fun H locs hP hS => ?_)
      have hP : va_P (dC, dI) vwCl (m_w kI kZ ad M.1 M.2) H := hP
      refine lv_if_ne (tgt := 42) hx hb dX8_thinks_36 (by decide) (fun c_4 => ?_) (fun c_4 => ?_)
      · have h := ife_f c_4 h
        refine lv_aload_n hx hb dX8_thinks_42 rfl (lv_at hl 0 rfl) ?_
        refine lv_iload_n hx hb dX8_thinks_43 rfl (lv_at hl 1 rfl) ?_
        obtain ⟨r_5, M_6, e44, h⟩ := bd_use h
        refine gc_i (va_runV (As := [.int (a1)]) (rest := []) hFx (tX8_triesTonight l dC dI kI kZ ad a1 M  e44) ⟨(gc_B hFx ck_yX8_triesTonight lkM_X8_207 ⟨Nat.le_of_ble_eq_true rfl, Nat.le_of_ble_eq_true rfl⟩ rfl rfl), hg _ vi_yX8_triesTonight, hg _ vs_yX8_triesTonight⟩ (gp_V m_KnB (m_KnW hKn) hP (m_rc8 (c := 0) (by decide) hKn hP)) rfl rfl hl.1 rfl (lv_room (Nat.le_of_ble_eq_true rfl)) dX8_thinks_44 ⟨Nat.zero_le _, Nat.zero_le _⟩) hS (fun H locs hP hS => ?_)
        have hP : va_P (dC, dI) vwCl (m_w kI kZ ad M_6.1 M_6.2) H := hP
        refine lv_istore_n (lv' := [(3, .int (r_5)), (0, .ref (ad (0))), (1, .int (a1)), (2, .int (a2))]) hx hb dX8_thinks_47 rfl hl (Nat.le_of_ble_eq_true rfl) rfl (fun ls hl => ?_)
        refine lv_iload_n hx hb dX8_thinks_48 rfl (lv_at hl 3 rfl) ?_
        refine lv_iconst (v := -1) hx hb dX8_thinks_49 (by decide) ?_
        refine lv_icmp_ne (tgt := 57) hx hb dX8_thinks_50 (by decide) (fun c_7 => ?_) (fun c_7 => ?_)
        · have h := ife_f c_7 h
          refine lv_aload_n hx hb dX8_thinks_57 rfl (lv_at hl 1 rfl) ?_
          refine va_get (D := (dC, dI)) (ci := 8) (v := .ref (ad (10))) (C := RX8) (T := TX8) (N := 29) hx hb hg inX8 hown hKn.1 hP (0) (m_at8 (c := 0) (by decide)) rfl 21 (Nat.le_of_ble_eq_true rfl) (hg _ lkF_X8_42) (fun _ h9 => h9) rfl dX8_thinks_58 ?_
          refine lv_iload_n hx hb dX8_thinks_61 rfl (lv_at hl 3 rfl) ?_
          obtain ⟨hi62, h⟩ := if_use h
          refine m_iald (M := M_6) (a := 10) hx hb hKn hP (by decide) (j := (ix a2)) rfl hi62 dX8_thinks_62 ?_
          exact W.iret (v := (M_6.1 10 (ix a2))) hx hb hr (fun t ht hW => ⟨⟨(M_6.1 10 (ix a2)), M_6, rfl, Prod.mk.inj (Option.some.inj h), by rw [ht]; exact hP, m_KnW hKn t hW⟩, hS.F ht⟩) hS.2.2 dX8_thinks_63
        · have h := ife_t c_7 h
          refine lv_iload_n hx hb dX8_thinks_53 rfl (lv_at hl 0 rfl) ?_
          refine lv_goto (tgt := 63) hx hb dX8_thinks_54 (by decide) ?_
          exact W.iret (v := r_5) hx hb hr (fun t ht hW => ⟨⟨r_5, M_6, rfl, Prod.mk.inj (Option.some.inj h), by rw [ht]; exact hP, m_KnW hKn t hW⟩, hS.F ht⟩) hS.2.2 dX8_thinks_63
      · have h := ife_t c_4 h
        refine lv_ldc hx hb hown (hg _ kc_X8_179) dX8_thinks_39 ?_
        exact W.iret (v := (-1000000003)) hx hb hr (fun t ht hW => ⟨⟨(-1000000003), M, rfl, Prod.mk.inj (Option.some.inj h), by rw [ht]; exact hP, m_KnW hKn t hW⟩, hS.F ht⟩) hS.2.2 dX8_thinks_41
    refine lv_icmp_eq (tgt := 24) hx hb dX8_thinks_10 (by decide) (fun c_8 => ?_) (fun c_8 => ?_)
    · have h := ife_t c_8 h
      exact hJ24 _ _ _ hP hS (lv_sub hl [0, 1, 2] rfl) h
    · have h := ife_f c_8 h
      refine lv_aload_n hx hb dX8_thinks_13 rfl (lv_at hl 0 rfl) ?_
      refine lv_iload_n hx hb dX8_thinks_14 rfl (lv_at hl 2 rfl) ?_
      obtain ⟨r_9, e15, h⟩ := bo_use h
      refine gc_i (va_runV (As := [.int (a2)]) (rest := []) hFx (tX8_isOpinion l dC dI kI kZ ad a2 M  e15) ⟨(gc_B hFx ck_yX8_isOpinion lkM_X8_140 ⟨Nat.le_of_ble_eq_true rfl, Nat.le_of_ble_eq_true rfl⟩ rfl rfl), hg _ vi_yX8_isOpinion, hg _ vs_yX8_isOpinion⟩ (gp_V m_KnB (m_KnW hKn) hP (m_rc8 (c := 0) (by decide) hKn hP)) rfl rfl hl.1 rfl (lv_room (Nat.le_of_ble_eq_true rfl)) dX8_thinks_15 ⟨Nat.zero_le _, Nat.zero_le _⟩) hS (fun H locs hP hS => ?_)
      have hP : va_P (dC, dI) vwCl (m_w kI kZ ad M.1 M.2) H := hP
      refine lv_if_ne (tgt := 24) hx hb dX8_thinks_18 (by decide) (fun c_10 => ?_) (fun c_10 => ?_)
      · have h := ife_f c_10 h
        exact hJ24 _ _ _ hP hS (lv_sub hl [0, 1, 2] rfl) h
      · have h := ife_t c_10 h
        refine lv_ldc hx hb hown (hg _ kc_X8_143) dX8_thinks_21 ?_
        exact W.iret (v := (-1000000001)) hx hb hr (fun t ht hW => ⟨⟨(-1000000001), M, rfl, Prod.mk.inj (Option.some.inj h), by rw [ht]; exact hP, m_KnW hKn t hW⟩, hS.F ht⟩) hS.2.2 dX8_thinks_23
noncomputable def FX8_thought (a1 : Int32) (a2 : Int32) (M : MM) : Option (Int32 × MM) :=
  bo (FX8_isOpinion a1 M) (fun (r_1 : Int32) => (if r_1 = 0 then some ((-1000000001), M) else bo (FX8_in ((a2).toInt64) 0 20) (fun (r_3 : Int32) => (if r_3 = 0 then some ((-1000000002), M) else (if (M.1 0 12) = 6 then some ((-1000000004), M) else (if inb (2 * (M.1 0 12)) 12 then (if inb ((2 * ((um M 8 (ix (2 * (M.1 0 12))) a1).1 0 12)) + 1) 12 then some (((um (um (um M 8 (ix (2 * (M.1 0 12))) a1) 8 (ix ((2 * ((um M 8 (ix (2 * (M.1 0 12))) a1).1 0 12)) + 1)) a2) 0 12 (((um (um M 8 (ix (2 * (M.1 0 12))) a1) 8 (ix ((2 * ((um M 8 (ix (2 * (M.1 0 12))) a1).1 0 12)) + 1)) a2).1 0 12) + 1)).1 0 12), um (um (um M 8 (ix (2 * (M.1 0 12))) a1) 8 (ix ((2 * ((um M 8 (ix (2 * (M.1 0 12))) a1).1 0 12)) + 1)) a2) 0 12 (((um (um M 8 (ix (2 * (M.1 0 12))) a1) 8 (ix ((2 * ((um M 8 (ix (2 * (M.1 0 12))) a1).1 0 12)) + 1)) a2).1 0 12) + 1)) else none) else none))))))
set_option maxHeartbeats 4000000 in
set_option maxRecDepth 100000 in
theorem tX8_thought (l : Launch) (dC : Nat → ClassId) (dI : Nat → Nat → Nat) (kI kZ : ClassId) (ad : Nat → Nat) (a1 : Int32) (a2 : Int32) (M : MM)  {r0 : Int32} {M0 : MM} (h : FX8_thought a1 a2 M = some (r0, M0)) : Met l yX8_thought (wsA yX8_thought cX8_thought 3 (some .int)) ({ frames := 2, cells := 0, slots := 0, locals := 46 } : Room) (va_Pc [.ref (ad (0)), .int (a1), .int (a2)] (gI (m_Wd dC dI kI kZ ad) (m_Kn dC dI kI kZ ad) M)) (va_Qi (fun (r : Int32) (u : MM) => r = r0 ∧ u = M0) (gI (m_Wd dC dI kI kZ ad) (m_Kn dC dI kI kZ ad)) (m_A ad)) 0 0 (m_A ad) := by
  refine Met.ofW (cc := cX8_thought) (maxL := 3) (ret := (some .int)) (by decide) rfl ?_
  intro p e s m args below meth c s₁ B hml hv
  obtain ⟨rfl, hP, hKn⟩ := hv
  have hx := B.exec
  have hb := B.bytes
  have hr := B.returns
  have hts := atoms_spec (ws := wsA yX8_thought cX8_thought 3 (some .int)) B.pre
  have hg : ∀ w ∈ lw_good, w.before _ s = true := fun w h => hts w (List.mem_cons_of_mem _ h)
  have hown : s.vm.findClass RX8 = some m.cls := findClass_of_methodNamed B.named
  have hlocks := B.notSynchronized
  have hS : va_S (m_A ad) s.heap s.heap [] := va_S.rf
  have hFx : gFix p c cX8_thought 3 s m _ RX8 := ⟨hx, hb, hml, hown, hg⟩
  have hP : va_P (dC, dI) vwCl (m_w kI kZ ad M.1 M.2) s.heap := hP
  have hl := lv_entry ([.ref (ad (0)), .int (a1), .int (a2)]) (n := 3) (Nat.le_of_ble_eq_true rfl)
  rw [lg_entry_eq]
  generalize (lg_sl ([.ref (ad (0)), .int (a1), .int (a2)]) ++ List.replicate (3 - (lg_sl ([.ref (ad (0)), .int (a1), .int (a2)])).length) Slot.unset).toArray = ls at hl ⊢
  have hl : lv_has ls 3 [(0, .ref (ad (0))), (1, .int (a1)), (2, .int (a2))] := hl
  unfold FX8_thought at h
  refine lv_aload_n hx hb dX8_thought_0 rfl (lv_at hl 0 rfl) ?_
  refine lv_iload_n hx hb dX8_thought_1 rfl (lv_at hl 1 rfl) ?_
  obtain ⟨r_1, e2, h⟩ := bo_use h
  refine gc_i (va_runV (As := [.int (a1)]) (rest := []) hFx (tX8_isOpinion l dC dI kI kZ ad a1 M  e2) ⟨(gc_B hFx ck_yX8_isOpinion lkM_X8_140 ⟨Nat.le_of_ble_eq_true rfl, Nat.le_of_ble_eq_true rfl⟩ rfl rfl), hg _ vi_yX8_isOpinion, hg _ vs_yX8_isOpinion⟩ (gp_V m_KnB (m_KnW hKn) hP (m_rc8 (c := 0) (by decide) hKn hP)) rfl rfl hl.1 rfl (lv_room (Nat.le_of_ble_eq_true rfl)) dX8_thought_2 ⟨Nat.zero_le _, Nat.zero_le _⟩) hS (fun H locs hP hS => ?_)
  have hP : va_P (dC, dI) vwCl (m_w kI kZ ad M.1 M.2) H := hP
  refine lv_if_ne (tgt := 11) hx hb dX8_thought_5 (by decide) (fun c_2 => ?_) (fun c_2 => ?_)
  · have h := ife_f c_2 h
    refine lv_iload_n hx hb dX8_thought_11 rfl (lv_at hl 2 rfl) ?_
    refine lv_i2l (v := ((a2).toInt64)) hx hb dX8_thought_12 rfl ?_
    refine lv_lconst (v := 0) hx hb dX8_thought_13 (by decide) ?_
    refine lv_ldc2 hx hb hown (hg _ kc_X8_188) dX8_thought_14 ?_
    obtain ⟨r_3, e17, h⟩ := bo_use h
    refine gc_i (va_runS (As := [.long (((a2).toInt64)), .long (0), .long (20)]) (rest := []) hFx (tX8_in l dC dI kI kZ ad ((a2).toInt64) 0 20 M  e17) ⟨(gc_B hFx ck_yX8_in lkM_X8_74 ⟨Nat.le_of_ble_eq_true rfl, Nat.le_of_ble_eq_true rfl⟩ rfl rfl), hg _ st_yX8_in⟩ (gp_S m_KnB (m_KnW hKn) hP) rfl rfl hl.1 rfl (lv_room (Nat.le_of_ble_eq_true rfl)) dX8_thought_17 ⟨Nat.zero_le _, Nat.zero_le _⟩) hS (fun H locs hP hS => ?_)
    have hP : va_P (dC, dI) vwCl (m_w kI kZ ad M.1 M.2) H := hP
    refine lv_if_ne (tgt := 26) hx hb dX8_thought_20 (by decide) (fun c_4 => ?_) (fun c_4 => ?_)
    · have h := ife_f c_4 h
      refine lv_aload_n hx hb dX8_thought_26 rfl (lv_at hl 0 rfl) ?_
      refine va_get (D := (dC, dI)) (ci := 8) (v := .int ((M.1 0 12))) (C := RX8) (T := TX8) (N := 29) hx hb hg inX8 hown hKn.1 hP (0) (m_at8 (c := 0) (by decide)) rfl 12 (Nat.le_of_ble_eq_true rfl) (hg _ lkF_X8_66) (fun _ h9 => h9) rfl dX8_thought_27 ?_
      refine lv_bipush (v := 6) hx hb dX8_thought_30 (by decide) ?_
      refine lv_icmp_ne (tgt := 38) hx hb dX8_thought_32 (by decide) (fun c_5 => ?_) (fun c_5 => ?_)
      · have h := ife_f c_5 h
        refine lv_aload_n hx hb dX8_thought_38 rfl (lv_at hl 0 rfl) ?_
        refine va_get (D := (dC, dI)) (ci := 8) (v := .ref (ad (8))) (C := RX8) (T := TX8) (N := 29) hx hb hg inX8 hown hKn.1 hP (0) (m_at8 (c := 0) (by decide)) rfl 11 (Nat.le_of_ble_eq_true rfl) (hg _ lkF_X8_36) (fun _ h9 => h9) rfl dX8_thought_39 ?_
        refine lv_iconst (v := 2) hx hb dX8_thought_42 (by decide) ?_
        refine lv_aload_n hx hb dX8_thought_43 rfl (lv_at hl 0 rfl) ?_
        refine va_get (D := (dC, dI)) (ci := 8) (v := .int ((M.1 0 12))) (C := RX8) (T := TX8) (N := 29) hx hb hg inX8 hown hKn.1 hP (0) (m_at8 (c := 0) (by decide)) rfl 12 (Nat.le_of_ble_eq_true rfl) (hg _ lkF_X8_66) (fun _ h9 => h9) rfl dX8_thought_44 ?_
        refine lv_imul hx hb dX8_thought_47 ?_
        refine lv_iload_n hx hb dX8_thought_48 rfl (lv_at hl 1 rfl) ?_
        obtain ⟨hi49, h⟩ := if_use h
        refine m_iast (M := M) (a := 8) hx hb hKn hP hS (by decide) (x := a1) (j := (ix (2 * (M.1 0 12)))) rfl hi49 dX8_thought_49 (fun H locs hP hS => ?_)
        have hP : va_P (dC, dI) vwCl (m_w kI kZ ad (um M 8 (ix (2 * (M.1 0 12))) a1).1 (um M 8 (ix (2 * (M.1 0 12))) a1).2) H := hP
        refine lv_aload_n hx hb dX8_thought_50 rfl (lv_at hl 0 rfl) ?_
        refine va_get (D := (dC, dI)) (ci := 8) (v := .ref (ad (8))) (C := RX8) (T := TX8) (N := 29) hx hb hg inX8 hown hKn.1 hP (0) (m_at8 (c := 0) (by decide)) rfl 11 (Nat.le_of_ble_eq_true rfl) (hg _ lkF_X8_36) (fun _ h9 => h9) rfl dX8_thought_51 ?_
        refine lv_iconst (v := 2) hx hb dX8_thought_54 (by decide) ?_
        refine lv_aload_n hx hb dX8_thought_55 rfl (lv_at hl 0 rfl) ?_
        refine va_get (D := (dC, dI)) (ci := 8) (v := .int (((um M 8 (ix (2 * (M.1 0 12))) a1).1 0 12))) (C := RX8) (T := TX8) (N := 29) hx hb hg inX8 hown hKn.1 hP (0) (m_at8 (c := 0) (by decide)) rfl 12 (Nat.le_of_ble_eq_true rfl) (hg _ lkF_X8_66) (fun _ h9 => h9) rfl dX8_thought_56 ?_
        refine lv_imul hx hb dX8_thought_59 ?_
        refine lv_iconst (v := 1) hx hb dX8_thought_60 (by decide) ?_
        refine lv_iadd hx hb dX8_thought_61 ?_
        refine lv_iload_n hx hb dX8_thought_62 rfl (lv_at hl 2 rfl) ?_
        obtain ⟨hi63, h⟩ := if_use h
        refine m_iast (M := (um M 8 (ix (2 * (M.1 0 12))) a1)) (a := 8) hx hb hKn hP hS (by decide) (x := a2) (j := (ix ((2 * ((um M 8 (ix (2 * (M.1 0 12))) a1).1 0 12)) + 1))) rfl hi63 dX8_thought_63 (fun H locs hP hS => ?_)
        have hP : va_P (dC, dI) vwCl (m_w kI kZ ad (um (um M 8 (ix (2 * (M.1 0 12))) a1) 8 (ix ((2 * ((um M 8 (ix (2 * (M.1 0 12))) a1).1 0 12)) + 1)) a2).1 (um (um M 8 (ix (2 * (M.1 0 12))) a1) 8 (ix ((2 * ((um M 8 (ix (2 * (M.1 0 12))) a1).1 0 12)) + 1)) a2).2) H := hP
        refine lv_aload_n hx hb dX8_thought_64 rfl (lv_at hl 0 rfl) ?_
        refine lv_dup hx hb dX8_thought_65 rfl ?_
        refine va_get (D := (dC, dI)) (ci := 8) (v := .int (((um (um M 8 (ix (2 * (M.1 0 12))) a1) 8 (ix ((2 * ((um M 8 (ix (2 * (M.1 0 12))) a1).1 0 12)) + 1)) a2).1 0 12))) (C := RX8) (T := TX8) (N := 29) hx hb hg inX8 hown hKn.1 hP (0) (m_at8 (c := 0) (by decide)) rfl 12 (Nat.le_of_ble_eq_true rfl) (hg _ lkF_X8_66) (fun _ h9 => h9) rfl dX8_thought_66 ?_
        refine lv_iconst (v := 1) hx hb dX8_thought_69 (by decide) ?_
        refine lv_iadd hx hb dX8_thought_70 ?_
        refine va_put (D := (dC, dI)) (ci := 8) (v := .int ((((um (um M 8 (ix (2 * (M.1 0 12))) a1) 8 (ix ((2 * ((um M 8 (ix (2 * (M.1 0 12))) a1).1 0 12)) + 1)) a2).1 0 12) + 1))) (ty := .int) (C := RX8) (T := TX8) (N := 29) hx hb hg inX8 tyX8 tyX8_ok nmX8 hown hKn.1 hP (m_D hKn.2.1) hS (0) (m_at8 (c := 0) (by decide)) rfl 12 (Nat.le_of_ble_eq_true rfl) (hg _ lkF_X8_66) (fun _ h9 => h9) rfl (by decide +kernel) rfl rfl (Nat.le_of_ble_eq_true rfl) dX8_thought_71 (fun H locs hP _ hS => ?_)
        have hP : va_P (dC, dI) vwCl (m_w kI kZ ad (um (um (um M 8 (ix (2 * (M.1 0 12))) a1) 8 (ix ((2 * ((um M 8 (ix (2 * (M.1 0 12))) a1).1 0 12)) + 1)) a2) 0 12 (((um (um M 8 (ix (2 * (M.1 0 12))) a1) 8 (ix ((2 * ((um M 8 (ix (2 * (M.1 0 12))) a1).1 0 12)) + 1)) a2).1 0 12) + 1)).1 (um (um (um M 8 (ix (2 * (M.1 0 12))) a1) 8 (ix ((2 * ((um M 8 (ix (2 * (M.1 0 12))) a1).1 0 12)) + 1)) a2) 0 12 (((um (um M 8 (ix (2 * (M.1 0 12))) a1) 8 (ix ((2 * ((um M 8 (ix (2 * (M.1 0 12))) a1).1 0 12)) + 1)) a2).1 0 12) + 1)).2) H := vp_eq (m_put8_12 (by decide) _) hP
        refine lv_aload_n hx hb dX8_thought_74 rfl (lv_at hl 0 rfl) ?_
        refine va_get (D := (dC, dI)) (ci := 8) (v := .int (((um (um (um M 8 (ix (2 * (M.1 0 12))) a1) 8 (ix ((2 * ((um M 8 (ix (2 * (M.1 0 12))) a1).1 0 12)) + 1)) a2) 0 12 (((um (um M 8 (ix (2 * (M.1 0 12))) a1) 8 (ix ((2 * ((um M 8 (ix (2 * (M.1 0 12))) a1).1 0 12)) + 1)) a2).1 0 12) + 1)).1 0 12))) (C := RX8) (T := TX8) (N := 29) hx hb hg inX8 hown hKn.1 hP (0) (m_at8 (c := 0) (by decide)) rfl 12 (Nat.le_of_ble_eq_true rfl) (hg _ lkF_X8_66) (fun _ h9 => h9) rfl dX8_thought_75 ?_
        exact W.iret (v := ((um (um (um M 8 (ix (2 * (M.1 0 12))) a1) 8 (ix ((2 * ((um M 8 (ix (2 * (M.1 0 12))) a1).1 0 12)) + 1)) a2) 0 12 (((um (um M 8 (ix (2 * (M.1 0 12))) a1) 8 (ix ((2 * ((um M 8 (ix (2 * (M.1 0 12))) a1).1 0 12)) + 1)) a2).1 0 12) + 1)).1 0 12)) hx hb hr (fun t ht hW => ⟨⟨((um (um (um M 8 (ix (2 * (M.1 0 12))) a1) 8 (ix ((2 * ((um M 8 (ix (2 * (M.1 0 12))) a1).1 0 12)) + 1)) a2) 0 12 (((um (um M 8 (ix (2 * (M.1 0 12))) a1) 8 (ix ((2 * ((um M 8 (ix (2 * (M.1 0 12))) a1).1 0 12)) + 1)) a2).1 0 12) + 1)).1 0 12), um (um (um M 8 (ix (2 * (M.1 0 12))) a1) 8 (ix ((2 * ((um M 8 (ix (2 * (M.1 0 12))) a1).1 0 12)) + 1)) a2) 0 12 (((um (um M 8 (ix (2 * (M.1 0 12))) a1) 8 (ix ((2 * ((um M 8 (ix (2 * (M.1 0 12))) a1).1 0 12)) + 1)) a2).1 0 12) + 1), rfl, Prod.mk.inj (Option.some.inj h), by rw [ht]; exact hP, m_KnW hKn t hW⟩, hS.F ht⟩) hS.2.2 dX8_thought_78
      · have h := ife_t c_5 h
        refine lv_ldc hx hb hown (hg _ kc_X8_82) dX8_thought_35 ?_
        exact W.iret (v := (-1000000004)) hx hb hr (fun t ht hW => ⟨⟨(-1000000004), M, rfl, Prod.mk.inj (Option.some.inj h), by rw [ht]; exact hP, m_KnW hKn t hW⟩, hS.F ht⟩) hS.2.2 dX8_thought_37
    · have h := ife_t c_4 h
      refine lv_ldc hx hb hown (hg _ kc_X8_78) dX8_thought_23 ?_
      exact W.iret (v := (-1000000002)) hx hb hr (fun t ht hW => ⟨⟨(-1000000002), M, rfl, Prod.mk.inj (Option.some.inj h), by rw [ht]; exact hP, m_KnW hKn t hW⟩, hS.F ht⟩) hS.2.2 dX8_thought_25
  · have h := ife_t c_2 h
    refine lv_ldc hx hb hown (hg _ kc_X8_143) dX8_thought_8 ?_
    exact W.iret (v := (-1000000001)) hx hb hr (fun t ht hW => ⟨⟨(-1000000001), M, rfl, Prod.mk.inj (Option.some.inj h), by rw [ht]; exact hP, m_KnW hKn t hW⟩, hS.F ht⟩) hS.2.2 dX8_thought_10
noncomputable def FX8_told (a1 : Int32) (M : MM) : Option Int32 :=
  jn (α := Option Int32) ((if inb a1 50 then some (M.1 1 (ix a1)) else none)) (fun J68 => (if a1 = 0 then J68 else (if a1 = 1 then J68 else (if a1 = 2 then J68 else (if a1 = 3 then J68 else (if a1 = 4 then some (M.1 0 9) else (if a1 = 5 then some (M.1 3 14) else (if a1 = 6 then some (M.1 3 15) else (if a1 = 7 then bo (FX8_convinced 3 M) (fun (r_9 : Int32) => some r_9) else (if a1 = 8 then some (M.1 3 13) else (if a1 = 9 then some (M.1 3 16) else (if a1 = 10 then some (M.1 0 12) else (if a1 = 11 then some (M.1 0 14) else (if a1 = 12 then some (M.1 0 4) else some (-1000000002)))))))))))))))
set_option maxHeartbeats 4000000 in
set_option maxRecDepth 100000 in
theorem tX8_told (l : Launch) (dC : Nat → ClassId) (dI : Nat → Nat → Nat) (kI kZ : ClassId) (ad : Nat → Nat) (a1 : Int32) (M : MM)  {r0 : Int32} (h : FX8_told a1 M = some r0) : Met l yX8_told (wsA yX8_told cX8_told 2 (some .int)) ({ frames := 1, cells := 0, slots := 0, locals := 23 } : Room) (va_Pc [.ref (ad (0)), .int (a1)] (gI (m_Wd dC dI kI kZ ad) (m_Kn dC dI kI kZ ad) M)) (va_Qi (fun (r : Int32) (u : MM) => r = r0 ∧ u = M) (gI (m_Wd dC dI kI kZ ad) (m_Kn dC dI kI kZ ad)) (m_A ad)) 0 0 (m_A ad) := by
  refine Met.ofW (cc := cX8_told) (maxL := 2) (ret := (some .int)) (by decide) rfl ?_
  intro p e s m args below meth c s₁ B hml hv
  obtain ⟨rfl, hP, hKn⟩ := hv
  have hx := B.exec
  have hb := B.bytes
  have hr := B.returns
  have hts := atoms_spec (ws := wsA yX8_told cX8_told 2 (some .int)) B.pre
  have hg : ∀ w ∈ lw_good, w.before _ s = true := fun w h => hts w (List.mem_cons_of_mem _ h)
  have hown : s.vm.findClass RX8 = some m.cls := findClass_of_methodNamed B.named
  have hlocks := B.notSynchronized
  have hS : va_S (m_A ad) s.heap s.heap [] := va_S.rf
  have hFx : gFix p c cX8_told 2 s m _ RX8 := ⟨hx, hb, hml, hown, hg⟩
  have hP : va_P (dC, dI) vwCl (m_w kI kZ ad M.1 M.2) s.heap := hP
  have hl := lv_entry ([.ref (ad (0)), .int (a1)]) (n := 2) (Nat.le_of_ble_eq_true rfl)
  rw [lg_entry_eq]
  generalize (lg_sl ([.ref (ad (0)), .int (a1)]) ++ List.replicate (2 - (lg_sl ([.ref (ad (0)), .int (a1)])).length) Slot.unset).toArray = ls at hl ⊢
  have hl : lv_has ls 2 [(0, .ref (ad (0))), (1, .int (a1))] := hl
  unfold FX8_told at h
  refine lv_iload_n hx hb dX8_told_0 rfl (lv_at hl 1 rfl) ?_
  obtain ⟨J68, eJ68, h⟩ := jn_use h
  have hJ68 : ∀  (H : Heap) (locs : List Loc) (ls : Array Slot), va_P (dC, dI) vwCl (m_w kI kZ ad M.1 M.2) H → va_S (m_A ad) s.heap H locs → lv_has ls 2 [(0, .ref (ad (0))), (1, .int (a1))] → J68  = some r0 → W p l e (headSpec (wsA yX8_told cX8_told 2 (some .int)) ({ frames := 1, cells := 0, slots := 0, locals := 23 } : Room)).room s m (([.ref (ad (0)), .int (a1)] : List Value).toArray) below meth c H locs 0 0 (MQ below (va_Qi (fun (r : Int32) (u : MM) => r = r0 ∧ u = M) (gI (m_Wd dC dI kI kZ ad) (m_Kn dC dI kI kZ ad)) (m_A ad)) (([.ref (ad (0)), .int (a1)] : List Value).toArray) s 0 0 (m_A ad)) (F0 m 68 ls []) := by
    intro  H locs ls hP hS hl h
    have h := useK0 eJ68 h
    refine lv_aload_n hx hb dX8_told_68 rfl (lv_at hl 0 rfl) ?_
    refine va_get (D := (dC, dI)) (ci := 8) (v := .ref (ad (1))) (C := RX8) (T := TX8) (N := 29) hx hb hg inX8 hown hKn.1 hP (0) (m_at8 (c := 0) (by decide)) rfl 0 (Nat.le_of_ble_eq_true rfl) (hg _ lkF_X8_7) (fun _ h9 => h9) rfl dX8_told_69 ?_
    refine lv_iload_n hx hb dX8_told_72 rfl (lv_at hl 1 rfl) ?_
    obtain ⟨hi73, h⟩ := if_use h
    refine m_iald (M := M) (a := 1) hx hb hKn hP (by decide) (j := (ix a1)) rfl hi73 dX8_told_73 ?_
    exact W.iret (v := (M.1 1 (ix a1))) hx hb hr (fun t ht hW => ⟨⟨(M.1 1 (ix a1)), M, rfl, ⟨Option.some.inj h, rfl⟩, by rw [ht]; exact hP, m_KnW hKn t hW⟩, hS.F ht⟩) hS.2.2 dX8_told_74
  by_cases c_1 : a1 = 0
  · have h := ife_t c_1 h
    refine lv_tableIn (off := 67) (tgt := 68) hx hb dX8_told_1 (by rw [c_1]; decide) (by rw [c_1]; decide) (by rw [c_1]; rfl) (by decide) ?_
    exact hJ68 _ _ _ hP hS (lv_sub hl [0, 1] rfl) h
  have h := ife_f c_1 h
  by_cases c_2 : a1 = 1
  · have h := ife_t c_2 h
    refine lv_tableIn (off := 67) (tgt := 68) hx hb dX8_told_1 (by rw [c_2]; decide) (by rw [c_2]; decide) (by rw [c_2]; rfl) (by decide) ?_
    exact hJ68 _ _ _ hP hS (lv_sub hl [0, 1] rfl) h
  have h := ife_f c_2 h
  by_cases c_3 : a1 = 2
  · have h := ife_t c_3 h
    refine lv_tableIn (off := 67) (tgt := 68) hx hb dX8_told_1 (by rw [c_3]; decide) (by rw [c_3]; decide) (by rw [c_3]; rfl) (by decide) ?_
    exact hJ68 _ _ _ hP hS (lv_sub hl [0, 1] rfl) h
  have h := ife_f c_3 h
  by_cases c_4 : a1 = 3
  · have h := ife_t c_4 h
    refine lv_tableIn (off := 67) (tgt := 68) hx hb dX8_told_1 (by rw [c_4]; decide) (by rw [c_4]; decide) (by rw [c_4]; rfl) (by decide) ?_
    exact hJ68 _ _ _ hP hS (lv_sub hl [0, 1] rfl) h
  have h := ife_f c_4 h
  by_cases c_5 : a1 = 4
  · have h := ife_t c_5 h
    refine lv_tableIn (off := 74) (tgt := 75) hx hb dX8_told_1 (by rw [c_5]; decide) (by rw [c_5]; decide) (by rw [c_5]; rfl) (by decide) ?_
    refine lv_aload_n hx hb dX8_told_75 rfl (lv_at hl 0 rfl) ?_
    refine va_get (D := (dC, dI)) (ci := 8) (v := .int ((M.1 0 9))) (C := RX8) (T := TX8) (N := 29) hx hb hg inX8 hown hKn.1 hP (0) (m_at8 (c := 0) (by decide)) rfl 9 (Nat.le_of_ble_eq_true rfl) (hg _ lkF_X8_79) (fun _ h9 => h9) rfl dX8_told_76 ?_
    exact W.iret (v := (M.1 0 9)) hx hb hr (fun t ht hW => ⟨⟨(M.1 0 9), M, rfl, ⟨Option.some.inj h, rfl⟩, by rw [ht]; exact hP, m_KnW hKn t hW⟩, hS.F ht⟩) hS.2.2 dX8_told_79
  have h := ife_f c_5 h
  by_cases c_6 : a1 = 5
  · have h := ife_t c_6 h
    refine lv_tableIn (off := 79) (tgt := 80) hx hb dX8_told_1 (by rw [c_6]; decide) (by rw [c_6]; decide) (by rw [c_6]; rfl) (by decide) ?_
    refine lv_aload_n hx hb dX8_told_80 rfl (lv_at hl 0 rfl) ?_
    refine va_get (D := (dC, dI)) (ci := 8) (v := .ref (ad (3))) (C := RX8) (T := TX8) (N := 29) hx hb hg inX8 hown hKn.1 hP (0) (m_at8 (c := 0) (by decide)) rfl 2 (Nat.le_of_ble_eq_true rfl) (hg _ lkF_X8_16) (fun _ h9 => h9) rfl dX8_told_81 ?_
    refine lv_bipush (v := 14) hx hb dX8_told_84 (by decide) ?_
    refine m_iald (M := M) (a := 3) hx hb hKn hP (by decide) (j := 14) (by decide) (by decide) dX8_told_86 ?_
    exact W.iret (v := (M.1 3 14)) hx hb hr (fun t ht hW => ⟨⟨(M.1 3 14), M, rfl, ⟨Option.some.inj h, rfl⟩, by rw [ht]; exact hP, m_KnW hKn t hW⟩, hS.F ht⟩) hS.2.2 dX8_told_87
  have h := ife_f c_6 h
  by_cases c_7 : a1 = 6
  · have h := ife_t c_7 h
    refine lv_tableIn (off := 87) (tgt := 88) hx hb dX8_told_1 (by rw [c_7]; decide) (by rw [c_7]; decide) (by rw [c_7]; rfl) (by decide) ?_
    refine lv_aload_n hx hb dX8_told_88 rfl (lv_at hl 0 rfl) ?_
    refine va_get (D := (dC, dI)) (ci := 8) (v := .ref (ad (3))) (C := RX8) (T := TX8) (N := 29) hx hb hg inX8 hown hKn.1 hP (0) (m_at8 (c := 0) (by decide)) rfl 2 (Nat.le_of_ble_eq_true rfl) (hg _ lkF_X8_16) (fun _ h9 => h9) rfl dX8_told_89 ?_
    refine lv_bipush (v := 15) hx hb dX8_told_92 (by decide) ?_
    refine m_iald (M := M) (a := 3) hx hb hKn hP (by decide) (j := 15) (by decide) (by decide) dX8_told_94 ?_
    exact W.iret (v := (M.1 3 15)) hx hb hr (fun t ht hW => ⟨⟨(M.1 3 15), M, rfl, ⟨Option.some.inj h, rfl⟩, by rw [ht]; exact hP, m_KnW hKn t hW⟩, hS.F ht⟩) hS.2.2 dX8_told_95
  have h := ife_f c_7 h
  by_cases c_8 : a1 = 7
  · have h := ife_t c_8 h
    refine lv_tableIn (off := 95) (tgt := 96) hx hb dX8_told_1 (by rw [c_8]; decide) (by rw [c_8]; decide) (by rw [c_8]; rfl) (by decide) ?_
    refine lv_aload_n hx hb dX8_told_96 rfl (lv_at hl 0 rfl) ?_
    refine lv_aload_n hx hb dX8_told_97 rfl (lv_at hl 0 rfl) ?_
    refine va_get (D := (dC, dI)) (ci := 8) (v := .ref (ad (3))) (C := RX8) (T := TX8) (N := 29) hx hb hg inX8 hown hKn.1 hP (0) (m_at8 (c := 0) (by decide)) rfl 2 (Nat.le_of_ble_eq_true rfl) (hg _ lkF_X8_16) (fun _ h9 => h9) rfl dX8_told_98 ?_
    obtain ⟨r_9, e101, h⟩ := bo_use h
    refine gc_i (va_runV (As := [.ref (ad (3))]) (rest := []) hFx (tX8_convinced l dC dI kI kZ ad 3 M (by decide) e101) ⟨(gc_B hFx ck_yX8_convinced lkM_X8_136 ⟨Nat.le_of_ble_eq_true rfl, Nat.le_of_ble_eq_true rfl⟩ rfl rfl), hg _ vi_yX8_convinced, hg _ vs_yX8_convinced⟩ (gp_V m_KnB (m_KnW hKn) hP (m_rc8 (c := 0) (by decide) hKn hP)) rfl rfl hl.1 rfl (lv_room (Nat.le_of_ble_eq_true rfl)) dX8_told_101 ⟨Nat.zero_le _, Nat.zero_le _⟩) hS (fun H locs hP hS => ?_)
    have hP : va_P (dC, dI) vwCl (m_w kI kZ ad M.1 M.2) H := hP
    exact W.iret (v := r_9) hx hb hr (fun t ht hW => ⟨⟨r_9, M, rfl, ⟨Option.some.inj h, rfl⟩, by rw [ht]; exact hP, m_KnW hKn t hW⟩, hS.F ht⟩) hS.2.2 dX8_told_104
  have h := ife_f c_8 h
  by_cases c_10 : a1 = 8
  · have h := ife_t c_10 h
    refine lv_tableIn (off := 104) (tgt := 105) hx hb dX8_told_1 (by rw [c_10]; decide) (by rw [c_10]; decide) (by rw [c_10]; rfl) (by decide) ?_
    refine lv_aload_n hx hb dX8_told_105 rfl (lv_at hl 0 rfl) ?_
    refine va_get (D := (dC, dI)) (ci := 8) (v := .ref (ad (3))) (C := RX8) (T := TX8) (N := 29) hx hb hg inX8 hown hKn.1 hP (0) (m_at8 (c := 0) (by decide)) rfl 2 (Nat.le_of_ble_eq_true rfl) (hg _ lkF_X8_16) (fun _ h9 => h9) rfl dX8_told_106 ?_
    refine lv_bipush (v := 13) hx hb dX8_told_109 (by decide) ?_
    refine m_iald (M := M) (a := 3) hx hb hKn hP (by decide) (j := 13) (by decide) (by decide) dX8_told_111 ?_
    exact W.iret (v := (M.1 3 13)) hx hb hr (fun t ht hW => ⟨⟨(M.1 3 13), M, rfl, ⟨Option.some.inj h, rfl⟩, by rw [ht]; exact hP, m_KnW hKn t hW⟩, hS.F ht⟩) hS.2.2 dX8_told_112
  have h := ife_f c_10 h
  by_cases c_11 : a1 = 9
  · have h := ife_t c_11 h
    refine lv_tableIn (off := 112) (tgt := 113) hx hb dX8_told_1 (by rw [c_11]; decide) (by rw [c_11]; decide) (by rw [c_11]; rfl) (by decide) ?_
    refine lv_aload_n hx hb dX8_told_113 rfl (lv_at hl 0 rfl) ?_
    refine va_get (D := (dC, dI)) (ci := 8) (v := .ref (ad (3))) (C := RX8) (T := TX8) (N := 29) hx hb hg inX8 hown hKn.1 hP (0) (m_at8 (c := 0) (by decide)) rfl 2 (Nat.le_of_ble_eq_true rfl) (hg _ lkF_X8_16) (fun _ h9 => h9) rfl dX8_told_114 ?_
    refine lv_bipush (v := 16) hx hb dX8_told_117 (by decide) ?_
    refine m_iald (M := M) (a := 3) hx hb hKn hP (by decide) (j := 16) (by decide) (by decide) dX8_told_119 ?_
    exact W.iret (v := (M.1 3 16)) hx hb hr (fun t ht hW => ⟨⟨(M.1 3 16), M, rfl, ⟨Option.some.inj h, rfl⟩, by rw [ht]; exact hP, m_KnW hKn t hW⟩, hS.F ht⟩) hS.2.2 dX8_told_120
  have h := ife_f c_11 h
  by_cases c_12 : a1 = 10
  · have h := ife_t c_12 h
    refine lv_tableIn (off := 120) (tgt := 121) hx hb dX8_told_1 (by rw [c_12]; decide) (by rw [c_12]; decide) (by rw [c_12]; rfl) (by decide) ?_
    refine lv_aload_n hx hb dX8_told_121 rfl (lv_at hl 0 rfl) ?_
    refine va_get (D := (dC, dI)) (ci := 8) (v := .int ((M.1 0 12))) (C := RX8) (T := TX8) (N := 29) hx hb hg inX8 hown hKn.1 hP (0) (m_at8 (c := 0) (by decide)) rfl 12 (Nat.le_of_ble_eq_true rfl) (hg _ lkF_X8_66) (fun _ h9 => h9) rfl dX8_told_122 ?_
    exact W.iret (v := (M.1 0 12)) hx hb hr (fun t ht hW => ⟨⟨(M.1 0 12), M, rfl, ⟨Option.some.inj h, rfl⟩, by rw [ht]; exact hP, m_KnW hKn t hW⟩, hS.F ht⟩) hS.2.2 dX8_told_125
  have h := ife_f c_12 h
  by_cases c_13 : a1 = 11
  · have h := ife_t c_13 h
    refine lv_tableIn (off := 125) (tgt := 126) hx hb dX8_told_1 (by rw [c_13]; decide) (by rw [c_13]; decide) (by rw [c_13]; rfl) (by decide) ?_
    refine lv_aload_n hx hb dX8_told_126 rfl (lv_at hl 0 rfl) ?_
    refine va_get (D := (dC, dI)) (ci := 8) (v := .int ((M.1 0 14))) (C := RX8) (T := TX8) (N := 29) hx hb hg inX8 hown hKn.1 hP (0) (m_at8 (c := 0) (by decide)) rfl 14 (Nat.le_of_ble_eq_true rfl) (hg _ lkF_X8_69) (fun _ h9 => h9) rfl dX8_told_127 ?_
    exact W.iret (v := (M.1 0 14)) hx hb hr (fun t ht hW => ⟨⟨(M.1 0 14), M, rfl, ⟨Option.some.inj h, rfl⟩, by rw [ht]; exact hP, m_KnW hKn t hW⟩, hS.F ht⟩) hS.2.2 dX8_told_130
  have h := ife_f c_13 h
  by_cases c_14 : a1 = 12
  · have h := ife_t c_14 h
    refine lv_tableIn (off := 130) (tgt := 131) hx hb dX8_told_1 (by rw [c_14]; decide) (by rw [c_14]; decide) (by rw [c_14]; rfl) (by decide) ?_
    refine lv_aload_n hx hb dX8_told_131 rfl (lv_at hl 0 rfl) ?_
    refine va_get (D := (dC, dI)) (ci := 8) (v := .int ((M.1 0 4))) (C := RX8) (T := TX8) (N := 29) hx hb hg inX8 hown hKn.1 hP (0) (m_at8 (c := 0) (by decide)) rfl 4 (Nat.le_of_ble_eq_true rfl) (hg _ lkF_X8_63) (fun _ h9 => h9) rfl dX8_told_132 ?_
    exact W.iret (v := (M.1 0 4)) hx hb hr (fun t ht hW => ⟨⟨(M.1 0 4), M, rfl, ⟨Option.some.inj h, rfl⟩, by rw [ht]; exact hP, m_KnW hKn t hW⟩, hS.F ht⟩) hS.2.2 dX8_told_135
  have h := ife_f c_14 h
  have n0_c_1 := lv_neT (a := 0) c_1 (by decide)
  have n1_c_2 := lv_neT (a := 1) c_2 (by decide)
  have n2_c_3 := lv_neT (a := 2) c_3 (by decide)
  have n3_c_4 := lv_neT (a := 3) c_4 (by decide)
  have n4_c_5 := lv_neT (a := 4) c_5 (by decide)
  have n5_c_6 := lv_neT (a := 5) c_6 (by decide)
  have n6_c_7 := lv_neT (a := 6) c_7 (by decide)
  have n7_c_8 := lv_neT (a := 7) c_8 (by decide)
  have n8_c_10 := lv_neT (a := 8) c_10 (by decide)
  have n9_c_11 := lv_neT (a := 9) c_11 (by decide)
  have n10_c_12 := lv_neT (a := 10) c_12 (by decide)
  have n11_c_13 := lv_neT (a := 11) c_13 (by decide)
  have n12_c_14 := lv_neT (a := 12) c_14 (by decide)
  refine lv_tableOut (tgt := 136) hx hb dX8_told_1 (by omega) (by decide) ?_
  refine lv_ldc hx hb hown (hg _ kc_X8_78) dX8_told_136 ?_
  exact W.iret (v := (-1000000002)) hx hb hr (fun t ht hW => ⟨⟨(-1000000002), M, rfl, ⟨Option.some.inj h, rfl⟩, by rw [ht]; exact hP, m_KnW hKn t hW⟩, hS.F ht⟩) hS.2.2 dX8_told_138
noncomputable def FX8_undo  (M : MM) : Option (Int32 × MM) :=
  (if (M.1 0 4) = 0 then some ((-1000000003), M) else bo (FX8_copies 4 (17 * ((um M 0 4 ((M.1 0 4) - 1)).1 0 4)) 3 0 17 (um M 0 4 ((M.1 0 4) - 1))) (fun (M_2 : MM) => some ((M_2.1 0 4), M_2)))
set_option maxHeartbeats 4000000 in
set_option maxRecDepth 100000 in
theorem tX8_undo (l : Launch) (dC : Nat → ClassId) (dI : Nat → Nat → Nat) (kI kZ : ClassId) (ad : Nat → Nat)  (M : MM)  {r0 : Int32} {M0 : MM} (h : FX8_undo  M = some (r0, M0)) : Met l yX8_undo (wsA yX8_undo cX8_undo 1 (some .int)) ({ frames := 1, cells := 0, slots := 0, locals := 25 } : Room) (va_Pc [.ref (ad (0))] (gI (m_Wd dC dI kI kZ ad) (m_Kn dC dI kI kZ ad) M)) (va_Qi (fun (r : Int32) (u : MM) => r = r0 ∧ u = M0) (gI (m_Wd dC dI kI kZ ad) (m_Kn dC dI kI kZ ad)) (m_A ad)) 0 0 (m_A ad) := by
  refine Met.ofW (cc := cX8_undo) (maxL := 1) (ret := (some .int)) (by decide) rfl ?_
  intro p e s m args below meth c s₁ B hml hv
  obtain ⟨rfl, hP, hKn⟩ := hv
  have hx := B.exec
  have hb := B.bytes
  have hr := B.returns
  have hts := atoms_spec (ws := wsA yX8_undo cX8_undo 1 (some .int)) B.pre
  have hg : ∀ w ∈ lw_good, w.before _ s = true := fun w h => hts w (List.mem_cons_of_mem _ h)
  have hown : s.vm.findClass RX8 = some m.cls := findClass_of_methodNamed B.named
  have hlocks := B.notSynchronized
  have hS : va_S (m_A ad) s.heap s.heap [] := va_S.rf
  have hFx : gFix p c cX8_undo 1 s m _ RX8 := ⟨hx, hb, hml, hown, hg⟩
  have hP : va_P (dC, dI) vwCl (m_w kI kZ ad M.1 M.2) s.heap := hP
  have hl := lv_entry ([.ref (ad (0))]) (n := 1) (Nat.le_of_ble_eq_true rfl)
  rw [lg_entry_eq]
  generalize (lg_sl ([.ref (ad (0))]) ++ List.replicate (1 - (lg_sl ([.ref (ad (0))])).length) Slot.unset).toArray = ls at hl ⊢
  have hl : lv_has ls 1 [(0, .ref (ad (0)))] := hl
  unfold FX8_undo at h
  refine lv_aload_n hx hb dX8_undo_0 rfl (lv_at hl 0 rfl) ?_
  refine va_get (D := (dC, dI)) (ci := 8) (v := .int ((M.1 0 4))) (C := RX8) (T := TX8) (N := 29) hx hb hg inX8 hown hKn.1 hP (0) (m_at8 (c := 0) (by decide)) rfl 4 (Nat.le_of_ble_eq_true rfl) (hg _ lkF_X8_63) (fun _ h9 => h9) rfl dX8_undo_1 ?_
  refine lv_if_ne (tgt := 10) hx hb dX8_undo_4 (by decide) (fun c_1 => ?_) (fun c_1 => ?_)
  · have h := ife_f c_1 h
    refine lv_aload_n hx hb dX8_undo_10 rfl (lv_at hl 0 rfl) ?_
    refine lv_dup hx hb dX8_undo_11 rfl ?_
    refine va_get (D := (dC, dI)) (ci := 8) (v := .int ((M.1 0 4))) (C := RX8) (T := TX8) (N := 29) hx hb hg inX8 hown hKn.1 hP (0) (m_at8 (c := 0) (by decide)) rfl 4 (Nat.le_of_ble_eq_true rfl) (hg _ lkF_X8_63) (fun _ h9 => h9) rfl dX8_undo_12 ?_
    refine lv_iconst (v := 1) hx hb dX8_undo_15 (by decide) ?_
    refine lv_isub hx hb dX8_undo_16 ?_
    refine va_put (D := (dC, dI)) (ci := 8) (v := .int (((M.1 0 4) - 1))) (ty := .int) (C := RX8) (T := TX8) (N := 29) hx hb hg inX8 tyX8 tyX8_ok nmX8 hown hKn.1 hP (m_D hKn.2.1) hS (0) (m_at8 (c := 0) (by decide)) rfl 4 (Nat.le_of_ble_eq_true rfl) (hg _ lkF_X8_63) (fun _ h9 => h9) rfl (by decide +kernel) rfl rfl (Nat.le_of_ble_eq_true rfl) dX8_undo_17 (fun H locs hP _ hS => ?_)
    have hP : va_P (dC, dI) vwCl (m_w kI kZ ad (um M 0 4 ((M.1 0 4) - 1)).1 (um M 0 4 ((M.1 0 4) - 1)).2) H := vp_eq (m_put8_4 (by decide) _) hP
    refine lv_aload_n hx hb dX8_undo_20 rfl (lv_at hl 0 rfl) ?_
    refine va_get (D := (dC, dI)) (ci := 8) (v := .ref (ad (4))) (C := RX8) (T := TX8) (N := 29) hx hb hg inX8 hown hKn.1 hP (0) (m_at8 (c := 0) (by decide)) rfl 3 (Nat.le_of_ble_eq_true rfl) (hg _ lkF_X8_19) (fun _ h9 => h9) rfl dX8_undo_21 ?_
    refine lv_bipush (v := 17) hx hb dX8_undo_24 (by decide) ?_
    refine lv_aload_n hx hb dX8_undo_26 rfl (lv_at hl 0 rfl) ?_
    refine va_get (D := (dC, dI)) (ci := 8) (v := .int (((um M 0 4 ((M.1 0 4) - 1)).1 0 4))) (C := RX8) (T := TX8) (N := 29) hx hb hg inX8 hown hKn.1 hP (0) (m_at8 (c := 0) (by decide)) rfl 4 (Nat.le_of_ble_eq_true rfl) (hg _ lkF_X8_63) (fun _ h9 => h9) rfl dX8_undo_27 ?_
    refine lv_imul hx hb dX8_undo_30 ?_
    refine lv_aload_n hx hb dX8_undo_31 rfl (lv_at hl 0 rfl) ?_
    refine va_get (D := (dC, dI)) (ci := 8) (v := .ref (ad (3))) (C := RX8) (T := TX8) (N := 29) hx hb hg inX8 hown hKn.1 hP (0) (m_at8 (c := 0) (by decide)) rfl 2 (Nat.le_of_ble_eq_true rfl) (hg _ lkF_X8_16) (fun _ h9 => h9) rfl dX8_undo_32 ?_
    refine lv_iconst (v := 0) hx hb dX8_undo_35 (by decide) ?_
    refine lv_bipush (v := 17) hx hb dX8_undo_36 (by decide) ?_
    obtain ⟨M_2, e38, h⟩ := bo_use h
    refine gc_v (va_runS (As := [.ref (ad (4)), .int ((17 * ((um M 0 4 ((M.1 0 4) - 1)).1 0 4))), .ref (ad (3)), .int (0), .int (17)]) (rest := []) hFx (tX8_copies l dC dI kI kZ ad 4 (17 * ((um M 0 4 ((M.1 0 4) - 1)).1 0 4)) 3 0 17 (um M 0 4 ((M.1 0 4) - 1)) (by decide) (by decide) e38) ⟨(gc_B hFx ck_yX8_copies lkM_X8_165 ⟨Nat.le_of_ble_eq_true rfl, Nat.le_of_ble_eq_true rfl⟩ rfl rfl), hg _ st_yX8_copies⟩ (gp_S m_KnB (m_KnW hKn) hP) rfl rfl hl.1 rfl (lv_room (Nat.le_of_ble_eq_true rfl)) dX8_undo_38 ⟨Nat.zero_le _, Nat.zero_le _⟩) hS (fun H locs hP hS => ?_)
    have hP : va_P (dC, dI) vwCl (m_w kI kZ ad M_2.1 M_2.2) H := hP
    refine lv_aload_n hx hb dX8_undo_41 rfl (lv_at hl 0 rfl) ?_
    refine va_get (D := (dC, dI)) (ci := 8) (v := .int ((M_2.1 0 4))) (C := RX8) (T := TX8) (N := 29) hx hb hg inX8 hown hKn.1 hP (0) (m_at8 (c := 0) (by decide)) rfl 4 (Nat.le_of_ble_eq_true rfl) (hg _ lkF_X8_63) (fun _ h9 => h9) rfl dX8_undo_42 ?_
    exact W.iret (v := (M_2.1 0 4)) hx hb hr (fun t ht hW => ⟨⟨(M_2.1 0 4), M_2, rfl, Prod.mk.inj (Option.some.inj h), by rw [ht]; exact hP, m_KnW hKn t hW⟩, hS.F ht⟩) hS.2.2 dX8_undo_45
  · have h := ife_t c_1 h
    refine lv_ldc hx hb hown (hg _ kc_X8_179) dX8_undo_7 ?_
    exact W.iret (v := (-1000000003)) hx hb hr (fun t ht hW => ⟨⟨(-1000000003), M, rfl, Prod.mk.inj (Option.some.inj h), by rw [ht]; exact hP, m_KnW hKn t hW⟩, hS.F ht⟩) hS.2.2 dX8_undo_9
noncomputable def FX8_worn_L4 (M : MM) (K : Int32 → Option Int32) (k : Nat) (v1_2 : Int32) (v2_3 : Int32) : Option Int32 := match k with
  | 0 => none
  | k + 1 => (if (M.1 1 2) ≤ v2_3 then K v1_2 else bo (FX8_byOf v2_3 M) (fun (r_5 : Int32) => (if inb (5 + v2_3) 17 then (if (1 + (M.1 3 (ix (5 + v2_3)))) = 0 then none else jn (α := Int32 → Option Int32) (fun (s_6 : Int32) => FX8_worn_L4 M K k (v1_2 ||| s_6) (v2_3 + 1)) (fun J41 => (if (r_5 / (1 + (M.1 3 (ix (5 + v2_3))))) = 0 then J41 (1 <<< (v2_3 &&& 31)) else J41 0))) else none)))
noncomputable def FX8_worn  (M : MM) : Option Int32 :=
  FX8_worn_L4 M (fun (k1_1 : Int32) => some k1_1) fuelN 0 0
set_option maxHeartbeats 4000000 in
set_option maxRecDepth 100000 in
theorem tX8_worn (l : Launch) (dC : Nat → ClassId) (dI : Nat → Nat → Nat) (kI kZ : ClassId) (ad : Nat → Nat)  (M : MM)  {r0 : Int32} (h : FX8_worn  M = some r0) : Met l yX8_worn (wsA yX8_worn cX8_worn 3 (some .int)) ({ frames := 1, cells := 0, slots := 0, locals := 21 } : Room) (va_Pc [.ref (ad (0))] (gI (m_Wd dC dI kI kZ ad) (m_Kn dC dI kI kZ ad) M)) (va_Qi (fun (r : Int32) (u : MM) => r = r0 ∧ u = M) (gI (m_Wd dC dI kI kZ ad) (m_Kn dC dI kI kZ ad)) (m_A ad)) 0 0 (m_A ad) := by
  refine Met.ofW (cc := cX8_worn) (maxL := 3) (ret := (some .int)) (by decide) rfl ?_
  intro p e s m args below meth c s₁ B hml hv
  obtain ⟨rfl, hP, hKn⟩ := hv
  have hx := B.exec
  have hb := B.bytes
  have hr := B.returns
  have hts := atoms_spec (ws := wsA yX8_worn cX8_worn 3 (some .int)) B.pre
  have hg : ∀ w ∈ lw_good, w.before _ s = true := fun w h => hts w (List.mem_cons_of_mem _ h)
  have hown : s.vm.findClass RX8 = some m.cls := findClass_of_methodNamed B.named
  have hlocks := B.notSynchronized
  have hS : va_S (m_A ad) s.heap s.heap [] := va_S.rf
  have hFx : gFix p c cX8_worn 3 s m _ RX8 := ⟨hx, hb, hml, hown, hg⟩
  have hP : va_P (dC, dI) vwCl (m_w kI kZ ad M.1 M.2) s.heap := hP
  have hl := lv_entry ([.ref (ad (0))]) (n := 3) (Nat.le_of_ble_eq_true rfl)
  rw [lg_entry_eq]
  generalize (lg_sl ([.ref (ad (0))]) ++ List.replicate (3 - (lg_sl ([.ref (ad (0))])).length) Slot.unset).toArray = ls at hl ⊢
  have hl : lv_has ls 3 [(0, .ref (ad (0)))] := hl
  unfold FX8_worn at h
  refine lv_iconst (v := 0) hx hb dX8_worn_0 (by decide) ?_
  refine lv_istore_n (lv' := [(1, .int (0)), (0, .ref (ad (0)))]) hx hb dX8_worn_1 rfl hl (Nat.le_of_ble_eq_true rfl) rfl (fun ls hl => ?_)
  refine lv_iconst (v := 0) hx hb dX8_worn_2 (by decide) ?_
  refine lv_istore_n (lv' := [(2, .int (0)), (1, .int (0)), (0, .ref (ad (0)))]) hx hb dX8_worn_3 rfl hl (Nat.le_of_ble_eq_true rfl) rfl (fun ls hl => ?_)
  obtain ⟨K4, eK4, h⟩ := exK (Lp := fun K => FX8_worn_L4 M K fuelN 0 0) h
  have hK4 : ∀ (k1_1 : Int32) (H : Heap) (locs : List Loc) (ls : Array Slot), va_P (dC, dI) vwCl (m_w kI kZ ad M.1 M.2) H → va_S (m_A ad) s.heap H locs → lv_has ls 3 [(1, .int (k1_1))] → K4 k1_1 = some r0 → W p l e (headSpec (wsA yX8_worn cX8_worn 3 (some .int)) ({ frames := 1, cells := 0, slots := 0, locals := 21 } : Room)).room s m (([.ref (ad (0))] : List Value).toArray) below meth c H locs 0 0 (MQ below (va_Qi (fun (r : Int32) (u : MM) => r = r0 ∧ u = M) (gI (m_Wd dC dI kI kZ ad) (m_Kn dC dI kI kZ ad)) (m_A ad)) (([.ref (ad (0))] : List Value).toArray) s 0 0 (m_A ad)) (F0 m 49 ls []) := by
    intro k1_1 H locs ls hP hS hl h
    have h := useK1 eK4 h
    refine lv_iload_n hx hb dX8_worn_49 rfl (lv_at hl 0 rfl) ?_
    exact W.iret (v := k1_1) hx hb hr (fun t ht hW => ⟨⟨k1_1, M, rfl, ⟨Option.some.inj h, rfl⟩, by rw [ht]; exact hP, m_KnW hKn t hW⟩, hS.F ht⟩) hS.2.2 dX8_worn_50
  have hL4 : ∀ (k : Nat) (v1_2 : Int32) (v2_3 : Int32) (H : Heap) (locs : List Loc) (ls : Array Slot), va_P (dC, dI) vwCl (m_w kI kZ ad M.1 M.2) H → va_S (m_A ad) s.heap H locs → lv_has ls 3 [(0, .ref (ad (0))), (1, .int (v1_2)), (2, .int (v2_3))] → FX8_worn_L4 M K4 k v1_2 v2_3 = some r0 → W p l e (headSpec (wsA yX8_worn cX8_worn 3 (some .int)) ({ frames := 1, cells := 0, slots := 0, locals := 21 } : Room)).room s m (([.ref (ad (0))] : List Value).toArray) below meth c H locs 0 0 (MQ below (va_Qi (fun (r : Int32) (u : MM) => r = r0 ∧ u = M) (gI (m_Wd dC dI kI kZ ad) (m_Kn dC dI kI kZ ad)) (m_A ad)) (([.ref (ad (0))] : List Value).toArray) s 0 0 (m_A ad)) (F0 m 4 ls []) := by
    intro k
    induction k with
    | zero => intro v1_2 v2_3 H locs ls hP hS hl h; cases h
    | succ k ih4 =>
      intro v1_2 v2_3 H locs ls hP hS hl h
      unfold FX8_worn_L4 at h
      refine lv_iload_n hx hb dX8_worn_4 rfl (lv_at hl 2 rfl) ?_
      refine lv_aload_n hx hb dX8_worn_5 rfl (lv_at hl 0 rfl) ?_
      refine va_get (D := (dC, dI)) (ci := 8) (v := .ref (ad (1))) (C := RX8) (T := TX8) (N := 29) hx hb hg inX8 hown hKn.1 hP (0) (m_at8 (c := 0) (by decide)) rfl 0 (Nat.le_of_ble_eq_true rfl) (hg _ lkF_X8_7) (fun _ h9 => h9) rfl dX8_worn_6 ?_
      refine lv_iconst (v := 2) hx hb dX8_worn_9 (by decide) ?_
      refine m_iald (M := M) (a := 1) hx hb hKn hP (by decide) (j := 2) (by decide) (by decide) dX8_worn_10 ?_
      refine lv_icmp_ge (tgt := 49) hx hb dX8_worn_11 (by decide) (fun c_4 => ?_) (fun c_4 => ?_)
      · have h := ife_t c_4 h
        exact hK4 v1_2 _ _ _ hP hS (lv_sub hl [1] rfl) h
      · have h := ife_f c_4 h
        refine lv_iload_n hx hb dX8_worn_14 rfl (lv_at hl 1 rfl) ?_
        refine lv_aload_n hx hb dX8_worn_15 rfl (lv_at hl 0 rfl) ?_
        refine lv_iload_n hx hb dX8_worn_16 rfl (lv_at hl 2 rfl) ?_
        obtain ⟨r_5, e17, h⟩ := bo_use h
        refine gc_i (va_runV (As := [.int (v2_3)]) (rest := [.int (v1_2)]) hFx (tX8_byOf l dC dI kI kZ ad v2_3 M  e17) ⟨(gc_B hFx ck_yX8_byOf lkM_X8_155 ⟨Nat.le_of_ble_eq_true rfl, Nat.le_of_ble_eq_true rfl⟩ rfl rfl), hg _ vi_yX8_byOf, hg _ vs_yX8_byOf⟩ (gp_V m_KnB (m_KnW hKn) hP (m_rc8 (c := 0) (by decide) hKn hP)) rfl rfl hl.1 rfl (lv_room (Nat.le_of_ble_eq_true rfl)) dX8_worn_17 ⟨Nat.zero_le _, Nat.zero_le _⟩) hS (fun H locs hP hS => ?_)
        have hP : va_P (dC, dI) vwCl (m_w kI kZ ad M.1 M.2) H := hP
        refine lv_iconst (v := 1) hx hb dX8_worn_20 (by decide) ?_
        refine lv_aload_n hx hb dX8_worn_21 rfl (lv_at hl 0 rfl) ?_
        refine va_get (D := (dC, dI)) (ci := 8) (v := .ref (ad (3))) (C := RX8) (T := TX8) (N := 29) hx hb hg inX8 hown hKn.1 hP (0) (m_at8 (c := 0) (by decide)) rfl 2 (Nat.le_of_ble_eq_true rfl) (hg _ lkF_X8_16) (fun _ h9 => h9) rfl dX8_worn_22 ?_
        refine lv_iconst (v := 5) hx hb dX8_worn_25 (by decide) ?_
        refine lv_iload_n hx hb dX8_worn_26 rfl (lv_at hl 2 rfl) ?_
        refine lv_iadd hx hb dX8_worn_27 ?_
        obtain ⟨hi28, h⟩ := if_use h
        refine m_iald (M := M) (a := 3) hx hb hKn hP (by decide) (j := (ix (5 + v2_3))) rfl hi28 dX8_worn_28 ?_
        refine lv_iadd hx hb dX8_worn_29 ?_
        obtain ⟨hd30, h⟩ := ifn_use h
        refine lv_idiv hx hb dX8_worn_30 hd30 ?_
        obtain ⟨J41, eJ41, h⟩ := jn_use h
        have hJ41 : ∀ (s_6 : Int32) (H : Heap) (locs : List Loc) (ls : Array Slot), va_P (dC, dI) vwCl (m_w kI kZ ad M.1 M.2) H → va_S (m_A ad) s.heap H locs → lv_has ls 3 [(0, .ref (ad (0))), (2, .int (v2_3))] → J41 s_6 = some r0 → W p l e (headSpec (wsA yX8_worn cX8_worn 3 (some .int)) ({ frames := 1, cells := 0, slots := 0, locals := 21 } : Room)).room s m (([.ref (ad (0))] : List Value).toArray) below meth c H locs 0 0 (MQ below (va_Qi (fun (r : Int32) (u : MM) => r = r0 ∧ u = M) (gI (m_Wd dC dI kI kZ ad) (m_Kn dC dI kI kZ ad)) (m_A ad)) (([.ref (ad (0))] : List Value).toArray) s 0 0 (m_A ad)) (F0 m 41 ls [.int (s_6), .int (v1_2)]) := by
          intro s_6 H locs ls hP hS hl h
          have h := useK1 eJ41 h
          refine lv_ior hx hb dX8_worn_41 ?_
          refine lv_istore_n (lv' := [(1, .int ((v1_2 ||| s_6))), (0, .ref (ad (0))), (2, .int (v2_3))]) hx hb dX8_worn_42 rfl hl (Nat.le_of_ble_eq_true rfl) rfl (fun ls hl => ?_)
          refine lv_iinc (v := (v2_3 + 1)) (lv' := [(2, .int ((v2_3 + 1))), (1, .int ((v1_2 ||| s_6))), (0, .ref (ad (0)))]) hx hb dX8_worn_43 hl (k := 2) rfl rfl (Nat.le_of_ble_eq_true rfl) rfl (fun ls hl => ?_)
          refine lv_goto (tgt := 4) hx hb dX8_worn_46 (by decide) ?_
          exact ih4 (v1_2 ||| s_6) (v2_3 + 1) _ _ _ hP hS (lv_sub hl [2, 1, 0] rfl) h
        refine lv_if_ne (tgt := 40) hx hb dX8_worn_31 (by decide) (fun c_7 => ?_) (fun c_7 => ?_)
        · have h := ife_f c_7 h
          refine lv_iconst (v := 0) hx hb dX8_worn_40 (by decide) ?_
          exact hJ41 0 _ _ _ hP hS (lv_sub hl [0, 2] rfl) h
        · have h := ife_t c_7 h
          refine lv_iconst (v := 1) hx hb dX8_worn_34 (by decide) ?_
          refine lv_iload_n hx hb dX8_worn_35 rfl (lv_at hl 2 rfl) ?_
          refine lv_ishl hx hb dX8_worn_36 ?_
          refine lv_goto (tgt := 41) hx hb dX8_worn_37 (by decide) ?_
          exact hJ41 (1 <<< (v2_3 &&& 31)) _ _ _ hP hS (lv_sub hl [0, 2] rfl) h
  exact hL4 fuelN 0 0 _ _ _ hP hS (lv_sub hl [2, 1, 0] rfl) h
noncomputable def FX8_write (a1 : Int32) (a2 : Int32) (M : MM) : Option (Int32 × MM) :=
  bo (FX8_isOpinion a1 M) (fun (r_1 : Int32) => (if r_1 = 0 then some ((-1000000001), M) else bo (FX8_in ((a2).toInt64) 0 20) (fun (r_3 : Int32) => (if r_3 = 0 then some ((-1000000002), M) else (if (M.1 0 14) = 15 then some ((-1000000004), M) else (if inb (2 * (M.1 0 14)) 30 then (if inb ((2 * ((um M 9 (ix (2 * (M.1 0 14))) a1).1 0 14)) + 1) 30 then some (((um (um (um M 9 (ix (2 * (M.1 0 14))) a1) 9 (ix ((2 * ((um M 9 (ix (2 * (M.1 0 14))) a1).1 0 14)) + 1)) a2) 0 14 (((um (um M 9 (ix (2 * (M.1 0 14))) a1) 9 (ix ((2 * ((um M 9 (ix (2 * (M.1 0 14))) a1).1 0 14)) + 1)) a2).1 0 14) + 1)).1 0 14), um (um (um M 9 (ix (2 * (M.1 0 14))) a1) 9 (ix ((2 * ((um M 9 (ix (2 * (M.1 0 14))) a1).1 0 14)) + 1)) a2) 0 14 (((um (um M 9 (ix (2 * (M.1 0 14))) a1) 9 (ix ((2 * ((um M 9 (ix (2 * (M.1 0 14))) a1).1 0 14)) + 1)) a2).1 0 14) + 1)) else none) else none))))))
set_option maxHeartbeats 4000000 in
set_option maxRecDepth 100000 in
theorem tX8_write (l : Launch) (dC : Nat → ClassId) (dI : Nat → Nat → Nat) (kI kZ : ClassId) (ad : Nat → Nat) (a1 : Int32) (a2 : Int32) (M : MM)  {r0 : Int32} {M0 : MM} (h : FX8_write a1 a2 M = some (r0, M0)) : Met l yX8_write (wsA yX8_write cX8_write 3 (some .int)) ({ frames := 2, cells := 0, slots := 0, locals := 46 } : Room) (va_Pc [.ref (ad (0)), .int (a1), .int (a2)] (gI (m_Wd dC dI kI kZ ad) (m_Kn dC dI kI kZ ad) M)) (va_Qi (fun (r : Int32) (u : MM) => r = r0 ∧ u = M0) (gI (m_Wd dC dI kI kZ ad) (m_Kn dC dI kI kZ ad)) (m_A ad)) 0 0 (m_A ad) := by
  refine Met.ofW (cc := cX8_write) (maxL := 3) (ret := (some .int)) (by decide) rfl ?_
  intro p e s m args below meth c s₁ B hml hv
  obtain ⟨rfl, hP, hKn⟩ := hv
  have hx := B.exec
  have hb := B.bytes
  have hr := B.returns
  have hts := atoms_spec (ws := wsA yX8_write cX8_write 3 (some .int)) B.pre
  have hg : ∀ w ∈ lw_good, w.before _ s = true := fun w h => hts w (List.mem_cons_of_mem _ h)
  have hown : s.vm.findClass RX8 = some m.cls := findClass_of_methodNamed B.named
  have hlocks := B.notSynchronized
  have hS : va_S (m_A ad) s.heap s.heap [] := va_S.rf
  have hFx : gFix p c cX8_write 3 s m _ RX8 := ⟨hx, hb, hml, hown, hg⟩
  have hP : va_P (dC, dI) vwCl (m_w kI kZ ad M.1 M.2) s.heap := hP
  have hl := lv_entry ([.ref (ad (0)), .int (a1), .int (a2)]) (n := 3) (Nat.le_of_ble_eq_true rfl)
  rw [lg_entry_eq]
  generalize (lg_sl ([.ref (ad (0)), .int (a1), .int (a2)]) ++ List.replicate (3 - (lg_sl ([.ref (ad (0)), .int (a1), .int (a2)])).length) Slot.unset).toArray = ls at hl ⊢
  have hl : lv_has ls 3 [(0, .ref (ad (0))), (1, .int (a1)), (2, .int (a2))] := hl
  unfold FX8_write at h
  refine lv_aload_n hx hb dX8_write_0 rfl (lv_at hl 0 rfl) ?_
  refine lv_iload_n hx hb dX8_write_1 rfl (lv_at hl 1 rfl) ?_
  obtain ⟨r_1, e2, h⟩ := bo_use h
  refine gc_i (va_runV (As := [.int (a1)]) (rest := []) hFx (tX8_isOpinion l dC dI kI kZ ad a1 M  e2) ⟨(gc_B hFx ck_yX8_isOpinion lkM_X8_140 ⟨Nat.le_of_ble_eq_true rfl, Nat.le_of_ble_eq_true rfl⟩ rfl rfl), hg _ vi_yX8_isOpinion, hg _ vs_yX8_isOpinion⟩ (gp_V m_KnB (m_KnW hKn) hP (m_rc8 (c := 0) (by decide) hKn hP)) rfl rfl hl.1 rfl (lv_room (Nat.le_of_ble_eq_true rfl)) dX8_write_2 ⟨Nat.zero_le _, Nat.zero_le _⟩) hS (fun H locs hP hS => ?_)
  have hP : va_P (dC, dI) vwCl (m_w kI kZ ad M.1 M.2) H := hP
  refine lv_if_ne (tgt := 11) hx hb dX8_write_5 (by decide) (fun c_2 => ?_) (fun c_2 => ?_)
  · have h := ife_f c_2 h
    refine lv_iload_n hx hb dX8_write_11 rfl (lv_at hl 2 rfl) ?_
    refine lv_i2l (v := ((a2).toInt64)) hx hb dX8_write_12 rfl ?_
    refine lv_lconst (v := 0) hx hb dX8_write_13 (by decide) ?_
    refine lv_ldc2 hx hb hown (hg _ kc_X8_188) dX8_write_14 ?_
    obtain ⟨r_3, e17, h⟩ := bo_use h
    refine gc_i (va_runS (As := [.long (((a2).toInt64)), .long (0), .long (20)]) (rest := []) hFx (tX8_in l dC dI kI kZ ad ((a2).toInt64) 0 20 M  e17) ⟨(gc_B hFx ck_yX8_in lkM_X8_74 ⟨Nat.le_of_ble_eq_true rfl, Nat.le_of_ble_eq_true rfl⟩ rfl rfl), hg _ st_yX8_in⟩ (gp_S m_KnB (m_KnW hKn) hP) rfl rfl hl.1 rfl (lv_room (Nat.le_of_ble_eq_true rfl)) dX8_write_17 ⟨Nat.zero_le _, Nat.zero_le _⟩) hS (fun H locs hP hS => ?_)
    have hP : va_P (dC, dI) vwCl (m_w kI kZ ad M.1 M.2) H := hP
    refine lv_if_ne (tgt := 26) hx hb dX8_write_20 (by decide) (fun c_4 => ?_) (fun c_4 => ?_)
    · have h := ife_f c_4 h
      refine lv_aload_n hx hb dX8_write_26 rfl (lv_at hl 0 rfl) ?_
      refine va_get (D := (dC, dI)) (ci := 8) (v := .int ((M.1 0 14))) (C := RX8) (T := TX8) (N := 29) hx hb hg inX8 hown hKn.1 hP (0) (m_at8 (c := 0) (by decide)) rfl 14 (Nat.le_of_ble_eq_true rfl) (hg _ lkF_X8_69) (fun _ h9 => h9) rfl dX8_write_27 ?_
      refine lv_bipush (v := 15) hx hb dX8_write_30 (by decide) ?_
      refine lv_icmp_ne (tgt := 38) hx hb dX8_write_32 (by decide) (fun c_5 => ?_) (fun c_5 => ?_)
      · have h := ife_f c_5 h
        refine lv_aload_n hx hb dX8_write_38 rfl (lv_at hl 0 rfl) ?_
        refine va_get (D := (dC, dI)) (ci := 8) (v := .ref (ad (9))) (C := RX8) (T := TX8) (N := 29) hx hb hg inX8 hown hKn.1 hP (0) (m_at8 (c := 0) (by decide)) rfl 13 (Nat.le_of_ble_eq_true rfl) (hg _ lkF_X8_39) (fun _ h9 => h9) rfl dX8_write_39 ?_
        refine lv_iconst (v := 2) hx hb dX8_write_42 (by decide) ?_
        refine lv_aload_n hx hb dX8_write_43 rfl (lv_at hl 0 rfl) ?_
        refine va_get (D := (dC, dI)) (ci := 8) (v := .int ((M.1 0 14))) (C := RX8) (T := TX8) (N := 29) hx hb hg inX8 hown hKn.1 hP (0) (m_at8 (c := 0) (by decide)) rfl 14 (Nat.le_of_ble_eq_true rfl) (hg _ lkF_X8_69) (fun _ h9 => h9) rfl dX8_write_44 ?_
        refine lv_imul hx hb dX8_write_47 ?_
        refine lv_iload_n hx hb dX8_write_48 rfl (lv_at hl 1 rfl) ?_
        obtain ⟨hi49, h⟩ := if_use h
        refine m_iast (M := M) (a := 9) hx hb hKn hP hS (by decide) (x := a1) (j := (ix (2 * (M.1 0 14)))) rfl hi49 dX8_write_49 (fun H locs hP hS => ?_)
        have hP : va_P (dC, dI) vwCl (m_w kI kZ ad (um M 9 (ix (2 * (M.1 0 14))) a1).1 (um M 9 (ix (2 * (M.1 0 14))) a1).2) H := hP
        refine lv_aload_n hx hb dX8_write_50 rfl (lv_at hl 0 rfl) ?_
        refine va_get (D := (dC, dI)) (ci := 8) (v := .ref (ad (9))) (C := RX8) (T := TX8) (N := 29) hx hb hg inX8 hown hKn.1 hP (0) (m_at8 (c := 0) (by decide)) rfl 13 (Nat.le_of_ble_eq_true rfl) (hg _ lkF_X8_39) (fun _ h9 => h9) rfl dX8_write_51 ?_
        refine lv_iconst (v := 2) hx hb dX8_write_54 (by decide) ?_
        refine lv_aload_n hx hb dX8_write_55 rfl (lv_at hl 0 rfl) ?_
        refine va_get (D := (dC, dI)) (ci := 8) (v := .int (((um M 9 (ix (2 * (M.1 0 14))) a1).1 0 14))) (C := RX8) (T := TX8) (N := 29) hx hb hg inX8 hown hKn.1 hP (0) (m_at8 (c := 0) (by decide)) rfl 14 (Nat.le_of_ble_eq_true rfl) (hg _ lkF_X8_69) (fun _ h9 => h9) rfl dX8_write_56 ?_
        refine lv_imul hx hb dX8_write_59 ?_
        refine lv_iconst (v := 1) hx hb dX8_write_60 (by decide) ?_
        refine lv_iadd hx hb dX8_write_61 ?_
        refine lv_iload_n hx hb dX8_write_62 rfl (lv_at hl 2 rfl) ?_
        obtain ⟨hi63, h⟩ := if_use h
        refine m_iast (M := (um M 9 (ix (2 * (M.1 0 14))) a1)) (a := 9) hx hb hKn hP hS (by decide) (x := a2) (j := (ix ((2 * ((um M 9 (ix (2 * (M.1 0 14))) a1).1 0 14)) + 1))) rfl hi63 dX8_write_63 (fun H locs hP hS => ?_)
        have hP : va_P (dC, dI) vwCl (m_w kI kZ ad (um (um M 9 (ix (2 * (M.1 0 14))) a1) 9 (ix ((2 * ((um M 9 (ix (2 * (M.1 0 14))) a1).1 0 14)) + 1)) a2).1 (um (um M 9 (ix (2 * (M.1 0 14))) a1) 9 (ix ((2 * ((um M 9 (ix (2 * (M.1 0 14))) a1).1 0 14)) + 1)) a2).2) H := hP
        refine lv_aload_n hx hb dX8_write_64 rfl (lv_at hl 0 rfl) ?_
        refine lv_dup hx hb dX8_write_65 rfl ?_
        refine va_get (D := (dC, dI)) (ci := 8) (v := .int (((um (um M 9 (ix (2 * (M.1 0 14))) a1) 9 (ix ((2 * ((um M 9 (ix (2 * (M.1 0 14))) a1).1 0 14)) + 1)) a2).1 0 14))) (C := RX8) (T := TX8) (N := 29) hx hb hg inX8 hown hKn.1 hP (0) (m_at8 (c := 0) (by decide)) rfl 14 (Nat.le_of_ble_eq_true rfl) (hg _ lkF_X8_69) (fun _ h9 => h9) rfl dX8_write_66 ?_
        refine lv_iconst (v := 1) hx hb dX8_write_69 (by decide) ?_
        refine lv_iadd hx hb dX8_write_70 ?_
        refine va_put (D := (dC, dI)) (ci := 8) (v := .int ((((um (um M 9 (ix (2 * (M.1 0 14))) a1) 9 (ix ((2 * ((um M 9 (ix (2 * (M.1 0 14))) a1).1 0 14)) + 1)) a2).1 0 14) + 1))) (ty := .int) (C := RX8) (T := TX8) (N := 29) hx hb hg inX8 tyX8 tyX8_ok nmX8 hown hKn.1 hP (m_D hKn.2.1) hS (0) (m_at8 (c := 0) (by decide)) rfl 14 (Nat.le_of_ble_eq_true rfl) (hg _ lkF_X8_69) (fun _ h9 => h9) rfl (by decide +kernel) rfl rfl (Nat.le_of_ble_eq_true rfl) dX8_write_71 (fun H locs hP _ hS => ?_)
        have hP : va_P (dC, dI) vwCl (m_w kI kZ ad (um (um (um M 9 (ix (2 * (M.1 0 14))) a1) 9 (ix ((2 * ((um M 9 (ix (2 * (M.1 0 14))) a1).1 0 14)) + 1)) a2) 0 14 (((um (um M 9 (ix (2 * (M.1 0 14))) a1) 9 (ix ((2 * ((um M 9 (ix (2 * (M.1 0 14))) a1).1 0 14)) + 1)) a2).1 0 14) + 1)).1 (um (um (um M 9 (ix (2 * (M.1 0 14))) a1) 9 (ix ((2 * ((um M 9 (ix (2 * (M.1 0 14))) a1).1 0 14)) + 1)) a2) 0 14 (((um (um M 9 (ix (2 * (M.1 0 14))) a1) 9 (ix ((2 * ((um M 9 (ix (2 * (M.1 0 14))) a1).1 0 14)) + 1)) a2).1 0 14) + 1)).2) H := vp_eq (m_put8_14 (by decide) _) hP
        refine lv_aload_n hx hb dX8_write_74 rfl (lv_at hl 0 rfl) ?_
        refine va_get (D := (dC, dI)) (ci := 8) (v := .int (((um (um (um M 9 (ix (2 * (M.1 0 14))) a1) 9 (ix ((2 * ((um M 9 (ix (2 * (M.1 0 14))) a1).1 0 14)) + 1)) a2) 0 14 (((um (um M 9 (ix (2 * (M.1 0 14))) a1) 9 (ix ((2 * ((um M 9 (ix (2 * (M.1 0 14))) a1).1 0 14)) + 1)) a2).1 0 14) + 1)).1 0 14))) (C := RX8) (T := TX8) (N := 29) hx hb hg inX8 hown hKn.1 hP (0) (m_at8 (c := 0) (by decide)) rfl 14 (Nat.le_of_ble_eq_true rfl) (hg _ lkF_X8_69) (fun _ h9 => h9) rfl dX8_write_75 ?_
        exact W.iret (v := ((um (um (um M 9 (ix (2 * (M.1 0 14))) a1) 9 (ix ((2 * ((um M 9 (ix (2 * (M.1 0 14))) a1).1 0 14)) + 1)) a2) 0 14 (((um (um M 9 (ix (2 * (M.1 0 14))) a1) 9 (ix ((2 * ((um M 9 (ix (2 * (M.1 0 14))) a1).1 0 14)) + 1)) a2).1 0 14) + 1)).1 0 14)) hx hb hr (fun t ht hW => ⟨⟨((um (um (um M 9 (ix (2 * (M.1 0 14))) a1) 9 (ix ((2 * ((um M 9 (ix (2 * (M.1 0 14))) a1).1 0 14)) + 1)) a2) 0 14 (((um (um M 9 (ix (2 * (M.1 0 14))) a1) 9 (ix ((2 * ((um M 9 (ix (2 * (M.1 0 14))) a1).1 0 14)) + 1)) a2).1 0 14) + 1)).1 0 14), um (um (um M 9 (ix (2 * (M.1 0 14))) a1) 9 (ix ((2 * ((um M 9 (ix (2 * (M.1 0 14))) a1).1 0 14)) + 1)) a2) 0 14 (((um (um M 9 (ix (2 * (M.1 0 14))) a1) 9 (ix ((2 * ((um M 9 (ix (2 * (M.1 0 14))) a1).1 0 14)) + 1)) a2).1 0 14) + 1), rfl, Prod.mk.inj (Option.some.inj h), by rw [ht]; exact hP, m_KnW hKn t hW⟩, hS.F ht⟩) hS.2.2 dX8_write_78
      · have h := ife_t c_5 h
        refine lv_ldc hx hb hown (hg _ kc_X8_82) dX8_write_35 ?_
        exact W.iret (v := (-1000000004)) hx hb hr (fun t ht hW => ⟨⟨(-1000000004), M, rfl, Prod.mk.inj (Option.some.inj h), by rw [ht]; exact hP, m_KnW hKn t hW⟩, hS.F ht⟩) hS.2.2 dX8_write_37
    · have h := ife_t c_4 h
      refine lv_ldc hx hb hown (hg _ kc_X8_78) dX8_write_23 ?_
      exact W.iret (v := (-1000000002)) hx hb hr (fun t ht hW => ⟨⟨(-1000000002), M, rfl, Prod.mk.inj (Option.some.inj h), by rw [ht]; exact hP, m_KnW hKn t hW⟩, hS.F ht⟩) hS.2.2 dX8_write_25
  · have h := ife_t c_2 h
    refine lv_ldc hx hb hown (hg _ kc_X8_143) dX8_write_8 ?_
    exact W.iret (v := (-1000000001)) hx hb hr (fun t ht hW => ⟨⟨(-1000000001), M, rfl, Prod.mk.inj (Option.some.inj h), by rw [ht]; exact hP, m_KnW hKn t hW⟩, hS.F ht⟩) hS.2.2 dX8_write_10
