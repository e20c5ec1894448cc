noncomputable def FJ6_bitCount_0f7a4 (a0 : Int32) : Option Int32 :=
  lt ((a0 - (((Int32.toUInt32 a0 >>> (Int32.toUInt32 1 &&& Int32.toUInt32 31)).toInt32) &&& 1431655765))) (fun (x0_1 : Int32) => lt (((x0_1 &&& 858993459) + (((Int32.toUInt32 x0_1 >>> (Int32.toUInt32 2 &&& Int32.toUInt32 31)).toInt32) &&& 858993459))) (fun (x0_2 : Int32) => lt (((x0_2 + ((Int32.toUInt32 x0_2 >>> (Int32.toUInt32 4 &&& Int32.toUInt32 31)).toInt32)) &&& 252645135)) (fun (x0_3 : Int32) => lt ((x0_3 + ((Int32.toUInt32 x0_3 >>> (Int32.toUInt32 8 &&& Int32.toUInt32 31)).toInt32))) (fun (x0_4 : Int32) => lt ((x0_4 + ((Int32.toUInt32 x0_4 >>> (Int32.toUInt32 16 &&& Int32.toUInt32 31)).toInt32))) (fun (x0_5 : Int32) => some (x0_5 &&& 63))))))
set_option maxHeartbeats 4000000 in
set_option maxRecDepth 100000 in
theorem tJ6_bitCount_0f7a4 (l : Launch) (dC : Nat → ClassId) (dI : Nat → Nat → Nat) (kI : ClassId) (ad : Nat → Nat) (a0 : Int32) (M : (Nat → Nat → Int32))  {r0 : Int32} (h : FJ6_bitCount_0f7a4 a0 = some r0) : Met l yJ6_bitCount_0f7a4 (wsA yJ6_bitCount_0f7a4 cJ6_bitCount_0f7a4 1 (some .int)) ({ frames := 0, cells := 0, slots := 0, locals := 0 } : Room) (va_Pc [.int (a0)] (gI (x_Wd dC dI kI ad) (x_Kn dC dI kI ad) M)) (va_Qi (fun (r : Int32) (u : (Nat → Nat → Int32)) => r = r0 ∧ u = M) (gI (x_Wd dC dI kI ad) (x_Kn dC dI kI ad)) (x_A ad)) 0 0 (x_A ad) := by
  refine Met.ofW (cc := cJ6_bitCount_0f7a4) (maxL := 1) (ret := (some .int)) (by decide) rfl ?_
  intro p e s m args below meth c s₁ B hml hv
  obtain ⟨rfl, hP, hKn⟩ := hv
  have hx := B.exec
  have hb := B.bytes
  have hr := B.returns
  have hts := atoms_spec (ws := wsA yJ6_bitCount_0f7a4 cJ6_bitCount_0f7a4 1 (some .int)) B.pre
  have hg : ∀ w ∈ lw_good, w.before _ s = true := fun w h => hts w (List.mem_cons_of_mem _ h)
  have hown : s.vm.findClass RJ6 = some m.cls := findClass_of_methodNamed B.named
  have hlocks := B.notSynchronized
  have hS : va_S (x_A ad) s.heap s.heap [] := va_S.rf
  have hFx : gFix p c cJ6_bitCount_0f7a4 1 s m _ RJ6 := ⟨hx, hb, hml, hown, hg⟩
  have hP : va_P (dC, dI) vwCl (x_w kI ad M) s.heap := hP
  have hl := lv_entry ([.int (a0)]) (n := 1) (Nat.le_of_ble_eq_true rfl)
  rw [lg_entry_eq]
  generalize (lg_sl ([.int (a0)]) ++ List.replicate (1 - (lg_sl ([.int (a0)])).length) Slot.unset).toArray = ls at hl ⊢
  have hl : lv_has ls 1 [(0, .int (a0))] := hl
  unfold FJ6_bitCount_0f7a4 at h
  refine lv_iload_n hx hb dJ6_bitCount_0f7a4_0 rfl (lv_at hl 0 rfl) ?_
  refine lv_iload_n hx hb dJ6_bitCount_0f7a4_1 rfl (lv_at hl 0 rfl) ?_
  refine lv_iconst (v := 1) hx hb dJ6_bitCount_0f7a4_2 (by decide) ?_
  refine lv_iushr (v := (Int32.toUInt32 a0 >>> (Int32.toUInt32 1 &&& Int32.toUInt32 31)).toInt32) hx hb dJ6_bitCount_0f7a4_3 rfl ?_
  refine lv_ldcw hx hb hown (hg _ kc_J6_265) dJ6_bitCount_0f7a4_4 ?_
  refine lv_iand hx hb dJ6_bitCount_0f7a4_7 ?_
  refine lv_isub hx hb dJ6_bitCount_0f7a4_8 ?_
  refine lv_topi (fun x0_1 ex0_1 => ?_)
  have h := lt_use ex0_1 h
  refine lv_istore_n (lv' := [(0, .int (x0_1))]) hx hb dJ6_bitCount_0f7a4_9 rfl hl (Nat.le_of_ble_eq_true rfl) rfl (fun ls hl => ?_)
  refine lv_iload_n hx hb dJ6_bitCount_0f7a4_10 rfl (lv_at hl 0 rfl) ?_
  refine lv_ldcw hx hb hown (hg _ kc_J6_266) dJ6_bitCount_0f7a4_11 ?_
  refine lv_iand hx hb dJ6_bitCount_0f7a4_14 ?_
  refine lv_iload_n hx hb dJ6_bitCount_0f7a4_15 rfl (lv_at hl 0 rfl) ?_
  refine lv_iconst (v := 2) hx hb dJ6_bitCount_0f7a4_16 (by decide) ?_
  refine lv_iushr (v := (Int32.toUInt32 x0_1 >>> (Int32.toUInt32 2 &&& Int32.toUInt32 31)).toInt32) hx hb dJ6_bitCount_0f7a4_17 rfl ?_
  refine lv_ldcw hx hb hown (hg _ kc_J6_266) dJ6_bitCount_0f7a4_18 ?_
  refine lv_iand hx hb dJ6_bitCount_0f7a4_21 ?_
  refine lv_iadd hx hb dJ6_bitCount_0f7a4_22 ?_
  refine lv_topi (fun x0_2 ex0_2 => ?_)
  have h := lt_use ex0_2 h
  refine lv_istore_n (lv' := [(0, .int (x0_2))]) hx hb dJ6_bitCount_0f7a4_23 rfl hl (Nat.le_of_ble_eq_true rfl) rfl (fun ls hl => ?_)
  refine lv_iload_n hx hb dJ6_bitCount_0f7a4_24 rfl (lv_at hl 0 rfl) ?_
  refine lv_iload_n hx hb dJ6_bitCount_0f7a4_25 rfl (lv_at hl 0 rfl) ?_
  refine lv_iconst (v := 4) hx hb dJ6_bitCount_0f7a4_26 (by decide) ?_
  refine lv_iushr (v := (Int32.toUInt32 x0_2 >>> (Int32.toUInt32 4 &&& Int32.toUInt32 31)).toInt32) hx hb dJ6_bitCount_0f7a4_27 rfl ?_
  refine lv_iadd hx hb dJ6_bitCount_0f7a4_28 ?_
  refine lv_ldcw hx hb hown (hg _ kc_J6_267) dJ6_bitCount_0f7a4_29 ?_
  refine lv_iand hx hb dJ6_bitCount_0f7a4_32 ?_
  refine lv_topi (fun x0_3 ex0_3 => ?_)
  have h := lt_use ex0_3 h
  refine lv_istore_n (lv' := [(0, .int (x0_3))]) hx hb dJ6_bitCount_0f7a4_33 rfl hl (Nat.le_of_ble_eq_true rfl) rfl (fun ls hl => ?_)
  refine lv_iload_n hx hb dJ6_bitCount_0f7a4_34 rfl (lv_at hl 0 rfl) ?_
  refine lv_iload_n hx hb dJ6_bitCount_0f7a4_35 rfl (lv_at hl 0 rfl) ?_
  refine lv_bipush (v := 8) hx hb dJ6_bitCount_0f7a4_36 (by decide) ?_
  refine lv_iushr (v := (Int32.toUInt32 x0_3 >>> (Int32.toUInt32 8 &&& Int32.toUInt32 31)).toInt32) hx hb dJ6_bitCount_0f7a4_38 rfl ?_
  refine lv_iadd hx hb dJ6_bitCount_0f7a4_39 ?_
  refine lv_topi (fun x0_4 ex0_4 => ?_)
  have h := lt_use ex0_4 h
  refine lv_istore_n (lv' := [(0, .int (x0_4))]) hx hb dJ6_bitCount_0f7a4_40 rfl hl (Nat.le_of_ble_eq_true rfl) rfl (fun ls hl => ?_)
  refine lv_iload_n hx hb dJ6_bitCount_0f7a4_41 rfl (lv_at hl 0 rfl) ?_
  refine lv_iload_n hx hb dJ6_bitCount_0f7a4_42 rfl (lv_at hl 0 rfl) ?_
  refine lv_bipush (v := 16) hx hb dJ6_bitCount_0f7a4_43 (by decide) ?_
  refine lv_iushr (v := (Int32.toUInt32 x0_4 >>> (Int32.toUInt32 16 &&& Int32.toUInt32 31)).toInt32) hx hb dJ6_bitCount_0f7a4_45 rfl ?_
  refine lv_iadd hx hb dJ6_bitCount_0f7a4_46 ?_
  refine lv_topi (fun x0_5 ex0_5 => ?_)
  have h := lt_use ex0_5 h
  refine lv_istore_n (lv' := [(0, .int (x0_5))]) hx hb dJ6_bitCount_0f7a4_47 rfl hl (Nat.le_of_ble_eq_true rfl) rfl (fun ls hl => ?_)
  refine lv_iload_n hx hb dJ6_bitCount_0f7a4_48 rfl (lv_at hl 0 rfl) ?_
  refine lv_bipush (v := 63) hx hb dJ6_bitCount_0f7a4_49 (by decide) ?_
  refine lv_iand hx hb dJ6_bitCount_0f7a4_51 ?_
  exact W.iret (v := (x0_5 &&& 63)) hx hb hr (fun t ht hW => ⟨⟨(x0_5 &&& 63), M, rfl, ⟨Option.some.inj h, rfl⟩, by rw [ht]; exact hP, x_KnW hKn t hW⟩, hS.F ht⟩) hS.2.2 dJ6_bitCount_0f7a4_52
noncomputable def FX7_put (c0 : Nat) (a1 : Int32) (a2 : Int32) (M : (Nat → Nat → Int32)) : Option (Nat → Nat → Int32) :=
  (if a1 < 0 then some M else (if (Int32.ofNat (x_len c0)) ≤ a1 then some M else (if inb a1 (x_len c0) then some (upd2 M c0 (ix a1) a2) else none)))
set_option maxHeartbeats 4000000 in
set_option maxRecDepth 100000 in
theorem tX7_put (l : Launch) (dC : Nat → ClassId) (dI : Nat → Nat → Nat) (kI : ClassId) (ad : Nat → Nat) (c0 : Nat) (a1 : Int32) (a2 : Int32) (M : (Nat → Nat → Int32)) (h0 : x_arr c0) {M0 : (Nat → Nat → Int32)} (h : FX7_put c0 a1 a2 M = some M0) : Met l yX7_put (wsA yX7_put cX7_put 3 none) ({ frames := 0, cells := 0, slots := 0, locals := 0 } : Room) (va_Pc [.ref (ad (c0)), .int (a1), .int (a2)] (gI (x_Wd dC dI kI ad) (x_Kn dC dI kI ad) M)) (va_Qv (fun (u : (Nat → Nat → Int32)) => u = M0) (gI (x_Wd dC dI kI ad) (x_Kn dC dI kI ad)) (x_A ad)) 0 0 (x_A ad) := by
  refine Met.ofW (cc := cX7_put) (maxL := 3) (ret := none) (by decide) rfl ?_
  intro p e s m args below meth c s₁ B hml hv
  obtain ⟨rfl, hP, hKn⟩ := hv
  have hx := B.exec
  have hb := B.bytes
  have hr := B.returns
  have hts := atoms_spec (ws := wsA yX7_put cX7_put 3 none) B.pre
  have hg : ∀ w ∈ lw_good, w.before _ s = true := fun w h => hts w (List.mem_cons_of_mem _ h)
  have hown : s.vm.findClass RX7 = some m.cls := findClass_of_methodNamed B.named
  have hlocks := B.notSynchronized
  have hS : va_S (x_A ad) s.heap s.heap [] := va_S.rf
  have hFx : gFix p c cX7_put 3 s m _ RX7 := ⟨hx, hb, hml, hown, hg⟩
  have hP : va_P (dC, dI) vwCl (x_w kI ad M) s.heap := hP
  have hl := lv_entry ([.ref (ad (c0)), .int (a1), .int (a2)]) (n := 3) (Nat.le_of_ble_eq_true rfl)
  rw [lg_entry_eq]
  generalize (lg_sl ([.ref (ad (c0)), .int (a1), .int (a2)]) ++ List.replicate (3 - (lg_sl ([.ref (ad (c0)), .int (a1), .int (a2)])).length) Slot.unset).toArray = ls at hl ⊢
  have hl : lv_has ls 3 [(0, .ref (ad (c0))), (1, .int (a1)), (2, .int (a2))] := hl
  unfold FX7_put at h
  refine lv_iload_n hx hb dX7_put_0 rfl (lv_at hl 1 rfl) ?_
  refine lv_if_lt (tgt := 14) hx hb dX7_put_1 (by decide) (fun c_1 => ?_) (fun c_1 => ?_)
  · have h := ife_t c_1 h
    exact W.vret hx hb hr (fun t ht hW => ⟨⟨M, rfl, Option.some.inj h, by rw [ht]; exact hP, x_KnW hKn t hW⟩, hS.F ht⟩) hS.2.2 dX7_put_14
  · have h := ife_f c_1 h
    refine lv_iload_n hx hb dX7_put_4 rfl (lv_at hl 1 rfl) ?_
    refine lv_aload_n hx hb dX7_put_5 rfl (lv_at hl 0 rfl) ?_
    refine x_alen (M := M) (a := c0) hx hb hKn hP h0 dX7_put_6 ?_
    refine lv_icmp_ge (tgt := 14) hx hb dX7_put_7 (by decide) (fun c_2 => ?_) (fun c_2 => ?_)
    · have h := ife_t c_2 h
      exact W.vret hx hb hr (fun t ht hW => ⟨⟨M, rfl, Option.some.inj h, by rw [ht]; exact hP, x_KnW hKn t hW⟩, hS.F ht⟩) hS.2.2 dX7_put_14
    · have h := ife_f c_2 h
      refine lv_aload_n hx hb dX7_put_10 rfl (lv_at hl 0 rfl) ?_
      refine lv_iload_n hx hb dX7_put_11 rfl (lv_at hl 1 rfl) ?_
      refine lv_iload_n hx hb dX7_put_12 rfl (lv_at hl 2 rfl) ?_
      obtain ⟨hi13, h⟩ := if_use h
      refine x_iast (M := M) (a := c0) hx hb hKn hP hS h0 (x := a2) (j := (ix a1)) rfl hi13 dX7_put_13 (fun H locs hP hS => ?_)
      have hP : va_P (dC, dI) vwCl (x_w kI ad (upd2 M c0 (ix a1) a2)) H := hP
      exact W.vret hx hb hr (fun t ht hW => ⟨⟨upd2 M c0 (ix a1) a2, rfl, Option.some.inj h, by rw [ht]; exact hP, x_KnW hKn t hW⟩, hS.F ht⟩) hS.2.2 dX7_put_14
noncomputable def FX0_append (c0 : Nat) (a1 : Int32) (a2 : Int32) (M : (Nat → Nat → Int32)) : Option (Int32 × (Nat → Nat → Int32)) :=
  (if (M c0 2) < (Int32.ofNat (x_len (c0 + 1))) then bo (FX7_put (c0 + 1) (M c0 2) a1 M) (fun (M_2 : (Nat → Nat → Int32)) => bo (FX7_put (c0 + 2) (M_2 c0 2) a2 M_2) (fun (M_3 : (Nat → Nat → Int32)) => some (1, upd2 M_3 c0 2 ((M_3 c0 2) + 1)))) else some (0, M))
set_option maxHeartbeats 4000000 in
set_option maxRecDepth 100000 in
theorem tX0_append (l : Launch) (dC : Nat → ClassId) (dI : Nat → Nat → Nat) (kI : ClassId) (ad : Nat → Nat) (c0 : Nat) (a1 : Int32) (a2 : Int32) (M : (Nat → Nat → Int32)) (h0 : x_is0 c0) {r0 : Int32} {M0 : (Nat → Nat → Int32)} (h : FX0_append c0 a1 a2 M = some (r0, M0)) : Met l yX0_append (wsA yX0_append cX0_append 3 (some .boolean)) ({ frames := 1, cells := 0, slots := 0, locals := 22 } : Room) (va_Pc [.ref (ad (c0)), .int (a1), .int (a2)] (gI (x_Wd dC dI kI ad) (x_Kn dC dI kI ad) M)) (va_Qi (fun (r : Int32) (u : (Nat → Nat → Int32)) => r = r0 ∧ u = M0) (gI (x_Wd dC dI kI ad) (x_Kn dC dI kI ad)) (x_A ad)) 0 0 (x_A ad) := by
  refine Met.ofW (cc := cX0_append) (maxL := 3) (ret := (some .boolean)) (by decide) rfl ?_
  intro p e s m args below meth c s₁ B hml hv
  obtain ⟨rfl, hP, hKn⟩ := hv
  have hx := B.exec
  have hb := B.bytes
  have hr := B.returns
  have hts := atoms_spec (ws := wsA yX0_append cX0_append 3 (some .boolean)) B.pre
  have hg : ∀ w ∈ lw_good, w.before _ s = true := fun w h => hts w (List.mem_cons_of_mem _ h)
  have hown : s.vm.findClass RX0 = some m.cls := findClass_of_methodNamed B.named
  have hlocks := B.notSynchronized
  have hS : va_S (x_A ad) s.heap s.heap [] := va_S.rf
  have hFx : gFix p c cX0_append 3 s m _ RX0 := ⟨hx, hb, hml, hown, hg⟩
  have hP : va_P (dC, dI) vwCl (x_w kI ad M) s.heap := hP
  have hl := lv_entry ([.ref (ad (c0)), .int (a1), .int (a2)]) (n := 3) (Nat.le_of_ble_eq_true rfl)
  rw [lg_entry_eq]
  generalize (lg_sl ([.ref (ad (c0)), .int (a1), .int (a2)]) ++ List.replicate (3 - (lg_sl ([.ref (ad (c0)), .int (a1), .int (a2)])).length) Slot.unset).toArray = ls at hl ⊢
  have hl : lv_has ls 3 [(0, .ref (ad (c0))), (1, .int (a1)), (2, .int (a2))] := hl
  unfold FX0_append at h
  refine lv_aload_n hx hb dX0_append_0 rfl (lv_at hl 0 rfl) ?_
  refine va_get (D := (dC, dI)) (ci := 0) (v := .int ((M c0 2))) (C := RX0) (T := TX0) (N := 3) hx hb hg inX0 hown hKn.1 hP (c0) (x_at0 (c := c0) h0) rfl 2 (Nat.le_of_ble_eq_true rfl) (hg _ lkF_X0_9) (fun _ h9 => h9) rfl dX0_append_1 ?_
  refine lv_aload_n hx hb dX0_append_4 rfl (lv_at hl 0 rfl) ?_
  refine va_get (D := (dC, dI)) (ci := 0) (v := .ref (ad ((c0 + 1)))) (C := RX0) (T := TX0) (N := 3) hx hb hg inX0 hown hKn.1 hP (c0) (x_at0 (c := c0) h0) rfl 0 (Nat.le_of_ble_eq_true rfl) (hg _ lkF_X0_21) (fun _ h9 => h9) rfl dX0_append_5 ?_
  refine x_alen (M := M) (a := (c0 + 1)) hx hb hKn hP (x_ar0_1 h0) dX0_append_8 ?_
  refine lv_icmp_lt (tgt := 14) hx hb dX0_append_9 (by decide) (fun c_1 => ?_) (fun c_1 => ?_)
  · have h := ife_t c_1 h
    refine lv_aload_n hx hb dX0_append_14 rfl (lv_at hl 0 rfl) ?_
    refine va_get (D := (dC, dI)) (ci := 0) (v := .ref (ad ((c0 + 1)))) (C := RX0) (T := TX0) (N := 3) hx hb hg inX0 hown hKn.1 hP (c0) (x_at0 (c := c0) h0) rfl 0 (Nat.le_of_ble_eq_true rfl) (hg _ lkF_X0_21) (fun _ h9 => h9) rfl dX0_append_15 ?_
    refine lv_aload_n hx hb dX0_append_18 rfl (lv_at hl 0 rfl) ?_
    refine va_get (D := (dC, dI)) (ci := 0) (v := .int ((M c0 2))) (C := RX0) (T := TX0) (N := 3) hx hb hg inX0 hown hKn.1 hP (c0) (x_at0 (c := c0) h0) rfl 2 (Nat.le_of_ble_eq_true rfl) (hg _ lkF_X0_9) (fun _ h9 => h9) rfl dX0_append_19 ?_
    refine lv_iload_n hx hb dX0_append_22 rfl (lv_at hl 1 rfl) ?_
    obtain ⟨M_2, e23, h⟩ := bo_use h
    refine gc_v (va_runSN (As := [.ref (ad ((c0 + 1))), .int ((M c0 2)), .int (a1)]) (rest := []) hFx (tX7_put l dC dI kI ad (c0 + 1) (M c0 2) a1 M (x_ar0_1 h0) e23) ⟨(gc_N hFx hKn.2.2 ck_yX7_put nkM_X0_28 ⟨Nat.le_of_ble_eq_true rfl, Nat.le_of_ble_eq_true rfl⟩ rfl rfl), hg _ st_yX7_put, trivial⟩ (gp_S x_KnB (x_KnW hKn) hP) rfl rfl hl.1 rfl (lv_room (Nat.le_of_ble_eq_true rfl)) dX0_append_23 ⟨Nat.zero_le _, Nat.zero_le _⟩) hS (fun H locs hP hS => ?_)
    have hP : va_P (dC, dI) vwCl (x_w kI ad M_2) H := hP
    refine lv_aload_n hx hb dX0_append_26 rfl (lv_at hl 0 rfl) ?_
    refine va_get (D := (dC, dI)) (ci := 0) (v := .ref (ad ((c0 + 2)))) (C := RX0) (T := TX0) (N := 3) hx hb hg inX0 hown hKn.1 hP (c0) (x_at0 (c := c0) h0) rfl 1 (Nat.le_of_ble_eq_true rfl) (hg _ lkF_X0_25) (fun _ h9 => h9) rfl dX0_append_27 ?_
    refine lv_aload_n hx hb dX0_append_30 rfl (lv_at hl 0 rfl) ?_
    refine va_get (D := (dC, dI)) (ci := 0) (v := .int ((M_2 c0 2))) (C := RX0) (T := TX0) (N := 3) hx hb hg inX0 hown hKn.1 hP (c0) (x_at0 (c := c0) h0) rfl 2 (Nat.le_of_ble_eq_true rfl) (hg _ lkF_X0_9) (fun _ h9 => h9) rfl dX0_append_31 ?_
    refine lv_iload_n hx hb dX0_append_34 rfl (lv_at hl 2 rfl) ?_
    obtain ⟨M_3, e35, h⟩ := bo_use h
    refine gc_v (va_runSN (As := [.ref (ad ((c0 + 2))), .int ((M_2 c0 2)), .int (a2)]) (rest := []) hFx (tX7_put l dC dI kI ad (c0 + 2) (M_2 c0 2) a2 M_2 (x_ar0_2 h0) e35) ⟨(gc_N hFx hKn.2.2 ck_yX7_put nkM_X0_28 ⟨Nat.le_of_ble_eq_true rfl, Nat.le_of_ble_eq_true rfl⟩ rfl rfl), hg _ st_yX7_put, trivial⟩ (gp_S x_KnB (x_KnW hKn) hP) rfl rfl hl.1 rfl (lv_room (Nat.le_of_ble_eq_true rfl)) dX0_append_35 ⟨Nat.zero_le _, Nat.zero_le _⟩) hS (fun H locs hP hS => ?_)
    have hP : va_P (dC, dI) vwCl (x_w kI ad M_3) H := hP
    refine lv_aload_n hx hb dX0_append_38 rfl (lv_at hl 0 rfl) ?_
    refine lv_dup hx hb dX0_append_39 rfl ?_
    refine va_get (D := (dC, dI)) (ci := 0) (v := .int ((M_3 c0 2))) (C := RX0) (T := TX0) (N := 3) hx hb hg inX0 hown hKn.1 hP (c0) (x_at0 (c := c0) h0) rfl 2 (Nat.le_of_ble_eq_true rfl) (hg _ lkF_X0_9) (fun _ h9 => h9) rfl dX0_append_40 ?_
    refine lv_iconst (v := 1) hx hb dX0_append_43 (by decide) ?_
    refine lv_iadd hx hb dX0_append_44 ?_
    refine va_put (D := (dC, dI)) (ci := 0) (v := .int (((M_3 c0 2) + 1))) (ty := .int) (C := RX0) (T := TX0) (N := 3) hx hb hg inX0 tyX0 tyX0_ok nmX0 hown hKn.1 hP (x_D hKn.2.1) hS (c0) (x_at0 (c := c0) h0) rfl 2 (Nat.le_of_ble_eq_true rfl) (hg _ lkF_X0_9) (fun _ h9 => h9) rfl (by decide +kernel) rfl rfl (Nat.le_of_ble_eq_true rfl) dX0_append_45 (fun H locs hP _ hS => ?_)
    have hP : va_P (dC, dI) vwCl (x_w kI ad (upd2 M_3 c0 2 ((M_3 c0 2) + 1))) H := vp_eq (x_put0_2 h0 _) hP
    refine lv_iconst (v := 1) hx hb dX0_append_48 (by decide) ?_
    exact W.zret (v := 1) hx hb hr rfl (fun t ht hW => ⟨⟨1, upd2 M_3 c0 2 ((M_3 c0 2) + 1), rfl, ⟨congrArg Prod.fst (Option.some.inj h), congrArg Prod.snd (Option.some.inj h)⟩, by rw [ht]; exact hP, x_KnW hKn t hW⟩, hS.F ht⟩) hS.2.2 dX0_append_49
  · have h := ife_f c_1 h
    refine lv_iconst (v := 0) hx hb dX0_append_12 (by decide) ?_
    exact W.zret (v := 0) hx hb hr rfl (fun t ht hW => ⟨⟨0, M, rfl, ⟨congrArg Prod.fst (Option.some.inj h), congrArg Prod.snd (Option.some.inj h)⟩, by rw [ht]; exact hP, x_KnW hKn t hW⟩, hS.F ht⟩) hS.2.2 dX0_append_13
noncomputable def FX0_clear (c0 : Nat) (M : (Nat → Nat → Int32)) : Option (Nat → Nat → Int32) :=
  some (upd2 M c0 2 0)
set_option maxHeartbeats 4000000 in
set_option maxRecDepth 100000 in
theorem tX0_clear (l : Launch) (dC : Nat → ClassId) (dI : Nat → Nat → Nat) (kI : ClassId) (ad : Nat → Nat) (c0 : Nat) (M : (Nat → Nat → Int32)) (h0 : x_is0 c0) {M0 : (Nat → Nat → Int32)} (h : FX0_clear c0 M = some M0) : Met l yX0_clear (wsA yX0_clear cX0_clear 1 none) ({ frames := 0, cells := 0, slots := 0, locals := 0 } : Room) (va_Pc [.ref (ad (c0))] (gI (x_Wd dC dI kI ad) (x_Kn dC dI kI ad) M)) (va_Qv (fun (u : (Nat → Nat → Int32)) => u = M0) (gI (x_Wd dC dI kI ad) (x_Kn dC dI kI ad)) (x_A ad)) 0 0 (x_A ad) := by
  refine Met.ofW (cc := cX0_clear) (maxL := 1) (ret := none) (by decide) rfl ?_
  intro p e s m args below meth c s₁ B hml hv
  obtain ⟨rfl, hP, hKn⟩ := hv
  have hx := B.exec
  have hb := B.bytes
  have hr := B.returns
  have hts := atoms_spec (ws := wsA yX0_clear cX0_clear 1 none) B.pre
  have hg : ∀ w ∈ lw_good, w.before _ s = true := fun w h => hts w (List.mem_cons_of_mem _ h)
  have hown : s.vm.findClass RX0 = some m.cls := findClass_of_methodNamed B.named
  have hlocks := B.notSynchronized
  have hS : va_S (x_A ad) s.heap s.heap [] := va_S.rf
  have hFx : gFix p c cX0_clear 1 s m _ RX0 := ⟨hx, hb, hml, hown, hg⟩
  have hP : va_P (dC, dI) vwCl (x_w kI ad M) s.heap := hP
  have hl := lv_entry ([.ref (ad (c0))]) (n := 1) (Nat.le_of_ble_eq_true rfl)
  rw [lg_entry_eq]
  generalize (lg_sl ([.ref (ad (c0))]) ++ List.replicate (1 - (lg_sl ([.ref (ad (c0))])).length) Slot.unset).toArray = ls at hl ⊢
  have hl : lv_has ls 1 [(0, .ref (ad (c0)))] := hl
  unfold FX0_clear at h
  refine lv_aload_n hx hb dX0_clear_0 rfl (lv_at hl 0 rfl) ?_
  refine lv_iconst (v := 0) hx hb dX0_clear_1 (by decide) ?_
  refine va_put (D := (dC, dI)) (ci := 0) (v := .int (0)) (ty := .int) (C := RX0) (T := TX0) (N := 3) hx hb hg inX0 tyX0 tyX0_ok nmX0 hown hKn.1 hP (x_D hKn.2.1) hS (c0) (x_at0 (c := c0) h0) rfl 2 (Nat.le_of_ble_eq_true rfl) (hg _ lkF_X0_9) (fun _ h9 => h9) rfl (by decide +kernel) rfl rfl (Nat.le_of_ble_eq_true rfl) dX0_clear_2 (fun H locs hP _ hS => ?_)
  have hP : va_P (dC, dI) vwCl (x_w kI ad (upd2 M c0 2 0)) H := vp_eq (x_put0_2 h0 _) hP
  exact W.vret hx hb hr (fun t ht hW => ⟨⟨upd2 M c0 2 0, rfl, Option.some.inj h, by rw [ht]; exact hP, x_KnW hKn t hW⟩, hS.F ht⟩) hS.2.2 dX0_clear_5
noncomputable def FX7_at (c0 : Nat) (a1 : Int32) (M : (Nat → Nat → Int32)) : Option Int32 :=
  (if a1 < 0 then some 0 else (if (Int32.ofNat (x_len c0)) ≤ a1 then some 0 else (if inb a1 (x_len c0) then some (M c0 (ix a1)) else none)))
set_option maxHeartbeats 4000000 in
set_option maxRecDepth 100000 in
theorem tX7_at (l : Launch) (dC : Nat → ClassId) (dI : Nat → Nat → Nat) (kI : ClassId) (ad : Nat → Nat) (c0 : Nat) (a1 : Int32) (M : (Nat → Nat → Int32)) (h0 : x_arr c0) {r0 : Int32} (h : FX7_at c0 a1 M = some r0) : Met l yX7_at (wsA yX7_at cX7_at 2 (some .int)) ({ frames := 0, cells := 0, slots := 0, locals := 0 } : Room) (va_Pc [.ref (ad (c0)), .int (a1)] (gI (x_Wd dC dI kI ad) (x_Kn dC dI kI ad) M)) (va_Qi (fun (r : Int32) (u : (Nat → Nat → Int32)) => r = r0 ∧ u = M) (gI (x_Wd dC dI kI ad) (x_Kn dC dI kI ad)) (x_A ad)) 0 0 (x_A ad) := by
  refine Met.ofW (cc := cX7_at) (maxL := 2) (ret := (some .int)) (by decide) rfl ?_
  intro p e s m args below meth c s₁ B hml hv
  obtain ⟨rfl, hP, hKn⟩ := hv
  have hx := B.exec
  have hb := B.bytes
  have hr := B.returns
  have hts := atoms_spec (ws := wsA yX7_at cX7_at 2 (some .int)) B.pre
  have hg : ∀ w ∈ lw_good, w.before _ s = true := fun w h => hts w (List.mem_cons_of_mem _ h)
  have hown : s.vm.findClass RX7 = some m.cls := findClass_of_methodNamed B.named
  have hlocks := B.notSynchronized
  have hS : va_S (x_A ad) s.heap s.heap [] := va_S.rf
  have hFx : gFix p c cX7_at 2 s m _ RX7 := ⟨hx, hb, hml, hown, hg⟩
  have hP : va_P (dC, dI) vwCl (x_w kI ad M) s.heap := hP
  have hl := lv_entry ([.ref (ad (c0)), .int (a1)]) (n := 2) (Nat.le_of_ble_eq_true rfl)
  rw [lg_entry_eq]
  generalize (lg_sl ([.ref (ad (c0)), .int (a1)]) ++ List.replicate (2 - (lg_sl ([.ref (ad (c0)), .int (a1)])).length) Slot.unset).toArray = ls at hl ⊢
  have hl : lv_has ls 2 [(0, .ref (ad (c0))), (1, .int (a1))] := hl
  unfold FX7_at at h
  refine lv_iload_n hx hb dX7_at_0 rfl (lv_at hl 1 rfl) ?_
  refine lv_if_lt (tgt := 16) hx hb dX7_at_1 (by decide) (fun c_1 => ?_) (fun c_1 => ?_)
  · have h := ife_t c_1 h
    refine lv_iconst (v := 0) hx hb dX7_at_16 (by decide) ?_
    exact W.iret (v := 0) hx hb hr (fun t ht hW => ⟨⟨0, M, rfl, ⟨Option.some.inj h, rfl⟩, by rw [ht]; exact hP, x_KnW hKn t hW⟩, hS.F ht⟩) hS.2.2 dX7_at_17
  · have h := ife_f c_1 h
    refine lv_iload_n hx hb dX7_at_4 rfl (lv_at hl 1 rfl) ?_
    refine lv_aload_n hx hb dX7_at_5 rfl (lv_at hl 0 rfl) ?_
    refine x_alen (M := M) (a := c0) hx hb hKn hP h0 dX7_at_6 ?_
    refine lv_icmp_ge (tgt := 16) hx hb dX7_at_7 (by decide) (fun c_2 => ?_) (fun c_2 => ?_)
    · have h := ife_t c_2 h
      refine lv_iconst (v := 0) hx hb dX7_at_16 (by decide) ?_
      exact W.iret (v := 0) hx hb hr (fun t ht hW => ⟨⟨0, M, rfl, ⟨Option.some.inj h, rfl⟩, by rw [ht]; exact hP, x_KnW hKn t hW⟩, hS.F ht⟩) hS.2.2 dX7_at_17
    · have h := ife_f c_2 h
      refine lv_aload_n hx hb dX7_at_10 rfl (lv_at hl 0 rfl) ?_
      refine lv_iload_n hx hb dX7_at_11 rfl (lv_at hl 1 rfl) ?_
      obtain ⟨hi12, h⟩ := if_use h
      refine x_iald (M := M) (a := c0) hx hb hKn hP h0 (j := (ix a1)) rfl hi12 dX7_at_12 ?_
      refine lv_goto (tgt := 17) hx hb dX7_at_13 (by decide) ?_
      exact W.iret (v := (M c0 (ix a1))) hx hb hr (fun t ht hW => ⟨⟨(M c0 (ix a1)), M, rfl, ⟨Option.some.inj h, rfl⟩, by rw [ht]; exact hP, x_KnW hKn t hW⟩, hS.F ht⟩) hS.2.2 dX7_at_17
noncomputable def FX0_firstOtherwise_L2 (c0 : Nat) (c1 : Nat) (M : (Nat → Nat → Int32)) (K : Option Int32) (k : Nat) (v2_1 : Int32) : Option Int32 := match k with
  | 0 => none
  | k + 1 => (if (M c0 2) ≤ v2_1 then K else bo (FX7_at (c0 + 1) v2_1 M) (fun (r_3 : Int32) => bo (FX7_at (c1 + 1) r_3 M) (fun (r_4 : Int32) => bo (FX7_at (c0 + 2) v2_1 M) (fun (r_5 : Int32) => (if r_4 = r_5 then FX0_firstOtherwise_L2 c0 c1 M K k (v2_1 + 1) else some v2_1)))))
noncomputable def FX0_firstOtherwise (c0 : Nat) (c1 : Nat) (M : (Nat → Nat → Int32)) : Option Int32 :=
  FX0_firstOtherwise_L2 c0 c1 M (some (-1)) fuelN 0
set_option maxHeartbeats 4000000 in
set_option maxRecDepth 100000 in
theorem tX0_firstOtherwise (l : Launch) (dC : Nat → ClassId) (dI : Nat → Nat → Nat) (kI : ClassId) (ad : Nat → Nat) (c0 : Nat) (c1 : Nat) (M : (Nat → Nat → Int32)) (h0 : x_is0 c0) (h1 : x_is3 c1) {r0 : Int32} (h : FX0_firstOtherwise c0 c1 M = some r0) : Met l yX0_firstOtherwise (wsA yX0_firstOtherwise cX0_firstOtherwise 3 (some .int)) ({ frames := 1, cells := 0, slots := 0, locals := 21 } : Room) (va_Pc [.ref (ad (c0)), .ref (ad (c1))] (gI (x_Wd dC dI kI ad) (x_Kn dC dI kI ad) M)) (va_Qi (fun (r : Int32) (u : (Nat → Nat → Int32)) => r = r0 ∧ u = M) (gI (x_Wd dC dI kI ad) (x_Kn dC dI kI ad)) (x_A ad)) 0 0 (x_A ad) := by
  refine Met.ofW (cc := cX0_firstOtherwise) (maxL := 3) (ret := (some .int)) (by decide) rfl ?_
  intro p e s m args below meth c s₁ B hml hv
  obtain ⟨rfl, hP, hKn⟩ := hv
  have hx := B.exec
  have hb := B.bytes
  have hr := B.returns
  have hts := atoms_spec (ws := wsA yX0_firstOtherwise cX0_firstOtherwise 3 (some .int)) B.pre
  have hg : ∀ w ∈ lw_good, w.before _ s = true := fun w h => hts w (List.mem_cons_of_mem _ h)
  have hown : s.vm.findClass RX0 = some m.cls := findClass_of_methodNamed B.named
  have hlocks := B.notSynchronized
  have hS : va_S (x_A ad) s.heap s.heap [] := va_S.rf
  have hFx : gFix p c cX0_firstOtherwise 3 s m _ RX0 := ⟨hx, hb, hml, hown, hg⟩
  have hP : va_P (dC, dI) vwCl (x_w kI ad M) s.heap := hP
  have hl := lv_entry ([.ref (ad (c0)), .ref (ad (c1))]) (n := 3) (Nat.le_of_ble_eq_true rfl)
  rw [lg_entry_eq]
  generalize (lg_sl ([.ref (ad (c0)), .ref (ad (c1))]) ++ List.replicate (3 - (lg_sl ([.ref (ad (c0)), .ref (ad (c1))])).length) Slot.unset).toArray = ls at hl ⊢
  have hl : lv_has ls 3 [(0, .ref (ad (c0))), (1, .ref (ad (c1)))] := hl
  unfold FX0_firstOtherwise at h
  refine lv_iconst (v := 0) hx hb dX0_firstOtherwise_0 (by decide) ?_
  refine lv_istore_n (lv' := [(2, .int (0)), (0, .ref (ad (c0))), (1, .ref (ad (c1)))]) hx hb dX0_firstOtherwise_1 rfl hl (Nat.le_of_ble_eq_true rfl) rfl (fun ls hl => ?_)
  obtain ⟨K2, eK2, h⟩ := exK (Lp := fun K => FX0_firstOtherwise_L2 c0 c1 M K fuelN 0) h
  have hK2 : ∀  (H : Heap) (locs : List Loc) (ls : Array Slot), va_P (dC, dI) vwCl (x_w kI ad M) H → va_S (x_A ad) s.heap H locs → lv_has ls 3 [] → K2  = some r0 → W p l e (headSpec (wsA yX0_firstOtherwise cX0_firstOtherwise 3 (some .int)) ({ frames := 1, cells := 0, slots := 0, locals := 21 } : Room)).room s m (([.ref (ad (c0)), .ref (ad (c1))] : List Value).toArray) below meth c H locs 0 0 (MQ below (va_Qi (fun (r : Int32) (u : (Nat → Nat → Int32)) => r = r0 ∧ u = M) (gI (x_Wd dC dI kI ad) (x_Kn dC dI kI ad)) (x_A ad)) (([.ref (ad (c0)), .ref (ad (c1))] : List Value).toArray) s 0 0 (x_A ad)) (F0 m 44 ls []) := by
    intro  H locs ls hP hS hl h
    have h := useK0 eK2 h
    refine lv_iconst (v := -1) hx hb dX0_firstOtherwise_44 (by decide) ?_
    exact W.iret (v := (-1)) hx hb hr (fun t ht hW => ⟨⟨(-1), M, rfl, ⟨Option.some.inj h, rfl⟩, by rw [ht]; exact hP, x_KnW hKn t hW⟩, hS.F ht⟩) hS.2.2 dX0_firstOtherwise_45
  have hL2 : ∀ (k : Nat) (v2_1 : Int32) (H : Heap) (locs : List Loc) (ls : Array Slot), va_P (dC, dI) vwCl (x_w kI ad M) H → va_S (x_A ad) s.heap H locs → lv_has ls 3 [(0, .ref (ad (c0))), (1, .ref (ad (c1))), (2, .int (v2_1))] → FX0_firstOtherwise_L2 c0 c1 M K2 k v2_1 = some r0 → W p l e (headSpec (wsA yX0_firstOtherwise cX0_firstOtherwise 3 (some .int)) ({ frames := 1, cells := 0, slots := 0, locals := 21 } : Room)).room s m (([.ref (ad (c0)), .ref (ad (c1))] : List Value).toArray) below meth c H locs 0 0 (MQ below (va_Qi (fun (r : Int32) (u : (Nat → Nat → Int32)) => r = r0 ∧ u = M) (gI (x_Wd dC dI kI ad) (x_Kn dC dI kI ad)) (x_A ad)) (([.ref (ad (c0)), .ref (ad (c1))] : List Value).toArray) s 0 0 (x_A ad)) (F0 m 2 ls []) := by
    intro k
    induction k with
    | zero => intro v2_1 H locs ls hP hS hl h; cases h
    | succ k ih2 =>
      intro v2_1 H locs ls hP hS hl h
      unfold FX0_firstOtherwise_L2 at h
      refine lv_iload_n hx hb dX0_firstOtherwise_2 rfl (lv_at hl 2 rfl) ?_
      refine lv_aload_n hx hb dX0_firstOtherwise_3 rfl (lv_at hl 0 rfl) ?_
      refine va_get (D := (dC, dI)) (ci := 0) (v := .int ((M c0 2))) (C := RX0) (T := TX0) (N := 3) hx hb hg inX0 hown hKn.1 hP (c0) (x_at0 (c := c0) h0) rfl 2 (Nat.le_of_ble_eq_true rfl) (hg _ lkF_X0_9) (fun _ h9 => h9) rfl dX0_firstOtherwise_4 ?_
      refine lv_icmp_ge (tgt := 44) hx hb dX0_firstOtherwise_7 (by decide) (fun c_2 => ?_) (fun c_2 => ?_)
      · have h := ife_t c_2 h
        exact hK2 _ _ _ hP hS (lv_sub hl [] rfl) h
      · have h := ife_f c_2 h
        refine lv_aload_n hx hb dX0_firstOtherwise_10 rfl (lv_at hl 1 rfl) ?_
        refine va_getN (D := (dC, dI)) (ci := 3) (v := .ref (ad ((c1 + 1)))) (C := RX3) (T := TX3) (N := 6) hx hb hg inX3 hown hKn.1 hP (c1) (x_at3 (c := c1) h1) rfl 0 (Nat.le_of_ble_eq_true rfl) (nest_use hKn.2.2 nkF_X0_32) (fun _ h9 => h9) rfl dX0_firstOtherwise_11 ?_
        refine lv_aload_n hx hb dX0_firstOtherwise_14 rfl (lv_at hl 0 rfl) ?_
        refine va_get (D := (dC, dI)) (ci := 0) (v := .ref (ad ((c0 + 1)))) (C := RX0) (T := TX0) (N := 3) hx hb hg inX0 hown hKn.1 hP (c0) (x_at0 (c := c0) h0) rfl 0 (Nat.le_of_ble_eq_true rfl) (hg _ lkF_X0_21) (fun _ h9 => h9) rfl dX0_firstOtherwise_15 ?_
        refine lv_iload_n hx hb dX0_firstOtherwise_18 rfl (lv_at hl 2 rfl) ?_
        obtain ⟨r_3, e19, h⟩ := bo_use h
        refine gc_i (va_runSN (As := [.ref (ad ((c0 + 1))), .int (v2_1)]) (rest := [.ref (ad ((c1 + 1)))]) hFx (tX7_at l dC dI kI ad (c0 + 1) v2_1 M (x_ar0_1 h0) e19) ⟨(gc_N hFx hKn.2.2 ck_yX7_at nkM_X0_37 ⟨Nat.le_of_ble_eq_true rfl, Nat.le_of_ble_eq_true rfl⟩ rfl rfl), hg _ st_yX7_at, trivial⟩ (gp_S x_KnB (x_KnW hKn) hP) rfl rfl hl.1 rfl (lv_room (Nat.le_of_ble_eq_true rfl)) dX0_firstOtherwise_19 ⟨Nat.zero_le _, Nat.zero_le _⟩) hS (fun H locs hP hS => ?_)
        have hP : va_P (dC, dI) vwCl (x_w kI ad M) H := hP
        obtain ⟨r_4, e22, h⟩ := bo_use h
        refine gc_i (va_runSN (As := [.ref (ad ((c1 + 1))), .int (r_3)]) (rest := []) hFx (tX7_at l dC dI kI ad (c1 + 1) r_3 M (x_ar3_1 h1) e22) ⟨(gc_N hFx hKn.2.2 ck_yX7_at nkM_X0_37 ⟨Nat.le_of_ble_eq_true rfl, Nat.le_of_ble_eq_true rfl⟩ rfl rfl), hg _ st_yX7_at, trivial⟩ (gp_S x_KnB (x_KnW hKn) hP) rfl rfl hl.1 rfl (lv_room (Nat.le_of_ble_eq_true rfl)) dX0_firstOtherwise_22 ⟨Nat.zero_le _, Nat.zero_le _⟩) hS (fun H locs hP hS => ?_)
        have hP : va_P (dC, dI) vwCl (x_w kI ad M) H := hP
        refine lv_aload_n hx hb dX0_firstOtherwise_25 rfl (lv_at hl 0 rfl) ?_
        refine va_get (D := (dC, dI)) (ci := 0) (v := .ref (ad ((c0 + 2)))) (C := RX0) (T := TX0) (N := 3) hx hb hg inX0 hown hKn.1 hP (c0) (x_at0 (c := c0) h0) rfl 1 (Nat.le_of_ble_eq_true rfl) (hg _ lkF_X0_25) (fun _ h9 => h9) rfl dX0_firstOtherwise_26 ?_
        refine lv_iload_n hx hb dX0_firstOtherwise_29 rfl (lv_at hl 2 rfl) ?_
        obtain ⟨r_5, e30, h⟩ := bo_use h
        refine gc_i (va_runSN (As := [.ref (ad ((c0 + 2))), .int (v2_1)]) (rest := [.int (r_4)]) hFx (tX7_at l dC dI kI ad (c0 + 2) v2_1 M (x_ar0_2 h0) e30) ⟨(gc_N hFx hKn.2.2 ck_yX7_at nkM_X0_37 ⟨Nat.le_of_ble_eq_true rfl, Nat.le_of_ble_eq_true rfl⟩ rfl rfl), hg _ st_yX7_at, trivial⟩ (gp_S x_KnB (x_KnW hKn) hP) rfl rfl hl.1 rfl (lv_room (Nat.le_of_ble_eq_true rfl)) dX0_firstOtherwise_30 ⟨Nat.zero_le _, Nat.zero_le _⟩) hS (fun H locs hP hS => ?_)
        have hP : va_P (dC, dI) vwCl (x_w kI ad M) H := hP
        refine lv_icmp_eq (tgt := 38) hx hb dX0_firstOtherwise_33 (by decide) (fun c_6 => ?_) (fun c_6 => ?_)
        · have h := ife_t c_6 h
          refine lv_iinc (v := (v2_1 + 1)) (lv' := [(2, .int ((v2_1 + 1))), (0, .ref (ad (c0))), (1, .ref (ad (c1)))]) hx hb dX0_firstOtherwise_38 hl (k := 2) rfl rfl (Nat.le_of_ble_eq_true rfl) rfl (fun ls hl => ?_)
          refine lv_goto (tgt := 2) hx hb dX0_firstOtherwise_41 (by decide) ?_
          exact ih2 (v2_1 + 1) _ _ _ hP hS (lv_sub hl [1, 2, 0] rfl) h
        · have h := ife_f c_6 h
          refine lv_iload_n hx hb dX0_firstOtherwise_36 rfl (lv_at hl 2 rfl) ?_
          exact W.iret (v := v2_1) hx hb hr (fun t ht hW => ⟨⟨v2_1, M, rfl, ⟨Option.some.inj h, rfl⟩, by rw [ht]; exact hP, x_KnW hKn t hW⟩, hS.F ht⟩) hS.2.2 dX0_firstOtherwise_37
  exact hL2 fuelN 0 _ _ _ hP hS (lv_sub hl [1, 2, 0] rfl) h
noncomputable def FX1_clear (c0 : Nat) (M : (Nat → Nat → Int32)) : Option (Nat → Nat → Int32) :=
  some (upd2 (upd2 (upd2 (upd2 M c0 0 0) c0 1 0) c0 2 0) c0 3 10)
set_option maxHeartbeats 4000000 in
set_option maxRecDepth 100000 in
theorem tX1_clear (l : Launch) (dC : Nat → ClassId) (dI : Nat → Nat → Nat) (kI : ClassId) (ad : Nat → Nat) (c0 : Nat) (M : (Nat → Nat → Int32)) (h0 : x_is1 c0) {M0 : (Nat → Nat → Int32)} (h : FX1_clear c0 M = some M0) : Met l yX1_clear (wsA yX1_clear cX1_clear 1 none) ({ frames := 0, cells := 0, slots := 0, locals := 0 } : Room) (va_Pc [.ref (ad (c0))] (gI (x_Wd dC dI kI ad) (x_Kn dC dI kI ad) M)) (va_Qv (fun (u : (Nat → Nat → Int32)) => u = M0) (gI (x_Wd dC dI kI ad) (x_Kn dC dI kI ad)) (x_A ad)) 0 0 (x_A ad) := by
  refine Met.ofW (cc := cX1_clear) (maxL := 1) (ret := none) (by decide) rfl ?_
  intro p e s m args below meth c s₁ B hml hv
  obtain ⟨rfl, hP, hKn⟩ := hv
  have hx := B.exec
  have hb := B.bytes
  have hr := B.returns
  have hts := atoms_spec (ws := wsA yX1_clear cX1_clear 1 none) B.pre
  have hg : ∀ w ∈ lw_good, w.before _ s = true := fun w h => hts w (List.mem_cons_of_mem _ h)
  have hown : s.vm.findClass RX1 = some m.cls := findClass_of_methodNamed B.named
  have hlocks := B.notSynchronized
  have hS : va_S (x_A ad) s.heap s.heap [] := va_S.rf
  have hFx : gFix p c cX1_clear 1 s m _ RX1 := ⟨hx, hb, hml, hown, hg⟩
  have hP : va_P (dC, dI) vwCl (x_w kI ad M) s.heap := hP
  have hl := lv_entry ([.ref (ad (c0))]) (n := 1) (Nat.le_of_ble_eq_true rfl)
  rw [lg_entry_eq]
  generalize (lg_sl ([.ref (ad (c0))]) ++ List.replicate (1 - (lg_sl ([.ref (ad (c0))])).length) Slot.unset).toArray = ls at hl ⊢
  have hl : lv_has ls 1 [(0, .ref (ad (c0)))] := hl
  unfold FX1_clear at h
  refine lv_aload_n hx hb dX1_clear_0 rfl (lv_at hl 0 rfl) ?_
  refine lv_iconst (v := 0) hx hb dX1_clear_1 (by decide) ?_
  refine va_put (D := (dC, dI)) (ci := 1) (v := .int (0)) (ty := .int) (C := RX1) (T := TX1) (N := 10) hx hb hg inX1 tyX1 tyX1_ok nmX1 hown hKn.1 hP (x_D hKn.2.1) hS (c0) (x_at1 (c := c0) h0) rfl 0 (Nat.le_of_ble_eq_true rfl) (hg _ lkF_X1_34) (fun _ h9 => h9) rfl (by decide +kernel) rfl rfl (Nat.le_of_ble_eq_true rfl) dX1_clear_2 (fun H locs hP _ hS => ?_)
  have hP : va_P (dC, dI) vwCl (x_w kI ad (upd2 M c0 0 0)) H := vp_eq (x_put1_0 h0 _) hP
  refine lv_aload_n hx hb dX1_clear_5 rfl (lv_at hl 0 rfl) ?_
  refine lv_iconst (v := 0) hx hb dX1_clear_6 (by decide) ?_
  refine va_put (D := (dC, dI)) (ci := 1) (v := .int (0)) (ty := .int) (C := RX1) (T := TX1) (N := 10) hx hb hg inX1 tyX1 tyX1_ok nmX1 hown hKn.1 hP (x_D hKn.2.1) hS (c0) (x_at1 (c := c0) h0) rfl 1 (Nat.le_of_ble_eq_true rfl) (hg _ lkF_X1_37) (fun _ h9 => h9) rfl (by decide +kernel) rfl rfl (Nat.le_of_ble_eq_true rfl) dX1_clear_7 (fun H locs hP _ hS => ?_)
  have hP : va_P (dC, dI) vwCl (x_w kI ad (upd2 (upd2 M c0 0 0) c0 1 0)) H := vp_eq (x_put1_1 h0 _) hP
  refine lv_aload_n hx hb dX1_clear_10 rfl (lv_at hl 0 rfl) ?_
  refine lv_iconst (v := 0) hx hb dX1_clear_11 (by decide) ?_
  refine va_put (D := (dC, dI)) (ci := 1) (v := .int (0)) (ty := .int) (C := RX1) (T := TX1) (N := 10) hx hb hg inX1 tyX1 tyX1_ok nmX1 hown hKn.1 hP (x_D hKn.2.1) hS (c0) (x_at1 (c := c0) h0) rfl 2 (Nat.le_of_ble_eq_true rfl) (hg _ lkF_X1_40) (fun _ h9 => h9) rfl (by decide +kernel) rfl rfl (Nat.le_of_ble_eq_true rfl) dX1_clear_12 (fun H locs hP _ hS => ?_)
  have hP : va_P (dC, dI) vwCl (x_w kI ad (upd2 (upd2 (upd2 M c0 0 0) c0 1 0) c0 2 0)) H := vp_eq (x_put1_2 h0 _) hP
  refine lv_aload_n hx hb dX1_clear_15 rfl (lv_at hl 0 rfl) ?_
  refine lv_bipush (v := 10) hx hb dX1_clear_16 (by decide) ?_
  refine va_put (D := (dC, dI)) (ci := 1) (v := .int (10)) (ty := .int) (C := RX1) (T := TX1) (N := 10) hx hb hg inX1 tyX1 tyX1_ok nmX1 hown hKn.1 hP (x_D hKn.2.1) hS (c0) (x_at1 (c := c0) h0) rfl 3 (Nat.le_of_ble_eq_true rfl) (hg _ lkF_X1_9) (fun _ h9 => h9) rfl (by decide +kernel) rfl rfl (Nat.le_of_ble_eq_true rfl) dX1_clear_18 (fun H locs hP _ hS => ?_)
  have hP : va_P (dC, dI) vwCl (x_w kI ad (upd2 (upd2 (upd2 (upd2 M c0 0 0) c0 1 0) c0 2 0) c0 3 10)) H := vp_eq (x_put1_3 h0 _) hP
  exact W.vret hx hb hr (fun t ht hW => ⟨⟨upd2 (upd2 (upd2 (upd2 M c0 0 0) c0 1 0) c0 2 0) c0 3 10, rfl, Option.some.inj h, by rw [ht]; exact hP, x_KnW hKn t hW⟩, hS.F ht⟩) hS.2.2 dX1_clear_21
noncomputable def FX1_copyFrom_L63 (c0 : Nat) (c1 : Nat) (K : (Nat → Nat → Int32) → Option (Nat → Nat → Int32)) (k : Nat) (v2_3 : Int32) (M_4 : (Nat → Nat → Int32)) : Option (Nat → Nat → Int32) := match k with
  | 0 => none
  | k + 1 => (if 8 ≤ v2_3 then K M_4 else bo (FX7_at (c1 + 2) v2_3 M_4) (fun (r_6 : Int32) => bo (FX7_put (c0 + 2) v2_3 r_6 M_4) (fun (M_7 : (Nat → Nat → Int32)) => bo (FX7_at (c1 + 3) v2_3 M_7) (fun (r_8 : Int32) => bo (FX7_put (c0 + 3) v2_3 r_8 M_7) (fun (M_9 : (Nat → Nat → Int32)) => bo (FX7_at (c1 + 4) v2_3 M_9) (fun (r_10 : Int32) => bo (FX7_put (c0 + 4) v2_3 r_10 M_9) (fun (M_11 : (Nat → Nat → Int32)) => bo (FX7_at (c1 + 5) v2_3 M_11) (fun (r_12 : Int32) => bo (FX7_put (c0 + 5) v2_3 r_12 M_11) (fun (M_13 : (Nat → Nat → Int32)) => bo (FX7_at (c1 + 6) v2_3 M_13) (fun (r_14 : Int32) => bo (FX7_put (c0 + 6) v2_3 r_14 M_13) (fun (M_15 : (Nat → Nat → Int32)) => FX1_copyFrom_L63 c0 c1 K k (v2_3 + 1) M_15)))))))))))
noncomputable def FX1_copyFrom_L34 (c0 : Nat) (c1 : Nat) (K : (Nat → Nat → Int32) → Option (Nat → Nat → Int32)) (k : Nat) (v2_16 : Int32) (M_17 : (Nat → Nat → Int32)) : Option (Nat → Nat → Int32) := match k with
  | 0 => none
  | k + 1 => (if 5 ≤ v2_16 then K M_17 else bo (FX7_at (c1 + 1) v2_16 M_17) (fun (r_19 : Int32) => bo (FX7_put (c0 + 1) v2_16 r_19 M_17) (fun (M_20 : (Nat → Nat → Int32)) => FX1_copyFrom_L34 c0 c1 K k (v2_16 + 1) M_20)))
noncomputable def FX1_copyFrom (c0 : Nat) (c1 : Nat) (M : (Nat → Nat → Int32)) : Option (Nat → Nat → Int32) :=
  FX1_copyFrom_L34 c0 c1 (fun (M_1 : (Nat → Nat → Int32)) => FX1_copyFrom_L63 c0 c1 (fun (M_2 : (Nat → Nat → Int32)) => some M_2) fuelN 0 M_1) fuelN 0 (upd2 (upd2 (upd2 (upd2 M c0 0 (M c1 0)) c0 1 (upd2 M c0 0 (M c1 0) c1 1)) c0 2 (upd2 (upd2 M c0 0 (M c1 0)) c0 1 (upd2 M c0 0 (M c1 0) c1 1) c1 2)) c0 3 (upd2 (upd2 (upd2 M c0 0 (M c1 0)) c0 1 (upd2 M c0 0 (M c1 0) c1 1)) c0 2 (upd2 (upd2 M c0 0 (M c1 0)) c0 1 (upd2 M c0 0 (M c1 0) c1 1) c1 2) c1 3))
set_option maxHeartbeats 4000000 in
set_option maxRecDepth 100000 in
theorem tX1_copyFrom (l : Launch) (dC : Nat → ClassId) (dI : Nat → Nat → Nat) (kI : ClassId) (ad : Nat → Nat) (c0 : Nat) (c1 : Nat) (M : (Nat → Nat → Int32)) (h0 : x_is1 c0) (h1 : x_is1 c1) {M0 : (Nat → Nat → Int32)} (h : FX1_copyFrom c0 c1 M = some M0) : Met l yX1_copyFrom (wsA yX1_copyFrom cX1_copyFrom 3 none) ({ frames := 1, cells := 0, slots := 0, locals := 22 } : Room) (va_Pc [.ref (ad (c0)), .ref (ad (c1))] (gI (x_Wd dC dI kI ad) (x_Kn dC dI kI ad) M)) (va_Qv (fun (u : (Nat → Nat → Int32)) => u = M0) (gI (x_Wd dC dI kI ad) (x_Kn dC dI kI ad)) (x_A ad)) 0 0 (x_A ad) := by
  refine Met.ofW (cc := cX1_copyFrom) (maxL := 3) (ret := none) (by decide) rfl ?_
  intro p e s m args below meth c s₁ B hml hv
  obtain ⟨rfl, hP, hKn⟩ := hv
  have hx := B.exec
  have hb := B.bytes
  have hr := B.returns
  have hts := atoms_spec (ws := wsA yX1_copyFrom cX1_copyFrom 3 none) B.pre
  have hg : ∀ w ∈ lw_good, w.before _ s = true := fun w h => hts w (List.mem_cons_of_mem _ h)
  have hown : s.vm.findClass RX1 = some m.cls := findClass_of_methodNamed B.named
  have hlocks := B.notSynchronized
  have hS : va_S (x_A ad) s.heap s.heap [] := va_S.rf
  have hFx : gFix p c cX1_copyFrom 3 s m _ RX1 := ⟨hx, hb, hml, hown, hg⟩
  have hP : va_P (dC, dI) vwCl (x_w kI ad M) s.heap := hP
  have hl := lv_entry ([.ref (ad (c0)), .ref (ad (c1))]) (n := 3) (Nat.le_of_ble_eq_true rfl)
  rw [lg_entry_eq]
  generalize (lg_sl ([.ref (ad (c0)), .ref (ad (c1))]) ++ List.replicate (3 - (lg_sl ([.ref (ad (c0)), .ref (ad (c1))])).length) Slot.unset).toArray = ls at hl ⊢
  have hl : lv_has ls 3 [(0, .ref (ad (c0))), (1, .ref (ad (c1)))] := hl
  unfold FX1_copyFrom at h
  refine lv_aload_n hx hb dX1_copyFrom_0 rfl (lv_at hl 0 rfl) ?_
  refine lv_aload_n hx hb dX1_copyFrom_1 rfl (lv_at hl 1 rfl) ?_
  refine va_get (D := (dC, dI)) (ci := 1) (v := .int ((M c1 0))) (C := RX1) (T := TX1) (N := 10) hx hb hg inX1 hown hKn.1 hP (c1) (x_at1 (c := c1) h1) rfl 0 (Nat.le_of_ble_eq_true rfl) (hg _ lkF_X1_34) (fun _ h9 => h9) rfl dX1_copyFrom_2 ?_
  refine va_put (D := (dC, dI)) (ci := 1) (v := .int ((M c1 0))) (ty := .int) (C := RX1) (T := TX1) (N := 10) hx hb hg inX1 tyX1 tyX1_ok nmX1 hown hKn.1 hP (x_D hKn.2.1) hS (c0) (x_at1 (c := c0) h0) rfl 0 (Nat.le_of_ble_eq_true rfl) (hg _ lkF_X1_34) (fun _ h9 => h9) rfl (by decide +kernel) rfl rfl (Nat.le_of_ble_eq_true rfl) dX1_copyFrom_5 (fun H locs hP _ hS => ?_)
  have hP : va_P (dC, dI) vwCl (x_w kI ad (upd2 M c0 0 (M c1 0))) H := vp_eq (x_put1_0 h0 _) hP
  refine lv_aload_n hx hb dX1_copyFrom_8 rfl (lv_at hl 0 rfl) ?_
  refine lv_aload_n hx hb dX1_copyFrom_9 rfl (lv_at hl 1 rfl) ?_
  refine va_get (D := (dC, dI)) (ci := 1) (v := .int ((upd2 M c0 0 (M c1 0) c1 1))) (C := RX1) (T := TX1) (N := 10) hx hb hg inX1 hown hKn.1 hP (c1) (x_at1 (c := c1) h1) rfl 1 (Nat.le_of_ble_eq_true rfl) (hg _ lkF_X1_37) (fun _ h9 => h9) rfl dX1_copyFrom_10 ?_
  refine va_put (D := (dC, dI)) (ci := 1) (v := .int ((upd2 M c0 0 (M c1 0) c1 1))) (ty := .int) (C := RX1) (T := TX1) (N := 10) hx hb hg inX1 tyX1 tyX1_ok nmX1 hown hKn.1 hP (x_D hKn.2.1) hS (c0) (x_at1 (c := c0) h0) rfl 1 (Nat.le_of_ble_eq_true rfl) (hg _ lkF_X1_37) (fun _ h9 => h9) rfl (by decide +kernel) rfl rfl (Nat.le_of_ble_eq_true rfl) dX1_copyFrom_13 (fun H locs hP _ hS => ?_)
  have hP : va_P (dC, dI) vwCl (x_w kI ad (upd2 (upd2 M c0 0 (M c1 0)) c0 1 (upd2 M c0 0 (M c1 0) c1 1))) H := vp_eq (x_put1_1 h0 _) hP
  refine lv_aload_n hx hb dX1_copyFrom_16 rfl (lv_at hl 0 rfl) ?_
  refine lv_aload_n hx hb dX1_copyFrom_17 rfl (lv_at hl 1 rfl) ?_
  refine va_get (D := (dC, dI)) (ci := 1) (v := .int ((upd2 (upd2 M c0 0 (M c1 0)) c0 1 (upd2 M c0 0 (M c1 0) c1 1) c1 2))) (C := RX1) (T := TX1) (N := 10) hx hb hg inX1 hown hKn.1 hP (c1) (x_at1 (c := c1) h1) rfl 2 (Nat.le_of_ble_eq_true rfl) (hg _ lkF_X1_40) (fun _ h9 => h9) rfl dX1_copyFrom_18 ?_
  refine va_put (D := (dC, dI)) (ci := 1) (v := .int ((upd2 (upd2 M c0 0 (M c1 0)) c0 1 (upd2 M c0 0 (M c1 0) c1 1) c1 2))) (ty := .int) (C := RX1) (T := TX1) (N := 10) hx hb hg inX1 tyX1 tyX1_ok nmX1 hown hKn.1 hP (x_D hKn.2.1) hS (c0) (x_at1 (c := c0) h0) rfl 2 (Nat.le_of_ble_eq_true rfl) (hg _ lkF_X1_40) (fun _ h9 => h9) rfl (by decide +kernel) rfl rfl (Nat.le_of_ble_eq_true rfl) dX1_copyFrom_21 (fun H locs hP _ hS => ?_)
  have hP : va_P (dC, dI) vwCl (x_w kI ad (upd2 (upd2 (upd2 M c0 0 (M c1 0)) c0 1 (upd2 M c0 0 (M c1 0) c1 1)) c0 2 (upd2 (upd2 M c0 0 (M c1 0)) c0 1 (upd2 M c0 0 (M c1 0) c1 1) c1 2))) H := vp_eq (x_put1_2 h0 _) hP
  refine lv_aload_n hx hb dX1_copyFrom_24 rfl (lv_at hl 0 rfl) ?_
  refine lv_aload_n hx hb dX1_copyFrom_25 rfl (lv_at hl 1 rfl) ?_
  refine va_get (D := (dC, dI)) (ci := 1) (v := .int ((upd2 (upd2 (upd2 M c0 0 (M c1 0)) c0 1 (upd2 M c0 0 (M c1 0) c1 1)) c0 2 (upd2 (upd2 M c0 0 (M c1 0)) c0 1 (upd2 M c0 0 (M c1 0) c1 1) c1 2) c1 3))) (C := RX1) (T := TX1) (N := 10) hx hb hg inX1 hown hKn.1 hP (c1) (x_at1 (c := c1) h1) rfl 3 (Nat.le_of_ble_eq_true rfl) (hg _ lkF_X1_9) (fun _ h9 => h9) rfl dX1_copyFrom_26 ?_
  refine va_put (D := (dC, dI)) (ci := 1) (v := .int ((upd2 (upd2 (upd2 M c0 0 (M c1 0)) c0 1 (upd2 M c0 0 (M c1 0) c1 1)) c0 2 (upd2 (upd2 M c0 0 (M c1 0)) c0 1 (upd2 M c0 0 (M c1 0) c1 1) c1 2) c1 3))) (ty := .int) (C := RX1) (T := TX1) (N := 10) hx hb hg inX1 tyX1 tyX1_ok nmX1 hown hKn.1 hP (x_D hKn.2.1) hS (c0) (x_at1 (c := c0) h0) rfl 3 (Nat.le_of_ble_eq_true rfl) (hg _ lkF_X1_9) (fun _ h9 => h9) rfl (by decide +kernel) rfl rfl (Nat.le_of_ble_eq_true rfl) dX1_copyFrom_29 (fun H locs hP _ hS => ?_)
  have hP : va_P (dC, dI) vwCl (x_w kI ad (upd2 (upd2 (upd2 (upd2 M c0 0 (M c1 0)) c0 1 (upd2 M c0 0 (M c1 0) c1 1)) c0 2 (upd2 (upd2 M c0 0 (M c1 0)) c0 1 (upd2 M c0 0 (M c1 0) c1 1) c1 2)) c0 3 (upd2 (upd2 (upd2 M c0 0 (M c1 0)) c0 1 (upd2 M c0 0 (M c1 0) c1 1)) c0 2 (upd2 (upd2 M c0 0 (M c1 0)) c0 1 (upd2 M c0 0 (M c1 0) c1 1) c1 2) c1 3))) H := vp_eq (x_put1_3 h0 _) hP
  refine lv_iconst (v := 0) hx hb dX1_copyFrom_32 (by decide) ?_
  refine lv_istore_n (lv' := [(2, .int (0)), (0, .ref (ad (c0))), (1, .ref (ad (c1)))]) hx hb dX1_copyFrom_33 rfl hl (Nat.le_of_ble_eq_true rfl) rfl (fun ls hl => ?_)
  obtain ⟨K34, eK34, h⟩ := exK (Lp := fun K => FX1_copyFrom_L34 c0 c1 K fuelN 0 (upd2 (upd2 (upd2 (upd2 M c0 0 (M c1 0)) c0 1 (upd2 M c0 0 (M c1 0) c1 1)) c0 2 (upd2 (upd2 M c0 0 (M c1 0)) c0 1 (upd2 M c0 0 (M c1 0) c1 1) c1 2)) c0 3 (upd2 (upd2 (upd2 M c0 0 (M c1 0)) c0 1 (upd2 M c0 0 (M c1 0) c1 1)) c0 2 (upd2 (upd2 M c0 0 (M c1 0)) c0 1 (upd2 M c0 0 (M c1 0) c1 1) c1 2) c1 3))) h
  have hK34 : ∀ (M_1 : (Nat → Nat → Int32)) (H : Heap) (locs : List Loc) (ls : Array Slot), va_P (dC, dI) vwCl (x_w kI ad M_1) H → va_S (x_A ad) s.heap H locs → lv_has ls 3 [(0, .ref (ad (c0))), (1, .ref (ad (c1)))] → K34 M_1 = some M0 → W p l e (headSpec (wsA yX1_copyFrom cX1_copyFrom 3 none) ({ frames := 1, cells := 0, slots := 0, locals := 22 } : Room)).room s m (([.ref (ad (c0)), .ref (ad (c1))] : List Value).toArray) below meth c H locs 0 0 (MQ below (va_Qv (fun (u : (Nat → Nat → Int32)) => u = M0) (gI (x_Wd dC dI kI ad) (x_Kn dC dI kI ad)) (x_A ad)) (([.ref (ad (c0)), .ref (ad (c1))] : List Value).toArray) s 0 0 (x_A ad)) (F0 m 61 ls []) := by
    intro M_1 H locs ls hP hS hl h
    have h := useK1 eK34 h
    refine lv_iconst (v := 0) hx hb dX1_copyFrom_61 (by decide) ?_
    refine lv_istore_n (lv' := [(2, .int (0)), (0, .ref (ad (c0))), (1, .ref (ad (c1)))]) hx hb dX1_copyFrom_62 rfl hl (Nat.le_of_ble_eq_true rfl) rfl (fun ls hl => ?_)
    obtain ⟨K63, eK63, h⟩ := exK (Lp := fun K => FX1_copyFrom_L63 c0 c1 K fuelN 0 M_1) h
    have hK63 : ∀ (M_2 : (Nat → Nat → Int32)) (H : Heap) (locs : List Loc) (ls : Array Slot), va_P (dC, dI) vwCl (x_w kI ad M_2) H → va_S (x_A ad) s.heap H locs → lv_has ls 3 [] → K63 M_2 = some M0 → W p l e (headSpec (wsA yX1_copyFrom cX1_copyFrom 3 none) ({ frames := 1, cells := 0, slots := 0, locals := 22 } : Room)).room s m (([.ref (ad (c0)), .ref (ad (c1))] : List Value).toArray) below meth c H locs 0 0 (MQ below (va_Qv (fun (u : (Nat → Nat → Int32)) => u = M0) (gI (x_Wd dC dI kI ad) (x_Kn dC dI kI ad)) (x_A ad)) (([.ref (ad (c0)), .ref (ad (c1))] : List Value).toArray) s 0 0 (x_A ad)) (F0 m 155 ls []) := by
      intro M_2 H locs ls hP hS hl h
      have h := useK1 eK63 h
      exact W.vret hx hb hr (fun t ht hW => ⟨⟨M_2, rfl, Option.some.inj h, by rw [ht]; exact hP, x_KnW hKn t hW⟩, hS.F ht⟩) hS.2.2 dX1_copyFrom_155
    have hL63 : ∀ (k : Nat) (v2_3 : Int32) (M_4 : (Nat → Nat → Int32)) (H : Heap) (locs : List Loc) (ls : Array Slot), va_P (dC, dI) vwCl (x_w kI ad M_4) H → va_S (x_A ad) s.heap H locs → lv_has ls 3 [(0, .ref (ad (c0))), (1, .ref (ad (c1))), (2, .int (v2_3))] → FX1_copyFrom_L63 c0 c1 K63 k v2_3 M_4 = some M0 → W p l e (headSpec (wsA yX1_copyFrom cX1_copyFrom 3 none) ({ frames := 1, cells := 0, slots := 0, locals := 22 } : Room)).room s m (([.ref (ad (c0)), .ref (ad (c1))] : List Value).toArray) below meth c H locs 0 0 (MQ below (va_Qv (fun (u : (Nat → Nat → Int32)) => u = M0) (gI (x_Wd dC dI kI ad) (x_Kn dC dI kI ad)) (x_A ad)) (([.ref (ad (c0)), .ref (ad (c1))] : List Value).toArray) s 0 0 (x_A ad)) (F0 m 63 ls []) := by
      intro k
      induction k with
      | zero => intro v2_3 M_4 H locs ls hP hS hl h; cases h
      | succ k ih63 =>
        intro v2_3 M_4 H locs ls hP hS hl h
        unfold FX1_copyFrom_L63 at h
        refine lv_iload_n hx hb dX1_copyFrom_63 rfl (lv_at hl 2 rfl) ?_
        refine lv_bipush (v := 8) hx hb dX1_copyFrom_64 (by decide) ?_
        refine lv_icmp_ge (tgt := 155) hx hb dX1_copyFrom_66 (by decide) (fun c_5 => ?_) (fun c_5 => ?_)
        · have h := ife_t c_5 h
          exact hK63 M_4 _ _ _ hP hS (lv_sub hl [] rfl) h
        · have h := ife_f c_5 h
          refine lv_aload_n hx hb dX1_copyFrom_69 rfl (lv_at hl 0 rfl) ?_
          refine va_get (D := (dC, dI)) (ci := 1) (v := .ref (ad ((c0 + 2)))) (C := RX1) (T := TX1) (N := 10) hx hb hg inX1 hown hKn.1 hP (c0) (x_at1 (c := c0) h0) rfl 5 (Nat.le_of_ble_eq_true rfl) (hg _ lkF_X1_19) (fun _ h9 => h9) rfl dX1_copyFrom_70 ?_
          refine lv_iload_n hx hb dX1_copyFrom_73 rfl (lv_at hl 2 rfl) ?_
          refine lv_aload_n hx hb dX1_copyFrom_74 rfl (lv_at hl 1 rfl) ?_
          refine va_get (D := (dC, dI)) (ci := 1) (v := .ref (ad ((c1 + 2)))) (C := RX1) (T := TX1) (N := 10) hx hb hg inX1 hown hKn.1 hP (c1) (x_at1 (c := c1) h1) rfl 5 (Nat.le_of_ble_eq_true rfl) (hg _ lkF_X1_19) (fun _ h9 => h9) rfl dX1_copyFrom_75 ?_
          refine lv_iload_n hx hb dX1_copyFrom_78 rfl (lv_at hl 2 rfl) ?_
          obtain ⟨r_6, e79, h⟩ := bo_use h
          refine gc_i (va_runSN (As := [.ref (ad ((c1 + 2))), .int (v2_3)]) (rest := [.int (v2_3), .ref (ad ((c0 + 2)))]) hFx (tX7_at l dC dI kI ad (c1 + 2) v2_3 M_4 (x_ar1_2 h1) e79) ⟨(gc_N hFx hKn.2.2 ck_yX7_at nkM_X1_43 ⟨Nat.le_of_ble_eq_true rfl, Nat.le_of_ble_eq_true rfl⟩ rfl rfl), hg _ st_yX7_at, trivial⟩ (gp_S x_KnB (x_KnW hKn) hP) rfl rfl hl.1 rfl (lv_room (Nat.le_of_ble_eq_true rfl)) dX1_copyFrom_79 ⟨Nat.zero_le _, Nat.zero_le _⟩) hS (fun H locs hP hS => ?_)
          have hP : va_P (dC, dI) vwCl (x_w kI ad M_4) H := hP
          obtain ⟨M_7, e82, h⟩ := bo_use h
          refine gc_v (va_runSN (As := [.ref (ad ((c0 + 2))), .int (v2_3), .int (r_6)]) (rest := []) hFx (tX7_put l dC dI kI ad (c0 + 2) v2_3 r_6 M_4 (x_ar1_2 h0) e82) ⟨(gc_N hFx hKn.2.2 ck_yX7_put nkM_X1_47 ⟨Nat.le_of_ble_eq_true rfl, Nat.le_of_ble_eq_true rfl⟩ rfl rfl), hg _ st_yX7_put, trivial⟩ (gp_S x_KnB (x_KnW hKn) hP) rfl rfl hl.1 rfl (lv_room (Nat.le_of_ble_eq_true rfl)) dX1_copyFrom_82 ⟨Nat.zero_le _, Nat.zero_le _⟩) hS (fun H locs hP hS => ?_)
          have hP : va_P (dC, dI) vwCl (x_w kI ad M_7) H := hP
          refine lv_aload_n hx hb dX1_copyFrom_85 rfl (lv_at hl 0 rfl) ?_
          refine va_get (D := (dC, dI)) (ci := 1) (v := .ref (ad ((c0 + 3)))) (C := RX1) (T := TX1) (N := 10) hx hb hg inX1 hown hKn.1 hP (c0) (x_at1 (c := c0) h0) rfl 6 (Nat.le_of_ble_eq_true rfl) (hg _ lkF_X1_22) (fun _ h9 => h9) rfl dX1_copyFrom_86 ?_
          refine lv_iload_n hx hb dX1_copyFrom_89 rfl (lv_at hl 2 rfl) ?_
          refine lv_aload_n hx hb dX1_copyFrom_90 rfl (lv_at hl 1 rfl) ?_
          refine va_get (D := (dC, dI)) (ci := 1) (v := .ref (ad ((c1 + 3)))) (C := RX1) (T := TX1) (N := 10) hx hb hg inX1 hown hKn.1 hP (c1) (x_at1 (c := c1) h1) rfl 6 (Nat.le_of_ble_eq_true rfl) (hg _ lkF_X1_22) (fun _ h9 => h9) rfl dX1_copyFrom_91 ?_
          refine lv_iload_n hx hb dX1_copyFrom_94 rfl (lv_at hl 2 rfl) ?_
          obtain ⟨r_8, e95, h⟩ := bo_use h
          refine gc_i (va_runSN (As := [.ref (ad ((c1 + 3))), .int (v2_3)]) (rest := [.int (v2_3), .ref (ad ((c0 + 3)))]) hFx (tX7_at l dC dI kI ad (c1 + 3) v2_3 M_7 (x_ar1_3 h1) e95) ⟨(gc_N hFx hKn.2.2 ck_yX7_at nkM_X1_43 ⟨Nat.le_of_ble_eq_true rfl, Nat.le_of_ble_eq_true rfl⟩ rfl rfl), hg _ st_yX7_at, trivial⟩ (gp_S x_KnB (x_KnW hKn) hP) rfl rfl hl.1 rfl (lv_room (Nat.le_of_ble_eq_true rfl)) dX1_copyFrom_95 ⟨Nat.zero_le _, Nat.zero_le _⟩) hS (fun H locs hP hS => ?_)
          have hP : va_P (dC, dI) vwCl (x_w kI ad M_7) H := hP
          obtain ⟨M_9, e98, h⟩ := bo_use h
          refine gc_v (va_runSN (As := [.ref (ad ((c0 + 3))), .int (v2_3), .int (r_8)]) (rest := []) hFx (tX7_put l dC dI kI ad (c0 + 3) v2_3 r_8 M_7 (x_ar1_3 h0) e98) ⟨(gc_N hFx hKn.2.2 ck_yX7_put nkM_X1_47 ⟨Nat.le_of_ble_eq_true rfl, Nat.le_of_ble_eq_true rfl⟩ rfl rfl), hg _ st_yX7_put, trivial⟩ (gp_S x_KnB (x_KnW hKn) hP) rfl rfl hl.1 rfl (lv_room (Nat.le_of_ble_eq_true rfl)) dX1_copyFrom_98 ⟨Nat.zero_le _, Nat.zero_le _⟩) hS (fun H locs hP hS => ?_)
          have hP : va_P (dC, dI) vwCl (x_w kI ad M_9) H := hP
          refine lv_aload_n hx hb dX1_copyFrom_101 rfl (lv_at hl 0 rfl) ?_
          refine va_get (D := (dC, dI)) (ci := 1) (v := .ref (ad ((c0 + 4)))) (C := RX1) (T := TX1) (N := 10) hx hb hg inX1 hown hKn.1 hP (c0) (x_at1 (c := c0) h0) rfl 7 (Nat.le_of_ble_eq_true rfl) (hg _ lkF_X1_25) (fun _ h9 => h9) rfl dX1_copyFrom_102 ?_
          refine lv_iload_n hx hb dX1_copyFrom_105 rfl (lv_at hl 2 rfl) ?_
          refine lv_aload_n hx hb dX1_copyFrom_106 rfl (lv_at hl 1 rfl) ?_
          refine va_get (D := (dC, dI)) (ci := 1) (v := .ref (ad ((c1 + 4)))) (C := RX1) (T := TX1) (N := 10) hx hb hg inX1 hown hKn.1 hP (c1) (x_at1 (c := c1) h1) rfl 7 (Nat.le_of_ble_eq_true rfl) (hg _ lkF_X1_25) (fun _ h9 => h9) rfl dX1_copyFrom_107 ?_
          refine lv_iload_n hx hb dX1_copyFrom_110 rfl (lv_at hl 2 rfl) ?_
          obtain ⟨r_10, e111, h⟩ := bo_use h
          refine gc_i (va_runSN (As := [.ref (ad ((c1 + 4))), .int (v2_3)]) (rest := [.int (v2_3), .ref (ad ((c0 + 4)))]) hFx (tX7_at l dC dI kI ad (c1 + 4) v2_3 M_9 (x_ar1_4 h1) e111) ⟨(gc_N hFx hKn.2.2 ck_yX7_at nkM_X1_43 ⟨Nat.le_of_ble_eq_true rfl, Nat.le_of_ble_eq_true rfl⟩ rfl rfl), hg _ st_yX7_at, trivial⟩ (gp_S x_KnB (x_KnW hKn) hP) rfl rfl hl.1 rfl (lv_room (Nat.le_of_ble_eq_true rfl)) dX1_copyFrom_111 ⟨Nat.zero_le _, Nat.zero_le _⟩) hS (fun H locs hP hS => ?_)
          have hP : va_P (dC, dI) vwCl (x_w kI ad M_9) H := hP
          obtain ⟨M_11, e114, h⟩ := bo_use h
          refine gc_v (va_runSN (As := [.ref (ad ((c0 + 4))), .int (v2_3), .int (r_10)]) (rest := []) hFx (tX7_put l dC dI kI ad (c0 + 4) v2_3 r_10 M_9 (x_ar1_4 h0) e114) ⟨(gc_N hFx hKn.2.2 ck_yX7_put nkM_X1_47 ⟨Nat.le_of_ble_eq_true rfl, Nat.le_of_ble_eq_true rfl⟩ rfl rfl), hg _ st_yX7_put, trivial⟩ (gp_S x_KnB (x_KnW hKn) hP) rfl rfl hl.1 rfl (lv_room (Nat.le_of_ble_eq_true rfl)) dX1_copyFrom_114 ⟨Nat.zero_le _, Nat.zero_le _⟩) hS (fun H locs hP hS => ?_)
          have hP : va_P (dC, dI) vwCl (x_w kI ad M_11) H := hP
          refine lv_aload_n hx hb dX1_copyFrom_117 rfl (lv_at hl 0 rfl) ?_
          refine va_get (D := (dC, dI)) (ci := 1) (v := .ref (ad ((c0 + 5)))) (C := RX1) (T := TX1) (N := 10) hx hb hg inX1 hown hKn.1 hP (c0) (x_at1 (c := c0) h0) rfl 8 (Nat.le_of_ble_eq_true rfl) (hg _ lkF_X1_28) (fun _ h9 => h9) rfl dX1_copyFrom_118 ?_
          refine lv_iload_n hx hb dX1_copyFrom_121 rfl (lv_at hl 2 rfl) ?_
          refine lv_aload_n hx hb dX1_copyFrom_122 rfl (lv_at hl 1 rfl) ?_
          refine va_get (D := (dC, dI)) (ci := 1) (v := .ref (ad ((c1 + 5)))) (C := RX1) (T := TX1) (N := 10) hx hb hg inX1 hown hKn.1 hP (c1) (x_at1 (c := c1) h1) rfl 8 (Nat.le_of_ble_eq_true rfl) (hg _ lkF_X1_28) (fun _ h9 => h9) rfl dX1_copyFrom_123 ?_
          refine lv_iload_n hx hb dX1_copyFrom_126 rfl (lv_at hl 2 rfl) ?_
          obtain ⟨r_12, e127, h⟩ := bo_use h
          refine gc_i (va_runSN (As := [.ref (ad ((c1 + 5))), .int (v2_3)]) (rest := [.int (v2_3), .ref (ad ((c0 + 5)))]) hFx (tX7_at l dC dI kI ad (c1 + 5) v2_3 M_11 (x_ar1_5 h1) e127) ⟨(gc_N hFx hKn.2.2 ck_yX7_at nkM_X1_43 ⟨Nat.le_of_ble_eq_true rfl, Nat.le_of_ble_eq_true rfl⟩ rfl rfl), hg _ st_yX7_at, trivial⟩ (gp_S x_KnB (x_KnW hKn) hP) rfl rfl hl.1 rfl (lv_room (Nat.le_of_ble_eq_true rfl)) dX1_copyFrom_127 ⟨Nat.zero_le _, Nat.zero_le _⟩) hS (fun H locs hP hS => ?_)
          have hP : va_P (dC, dI) vwCl (x_w kI ad M_11) H := hP
          obtain ⟨M_13, e130, h⟩ := bo_use h
          refine gc_v (va_runSN (As := [.ref (ad ((c0 + 5))), .int (v2_3), .int (r_12)]) (rest := []) hFx (tX7_put l dC dI kI ad (c0 + 5) v2_3 r_12 M_11 (x_ar1_5 h0) e130) ⟨(gc_N hFx hKn.2.2 ck_yX7_put nkM_X1_47 ⟨Nat.le_of_ble_eq_true rfl, Nat.le_of_ble_eq_true rfl⟩ rfl rfl), hg _ st_yX7_put, trivial⟩ (gp_S x_KnB (x_KnW hKn) hP) rfl rfl hl.1 rfl (lv_room (Nat.le_of_ble_eq_true rfl)) dX1_copyFrom_130 ⟨Nat.zero_le _, Nat.zero_le _⟩) hS (fun H locs hP hS => ?_)
          have hP : va_P (dC, dI) vwCl (x_w kI ad M_13) H := hP
          refine lv_aload_n hx hb dX1_copyFrom_133 rfl (lv_at hl 0 rfl) ?_
          refine va_get (D := (dC, dI)) (ci := 1) (v := .ref (ad ((c0 + 6)))) (C := RX1) (T := TX1) (N := 10) hx hb hg inX1 hown hKn.1 hP (c0) (x_at1 (c := c0) h0) rfl 9 (Nat.le_of_ble_eq_true rfl) (hg _ lkF_X1_31) (fun _ h9 => h9) rfl dX1_copyFrom_134 ?_
          refine lv_iload_n hx hb dX1_copyFrom_137 rfl (lv_at hl 2 rfl) ?_
          refine lv_aload_n hx hb dX1_copyFrom_138 rfl (lv_at hl 1 rfl) ?_
          refine va_get (D := (dC, dI)) (ci := 1) (v := .ref (ad ((c1 + 6)))) (C := RX1) (T := TX1) (N := 10) hx hb hg inX1 hown hKn.1 hP (c1) (x_at1 (c := c1) h1) rfl 9 (Nat.le_of_ble_eq_true rfl) (hg _ lkF_X1_31) (fun _ h9 => h9) rfl dX1_copyFrom_139 ?_
          refine lv_iload_n hx hb dX1_copyFrom_142 rfl (lv_at hl 2 rfl) ?_
          obtain ⟨r_14, e143, h⟩ := bo_use h
          refine gc_i (va_runSN (As := [.ref (ad ((c1 + 6))), .int (v2_3)]) (rest := [.int (v2_3), .ref (ad ((c0 + 6)))]) hFx (tX7_at l dC dI kI ad (c1 + 6) v2_3 M_13 (x_ar1_6 h1) e143) ⟨(gc_N hFx hKn.2.2 ck_yX7_at nkM_X1_43 ⟨Nat.le_of_ble_eq_true rfl, Nat.le_of_ble_eq_true rfl⟩ rfl rfl), hg _ st_yX7_at, trivial⟩ (gp_S x_KnB (x_KnW hKn) hP) rfl rfl hl.1 rfl (lv_room (Nat.le_of_ble_eq_true rfl)) dX1_copyFrom_143 ⟨Nat.zero_le _, Nat.zero_le _⟩) hS (fun H locs hP hS => ?_)
          have hP : va_P (dC, dI) vwCl (x_w kI ad M_13) H := hP
          obtain ⟨M_15, e146, h⟩ := bo_use h
          refine gc_v (va_runSN (As := [.ref (ad ((c0 + 6))), .int (v2_3), .int (r_14)]) (rest := []) hFx (tX7_put l dC dI kI ad (c0 + 6) v2_3 r_14 M_13 (x_ar1_6 h0) e146) ⟨(gc_N hFx hKn.2.2 ck_yX7_put nkM_X1_47 ⟨Nat.le_of_ble_eq_true rfl, Nat.le_of_ble_eq_true rfl⟩ rfl rfl), hg _ st_yX7_put, trivial⟩ (gp_S x_KnB (x_KnW hKn) hP) rfl rfl hl.1 rfl (lv_room (Nat.le_of_ble_eq_true rfl)) dX1_copyFrom_146 ⟨Nat.zero_le _, Nat.zero_le _⟩) hS (fun H locs hP hS => ?_)
          have hP : va_P (dC, dI) vwCl (x_w kI ad M_15) H := hP
          refine lv_iinc (v := (v2_3 + 1)) (lv' := [(2, .int ((v2_3 + 1))), (0, .ref (ad (c0))), (1, .ref (ad (c1)))]) hx hb dX1_copyFrom_149 hl (k := 2) rfl rfl (Nat.le_of_ble_eq_true rfl) rfl (fun ls hl => ?_)
          refine lv_goto (tgt := 63) hx hb dX1_copyFrom_152 (by decide) ?_
          exact ih63 (v2_3 + 1) M_15 _ _ _ hP hS (lv_sub hl [1, 2, 0] rfl) h
    exact hL63 fuelN 0 M_1 _ _ _ hP hS (lv_sub hl [1, 2, 0] rfl) h
  have hL34 : ∀ (k : Nat) (v2_16 : Int32) (M_17 : (Nat → Nat → Int32)) (H : Heap) (locs : List Loc) (ls : Array Slot), va_P (dC, dI) vwCl (x_w kI ad M_17) H → va_S (x_A ad) s.heap H locs → lv_has ls 3 [(0, .ref (ad (c0))), (1, .ref (ad (c1))), (2, .int (v2_16))] → FX1_copyFrom_L34 c0 c1 K34 k v2_16 M_17 = some M0 → W p l e (headSpec (wsA yX1_copyFrom cX1_copyFrom 3 none) ({ frames := 1, cells := 0, slots := 0, locals := 22 } : Room)).room s m (([.ref (ad (c0)), .ref (ad (c1))] : List Value).toArray) below meth c H locs 0 0 (MQ below (va_Qv (fun (u : (Nat → Nat → Int32)) => u = M0) (gI (x_Wd dC dI kI ad) (x_Kn dC dI kI ad)) (x_A ad)) (([.ref (ad (c0)), .ref (ad (c1))] : List Value).toArray) s 0 0 (x_A ad)) (F0 m 34 ls []) := by
    intro k
    induction k with
    | zero => intro v2_16 M_17 H locs ls hP hS hl h; cases h
    | succ k ih34 =>
      intro v2_16 M_17 H locs ls hP hS hl h
      unfold FX1_copyFrom_L34 at h
      refine lv_iload_n hx hb dX1_copyFrom_34 rfl (lv_at hl 2 rfl) ?_
      refine lv_iconst (v := 5) hx hb dX1_copyFrom_35 (by decide) ?_
      refine lv_icmp_ge (tgt := 61) hx hb dX1_copyFrom_36 (by decide) (fun c_18 => ?_) (fun c_18 => ?_)
      · have h := ife_t c_18 h
        exact hK34 M_17 _ _ _ hP hS (lv_sub hl [0, 1] rfl) h
      · have h := ife_f c_18 h
        refine lv_aload_n hx hb dX1_copyFrom_39 rfl (lv_at hl 0 rfl) ?_
        refine va_get (D := (dC, dI)) (ci := 1) (v := .ref (ad ((c0 + 1)))) (C := RX1) (T := TX1) (N := 10) hx hb hg inX1 hown hKn.1 hP (c0) (x_at1 (c := c0) h0) rfl 4 (Nat.le_of_ble_eq_true rfl) (hg _ lkF_X1_15) (fun _ h9 => h9) rfl dX1_copyFrom_40 ?_
        refine lv_iload_n hx hb dX1_copyFrom_43 rfl (lv_at hl 2 rfl) ?_
        refine lv_aload_n hx hb dX1_copyFrom_44 rfl (lv_at hl 1 rfl) ?_
        refine va_get (D := (dC, dI)) (ci := 1) (v := .ref (ad ((c1 + 1)))) (C := RX1) (T := TX1) (N := 10) hx hb hg inX1 hown hKn.1 hP (c1) (x_at1 (c := c1) h1) rfl 4 (Nat.le_of_ble_eq_true rfl) (hg _ lkF_X1_15) (fun _ h9 => h9) rfl dX1_copyFrom_45 ?_
        refine lv_iload_n hx hb dX1_copyFrom_48 rfl (lv_at hl 2 rfl) ?_
        obtain ⟨r_19, e49, h⟩ := bo_use h
        refine gc_i (va_runSN (As := [.ref (ad ((c1 + 1))), .int (v2_16)]) (rest := [.int (v2_16), .ref (ad ((c0 + 1)))]) hFx (tX7_at l dC dI kI ad (c1 + 1) v2_16 M_17 (x_ar1_1 h1) e49) ⟨(gc_N hFx hKn.2.2 ck_yX7_at nkM_X1_43 ⟨Nat.le_of_ble_eq_true rfl, Nat.le_of_ble_eq_true rfl⟩ rfl rfl), hg _ st_yX7_at, trivial⟩ (gp_S x_KnB (x_KnW hKn) hP) rfl rfl hl.1 rfl (lv_room (Nat.le_of_ble_eq_true rfl)) dX1_copyFrom_49 ⟨Nat.zero_le _, Nat.zero_le _⟩) hS (fun H locs hP hS => ?_)
        have hP : va_P (dC, dI) vwCl (x_w kI ad M_17) H := hP
        obtain ⟨M_20, e52, h⟩ := bo_use h
        refine gc_v (va_runSN (As := [.ref (ad ((c0 + 1))), .int (v2_16), .int (r_19)]) (rest := []) hFx (tX7_put l dC dI kI ad (c0 + 1) v2_16 r_19 M_17 (x_ar1_1 h0) e52) ⟨(gc_N hFx hKn.2.2 ck_yX7_put nkM_X1_47 ⟨Nat.le_of_ble_eq_true rfl, Nat.le_of_ble_eq_true rfl⟩ rfl rfl), hg _ st_yX7_put, trivial⟩ (gp_S x_KnB (x_KnW hKn) hP) rfl rfl hl.1 rfl (lv_room (Nat.le_of_ble_eq_true rfl)) dX1_copyFrom_52 ⟨Nat.zero_le _, Nat.zero_le _⟩) hS (fun H locs hP hS => ?_)
        have hP : va_P (dC, dI) vwCl (x_w kI ad M_20) H := hP
        refine lv_iinc (v := (v2_16 + 1)) (lv' := [(2, .int ((v2_16 + 1))), (0, .ref (ad (c0))), (1, .ref (ad (c1)))]) hx hb dX1_copyFrom_55 hl (k := 2) rfl rfl (Nat.le_of_ble_eq_true rfl) rfl (fun ls hl => ?_)
        refine lv_goto (tgt := 34) hx hb dX1_copyFrom_58 (by decide) ?_
        exact ih34 (v2_16 + 1) M_20 _ _ _ hP hS (lv_sub hl [1, 2, 0] rfl) h
  exact hL34 fuelN 0 (upd2 (upd2 (upd2 (upd2 M c0 0 (M c1 0)) c0 1 (upd2 M c0 0 (M c1 0) c1 1)) c0 2 (upd2 (upd2 M c0 0 (M c1 0)) c0 1 (upd2 M c0 0 (M c1 0) c1 1) c1 2)) c0 3 (upd2 (upd2 (upd2 M c0 0 (M c1 0)) c0 1 (upd2 M c0 0 (M c1 0) c1 1)) c0 2 (upd2 (upd2 M c0 0 (M c1 0)) c0 1 (upd2 M c0 0 (M c1 0) c1 1) c1 2) c1 3)) _ _ _ hP hS (lv_sub hl [1, 2, 0] rfl) h
noncomputable def FX7_has (a0 : Int32) (a1 : Int32) : Option Int32 :=
  (if a1 < 0 then some 0 else (if 31 ≤ a1 then some 0 else (if ((a0 >>> (a1 &&& 31)) &&& 1) = 1 then some 1 else some 0)))
set_option maxHeartbeats 4000000 in
set_option maxRecDepth 100000 in
theorem tX7_has (l : Launch) (dC : Nat → ClassId) (dI : Nat → Nat → Nat) (kI : ClassId) (ad : Nat → Nat) (a0 : Int32) (a1 : Int32) (M : (Nat → Nat → Int32))  {r0 : Int32} (h : FX7_has a0 a1 = some r0) : Met l yX7_has (wsA yX7_has cX7_has 2 (some .boolean)) ({ frames := 0, cells := 0, slots := 0, locals := 0 } : Room) (va_Pc [.int (a0), .int (a1)] (gI (x_Wd dC dI kI ad) (x_Kn dC dI kI ad) M)) (va_Qi (fun (r : Int32) (u : (Nat → Nat → Int32)) => r = r0 ∧ u = M) (gI (x_Wd dC dI kI ad) (x_Kn dC dI kI ad)) (x_A ad)) 0 0 (x_A ad) := by
  refine Met.ofW (cc := cX7_has) (maxL := 2) (ret := (some .boolean)) (by decide) rfl ?_
  intro p e s m args below meth c s₁ B hml hv
  obtain ⟨rfl, hP, hKn⟩ := hv
  have hx := B.exec
  have hb := B.bytes
  have hr := B.returns
  have hts := atoms_spec (ws := wsA yX7_has cX7_has 2 (some .boolean)) B.pre
  have hg : ∀ w ∈ lw_good, w.before _ s = true := fun w h => hts w (List.mem_cons_of_mem _ h)
  have hown : s.vm.findClass RX7 = some m.cls := findClass_of_methodNamed B.named
  have hlocks := B.notSynchronized
  have hS : va_S (x_A ad) s.heap s.heap [] := va_S.rf
  have hFx : gFix p c cX7_has 2 s m _ RX7 := ⟨hx, hb, hml, hown, hg⟩
  have hP : va_P (dC, dI) vwCl (x_w kI ad M) s.heap := hP
  have hl := lv_entry ([.int (a0), .int (a1)]) (n := 2) (Nat.le_of_ble_eq_true rfl)
  rw [lg_entry_eq]
  generalize (lg_sl ([.int (a0), .int (a1)]) ++ List.replicate (2 - (lg_sl ([.int (a0), .int (a1)])).length) Slot.unset).toArray = ls at hl ⊢
  have hl : lv_has ls 2 [(0, .int (a0)), (1, .int (a1))] := hl
  unfold FX7_has at h
  refine lv_iload_n hx hb dX7_has_0 rfl (lv_at hl 1 rfl) ?_
  refine lv_if_lt (tgt := 23) hx hb dX7_has_1 (by decide) (fun c_1 => ?_) (fun c_1 => ?_)
  · have h := ife_t c_1 h
    refine lv_iconst (v := 0) hx hb dX7_has_23 (by decide) ?_
    exact W.zret (v := 0) hx hb hr rfl (fun t ht hW => ⟨⟨0, M, rfl, ⟨Option.some.inj h, rfl⟩, by rw [ht]; exact hP, x_KnW hKn t hW⟩, hS.F ht⟩) hS.2.2 dX7_has_24
  · have h := ife_f c_1 h
    refine lv_iload_n hx hb dX7_has_4 rfl (lv_at hl 1 rfl) ?_
    refine lv_bipush (v := 31) hx hb dX7_has_5 (by decide) ?_
    refine lv_icmp_ge (tgt := 23) hx hb dX7_has_7 (by decide) (fun c_2 => ?_) (fun c_2 => ?_)
    · have h := ife_t c_2 h
      refine lv_iconst (v := 0) hx hb dX7_has_23 (by decide) ?_
      exact W.zret (v := 0) hx hb hr rfl (fun t ht hW => ⟨⟨0, M, rfl, ⟨Option.some.inj h, rfl⟩, by rw [ht]; exact hP, x_KnW hKn t hW⟩, hS.F ht⟩) hS.2.2 dX7_has_24
    · have h := ife_f c_2 h
      refine lv_iload_n hx hb dX7_has_10 rfl (lv_at hl 0 rfl) ?_
      refine lv_iload_n hx hb dX7_has_11 rfl (lv_at hl 1 rfl) ?_
      refine lv_ishr hx hb dX7_has_12 ?_
      refine lv_iconst (v := 1) hx hb dX7_has_13 (by decide) ?_
      refine lv_iand hx hb dX7_has_14 ?_
      refine lv_iconst (v := 1) hx hb dX7_has_15 (by decide) ?_
      refine lv_icmp_ne (tgt := 23) hx hb dX7_has_16 (by decide) (fun c_3 => ?_) (fun c_3 => ?_)
      · have h := ife_f c_3 h
        refine lv_iconst (v := 0) hx hb dX7_has_23 (by decide) ?_
        exact W.zret (v := 0) hx hb hr rfl (fun t ht hW => ⟨⟨0, M, rfl, ⟨Option.some.inj h, rfl⟩, by rw [ht]; exact hP, x_KnW hKn t hW⟩, hS.F ht⟩) hS.2.2 dX7_has_24
      · have h := ife_t c_3 h
        refine lv_iconst (v := 1) hx hb dX7_has_19 (by decide) ?_
        refine lv_goto (tgt := 24) hx hb dX7_has_20 (by decide) ?_
        exact W.zret (v := 1) hx hb hr rfl (fun t ht hW => ⟨⟨1, M, rfl, ⟨Option.some.inj h, rfl⟩, by rw [ht]; exact hP, x_KnW hKn t hW⟩, hS.F ht⟩) hS.2.2 dX7_has_24
noncomputable def FX1_costOf_L4 (c0 : Nat) (b1 : Int32) (M : (Nat → Nat → Int32)) (K : Int32 → Option Int32) (k : Nat) (v2_2 : Int32) (v3_3 : Int32) : Option Int32 := match k with
  | 0 => none
  | k + 1 => (if (M c0 2) ≤ v3_3 then K v2_2 else bo (FX7_has b1 v3_3) (fun (r_5 : Int32) => jn (fun (s_6 : Int32) => FX1_costOf_L4 c0 b1 M K k (v2_2 + s_6) (v3_3 + 1)) (fun J33 => (if r_5 = 0 then J33 0 else bo (FX7_at (c0 + 6) v3_3 M) (fun (r_8 : Int32) => J33 r_8)))))
noncomputable def FX1_costOf (c0 : Nat) (a1 : Int32) (M : (Nat → Nat → Int32)) : Option Int32 :=
  FX1_costOf_L4 c0 a1 M (fun (k2_1 : Int32) => some k2_1) fuelN 0 0
set_option maxHeartbeats 4000000 in
set_option maxRecDepth 100000 in
theorem tX1_costOf (l : Launch) (dC : Nat → ClassId) (dI : Nat → Nat → Nat) (kI : ClassId) (ad : Nat → Nat) (c0 : Nat) (a1 : Int32) (M : (Nat → Nat → Int32)) (h0 : x_is1 c0) {r0 : Int32} (h : FX1_costOf c0 a1 M = some r0) : Met l yX1_costOf (wsA yX1_costOf cX1_costOf 4 (some .int)) ({ frames := 1, cells := 0, slots := 0, locals := 21 } : Room) (va_Pc [.ref (ad (c0)), .int (a1)] (gI (x_Wd dC dI kI ad) (x_Kn dC dI kI ad) M)) (va_Qi (fun (r : Int32) (u : (Nat → Nat → Int32)) => r = r0 ∧ u = M) (gI (x_Wd dC dI kI ad) (x_Kn dC dI kI ad)) (x_A ad)) 0 0 (x_A ad) := by
  refine Met.ofW (cc := cX1_costOf) (maxL := 4) (ret := (some .int)) (by decide) rfl ?_
  intro p e s m args below meth c s₁ B hml hv
  obtain ⟨rfl, hP, hKn⟩ := hv
  have hx := B.exec
  have hb := B.bytes
  have hr := B.returns
  have hts := atoms_spec (ws := wsA yX1_costOf cX1_costOf 4 (some .int)) B.pre
  have hg : ∀ w ∈ lw_good, w.before _ s = true := fun w h => hts w (List.mem_cons_of_mem _ h)
  have hown : s.vm.findClass RX1 = some m.cls := findClass_of_methodNamed B.named
  have hlocks := B.notSynchronized
  have hS : va_S (x_A ad) s.heap s.heap [] := va_S.rf
  have hFx : gFix p c cX1_costOf 4 s m _ RX1 := ⟨hx, hb, hml, hown, hg⟩
  have hP : va_P (dC, dI) vwCl (x_w kI ad M) s.heap := hP
  have hl := lv_entry ([.ref (ad (c0)), .int (a1)]) (n := 4) (Nat.le_of_ble_eq_true rfl)
  rw [lg_entry_eq]
  generalize (lg_sl ([.ref (ad (c0)), .int (a1)]) ++ List.replicate (4 - (lg_sl ([.ref (ad (c0)), .int (a1)])).length) Slot.unset).toArray = ls at hl ⊢
  have hl : lv_has ls 4 [(0, .ref (ad (c0))), (1, .int (a1))] := hl
  unfold FX1_costOf at h
  refine lv_iconst (v := 0) hx hb dX1_costOf_0 (by decide) ?_
  refine lv_istore_n (lv' := [(2, .int (0)), (0, .ref (ad (c0))), (1, .int (a1))]) hx hb dX1_costOf_1 rfl hl (Nat.le_of_ble_eq_true rfl) rfl (fun ls hl => ?_)
  refine lv_iconst (v := 0) hx hb dX1_costOf_2 (by decide) ?_
  refine lv_istore_n (lv' := [(3, .int (0)), (2, .int (0)), (0, .ref (ad (c0))), (1, .int (a1))]) hx hb dX1_costOf_3 rfl hl (Nat.le_of_ble_eq_true rfl) rfl (fun ls hl => ?_)
  obtain ⟨K4, eK4, h⟩ := exK (Lp := fun K => FX1_costOf_L4 c0 a1 M K fuelN 0 0) h
  have hK4 : ∀ (k2_1 : Int32) (H : Heap) (locs : List Loc) (ls : Array Slot), va_P (dC, dI) vwCl (x_w kI ad M) H → va_S (x_A ad) s.heap H locs → lv_has ls 4 [(2, .int (k2_1))] → K4 k2_1 = some r0 → W p l e (headSpec (wsA yX1_costOf cX1_costOf 4 (some .int)) ({ frames := 1, cells := 0, slots := 0, locals := 21 } : Room)).room s m (([.ref (ad (c0)), .int (a1)] : List Value).toArray) below meth c H locs 0 0 (MQ below (va_Qi (fun (r : Int32) (u : (Nat → Nat → Int32)) => r = r0 ∧ u = M) (gI (x_Wd dC dI kI ad) (x_Kn dC dI kI ad)) (x_A ad)) (([.ref (ad (c0)), .int (a1)] : List Value).toArray) s 0 0 (x_A ad)) (F0 m 41 ls []) := by
    intro k2_1 H locs ls hP hS hl h
    have h := useK1 eK4 h
    refine lv_iload_n hx hb dX1_costOf_41 rfl (lv_at hl 0 rfl) ?_
    exact W.iret (v := k2_1) hx hb hr (fun t ht hW => ⟨⟨k2_1, M, rfl, ⟨Option.some.inj h, rfl⟩, by rw [ht]; exact hP, x_KnW hKn t hW⟩, hS.F ht⟩) hS.2.2 dX1_costOf_42
  have hL4 : ∀ (k : Nat) (v2_2 : Int32) (v3_3 : Int32) (H : Heap) (locs : List Loc) (ls : Array Slot), va_P (dC, dI) vwCl (x_w kI ad M) H → va_S (x_A ad) s.heap H locs → lv_has ls 4 [(0, .ref (ad (c0))), (1, .int (a1)), (2, .int (v2_2)), (3, .int (v3_3))] → FX1_costOf_L4 c0 a1 M K4 k v2_2 v3_3 = some r0 → W p l e (headSpec (wsA yX1_costOf cX1_costOf 4 (some .int)) ({ frames := 1, cells := 0, slots := 0, locals := 21 } : Room)).room s m (([.ref (ad (c0)), .int (a1)] : List Value).toArray) below meth c H locs 0 0 (MQ below (va_Qi (fun (r : Int32) (u : (Nat → Nat → Int32)) => r = r0 ∧ u = M) (gI (x_Wd dC dI kI ad) (x_Kn dC dI kI ad)) (x_A ad)) (([.ref (ad (c0)), .int (a1)] : List Value).toArray) s 0 0 (x_A ad)) (F0 m 4 ls []) := by
    intro k
    induction k with
    | zero => intro v2_2 v3_3 H locs ls hP hS hl h; cases h
    | succ k ih4 =>
      intro v2_2 v3_3 H locs ls hP hS hl h
      unfold FX1_costOf_L4 at h
      refine lv_iload_n hx hb dX1_costOf_4 rfl (lv_at hl 3 rfl) ?_
      refine lv_aload_n hx hb dX1_costOf_5 rfl (lv_at hl 0 rfl) ?_
      refine va_get (D := (dC, dI)) (ci := 1) (v := .int ((M c0 2))) (C := RX1) (T := TX1) (N := 10) hx hb hg inX1 hown hKn.1 hP (c0) (x_at1 (c := c0) h0) rfl 2 (Nat.le_of_ble_eq_true rfl) (hg _ lkF_X1_40) (fun _ h9 => h9) rfl dX1_costOf_6 ?_
      refine lv_icmp_ge (tgt := 41) hx hb dX1_costOf_9 (by decide) (fun c_4 => ?_) (fun c_4 => ?_)
      · have h := ife_t c_4 h
        exact hK4 v2_2 _ _ _ hP hS (lv_sub hl [2] rfl) h
      · have h := ife_f c_4 h
        refine lv_iload_n hx hb dX1_costOf_12 rfl (lv_at hl 2 rfl) ?_
        refine lv_iload_n hx hb dX1_costOf_13 rfl (lv_at hl 1 rfl) ?_
        refine lv_iload_n hx hb dX1_costOf_14 rfl (lv_at hl 3 rfl) ?_
        obtain ⟨r_5, e15, h⟩ := bo_use h
        refine gc_i (va_runSN (As := [.int (a1), .int (v3_3)]) (rest := [.int (v2_2)]) hFx (tX7_has l dC dI kI ad a1 v3_3 M  e15) ⟨(gc_N hFx hKn.2.2 ck_yX7_has nkM_X1_57 ⟨Nat.le_of_ble_eq_true rfl, Nat.le_of_ble_eq_true rfl⟩ rfl rfl), hg _ st_yX7_has, trivial⟩ (gp_S x_KnB (x_KnW hKn) hP) rfl rfl hl.1 rfl (lv_room (Nat.le_of_ble_eq_true rfl)) dX1_costOf_15 ⟨Nat.zero_le _, Nat.zero_le _⟩) hS (fun H locs hP hS => ?_)
        have hP : va_P (dC, dI) vwCl (x_w kI ad M) H := hP
        obtain ⟨J33, eJ33, h⟩ := jn_use h
        have hJ33 : ∀ (s_6 : Int32) (H : Heap) (locs : List Loc) (ls : Array Slot), va_P (dC, dI) vwCl (x_w kI ad M) H → va_S (x_A ad) s.heap H locs → lv_has ls 4 [(0, .ref (ad (c0))), (1, .int (a1)), (3, .int (v3_3))] → J33 s_6 = some r0 → W p l e (headSpec (wsA yX1_costOf cX1_costOf 4 (some .int)) ({ frames := 1, cells := 0, slots := 0, locals := 21 } : Room)).room s m (([.ref (ad (c0)), .int (a1)] : List Value).toArray) below meth c H locs 0 0 (MQ below (va_Qi (fun (r : Int32) (u : (Nat → Nat → Int32)) => r = r0 ∧ u = M) (gI (x_Wd dC dI kI ad) (x_Kn dC dI kI ad)) (x_A ad)) (([.ref (ad (c0)), .int (a1)] : List Value).toArray) s 0 0 (x_A ad)) (F0 m 33 ls [.int (s_6), .int (v2_2)]) := by
          intro s_6 H locs ls hP hS hl h
          have h := useK1 eJ33 h
          refine lv_iadd hx hb dX1_costOf_33 ?_
          refine lv_istore_n (lv' := [(2, .int ((v2_2 + s_6))), (0, .ref (ad (c0))), (1, .int (a1)), (3, .int (v3_3))]) hx hb dX1_costOf_34 rfl hl (Nat.le_of_ble_eq_true rfl) rfl (fun ls hl => ?_)
          refine lv_iinc (v := (v3_3 + 1)) (lv' := [(3, .int ((v3_3 + 1))), (2, .int ((v2_2 + s_6))), (0, .ref (ad (c0))), (1, .int (a1))]) hx hb dX1_costOf_35 hl (k := 3) rfl rfl (Nat.le_of_ble_eq_true rfl) rfl (fun ls hl => ?_)
          refine lv_goto (tgt := 4) hx hb dX1_costOf_38 (by decide) ?_
          exact ih4 (v2_2 + s_6) (v3_3 + 1) _ _ _ hP hS (lv_sub hl [2, 3, 1, 0] rfl) h
        refine lv_if_eq (tgt := 32) hx hb dX1_costOf_18 (by decide) (fun c_7 => ?_) (fun c_7 => ?_)
        · have h := ife_t c_7 h
          refine lv_iconst (v := 0) hx hb dX1_costOf_32 (by decide) ?_
          exact hJ33 0 _ _ _ hP hS (lv_sub hl [0, 1, 3] rfl) h
        · have h := ife_f c_7 h
          refine lv_aload_n hx hb dX1_costOf_21 rfl (lv_at hl 0 rfl) ?_
          refine va_get (D := (dC, dI)) (ci := 1) (v := .ref (ad ((c0 + 6)))) (C := RX1) (T := TX1) (N := 10) hx hb hg inX1 hown hKn.1 hP (c0) (x_at1 (c := c0) h0) rfl 9 (Nat.le_of_ble_eq_true rfl) (hg _ lkF_X1_31) (fun _ h9 => h9) rfl dX1_costOf_22 ?_
          refine lv_iload_n hx hb dX1_costOf_25 rfl (lv_at hl 3 rfl) ?_
          obtain ⟨r_8, e26, h⟩ := bo_use h
          refine gc_i (va_runSN (As := [.ref (ad ((c0 + 6))), .int (v3_3)]) (rest := [.int (v2_2)]) hFx (tX7_at l dC dI kI ad (c0 + 6) v3_3 M (x_ar1_6 h0) e26) ⟨(gc_N hFx hKn.2.2 ck_yX7_at nkM_X1_43 ⟨Nat.le_of_ble_eq_true rfl, Nat.le_of_ble_eq_true rfl⟩ rfl rfl), hg _ st_yX7_at, trivial⟩ (gp_S x_KnB (x_KnW hKn) hP) rfl rfl hl.1 rfl (lv_room (Nat.le_of_ble_eq_true rfl)) dX1_costOf_26 ⟨Nat.zero_le _, Nat.zero_le _⟩) hS (fun H locs hP hS => ?_)
          have hP : va_P (dC, dI) vwCl (x_w kI ad M) H := hP
          refine lv_goto (tgt := 33) hx hb dX1_costOf_29 (by decide) ?_
          exact hJ33 r_8 _ _ _ hP hS (lv_sub hl [0, 1, 3] rfl) h
  exact hL4 fuelN 0 0 _ _ _ hP hS (lv_sub hl [2, 3, 1, 0] rfl) h
noncomputable def FX1_fits (c0 : Nat) (a1 : Int32) (M : (Nat → Nat → Int32)) : Option Int32 :=
  bo (FJ6_bitCount_0f7a4 a1) (fun (r_1 : Int32) => (if (M c0 0) < r_1 then some 0 else some 1))
set_option maxHeartbeats 4000000 in
set_option maxRecDepth 100000 in
theorem tX1_fits (l : Launch) (dC : Nat → ClassId) (dI : Nat → Nat → Nat) (kI : ClassId) (ad : Nat → Nat) (c0 : Nat) (a1 : Int32) (M : (Nat → Nat → Int32)) (h0 : x_is1 c0) {r0 : Int32} (h : FX1_fits c0 a1 M = some r0) : Met l yX1_fits (wsA yX1_fits cX1_fits 2 (some .boolean)) ({ frames := 1, cells := 0, slots := 0, locals := 20 } : Room) (va_Pc [.ref (ad (c0)), .int (a1)] (gI (x_Wd dC dI kI ad) (x_Kn dC dI kI ad) M)) (va_Qi (fun (r : Int32) (u : (Nat → Nat → Int32)) => r = r0 ∧ u = M) (gI (x_Wd dC dI kI ad) (x_Kn dC dI kI ad)) (x_A ad)) 0 0 (x_A ad) := by
  refine Met.ofW (cc := cX1_fits) (maxL := 2) (ret := (some .boolean)) (by decide) rfl ?_
  intro p e s m args below meth c s₁ B hml hv
  obtain ⟨rfl, hP, hKn⟩ := hv
  have hx := B.exec
  have hb := B.bytes
  have hr := B.returns
  have hts := atoms_spec (ws := wsA yX1_fits cX1_fits 2 (some .boolean)) B.pre
  have hg : ∀ w ∈ lw_good, w.before _ s = true := fun w h => hts w (List.mem_cons_of_mem _ h)
  have hown : s.vm.findClass RX1 = some m.cls := findClass_of_methodNamed B.named
  have hlocks := B.notSynchronized
  have hS : va_S (x_A ad) s.heap s.heap [] := va_S.rf
  have hFx : gFix p c cX1_fits 2 s m _ RX1 := ⟨hx, hb, hml, hown, hg⟩
  have hP : va_P (dC, dI) vwCl (x_w kI ad M) s.heap := hP
  have hl := lv_entry ([.ref (ad (c0)), .int (a1)]) (n := 2) (Nat.le_of_ble_eq_true rfl)
  rw [lg_entry_eq]
  generalize (lg_sl ([.ref (ad (c0)), .int (a1)]) ++ List.replicate (2 - (lg_sl ([.ref (ad (c0)), .int (a1)])).length) Slot.unset).toArray = ls at hl ⊢
  have hl : lv_has ls 2 [(0, .ref (ad (c0))), (1, .int (a1))] := hl
  unfold FX1_fits at h
  refine lv_iload_n hx hb dX1_fits_0 rfl (lv_at hl 1 rfl) ?_
  obtain ⟨r_1, e1, h⟩ := bo_use h
  refine gc_i (va_runS (As := [.int (a1)]) (rest := []) hFx (tJ6_bitCount_0f7a4 l dC dI kI ad a1 M  e1) ⟨(gc_B hFx ck_yJ6_bitCount_0f7a4 lkM_X1_51 ⟨Nat.le_of_ble_eq_true rfl, Nat.le_of_ble_eq_true rfl⟩ rfl rfl), hg _ st_yJ6_bitCount_0f7a4⟩ (gp_S x_KnB (x_KnW hKn) hP) rfl rfl hl.1 rfl (lv_room (Nat.le_of_ble_eq_true rfl)) dX1_fits_1 ⟨Nat.zero_le _, Nat.zero_le _⟩) hS (fun H locs hP hS => ?_)
  have hP : va_P (dC, dI) vwCl (x_w kI ad M) H := hP
  refine lv_aload_n hx hb dX1_fits_4 rfl (lv_at hl 0 rfl) ?_
  refine va_get (D := (dC, dI)) (ci := 1) (v := .int ((M c0 0))) (C := RX1) (T := TX1) (N := 10) hx hb hg inX1 hown hKn.1 hP (c0) (x_at1 (c := c0) h0) rfl 0 (Nat.le_of_ble_eq_true rfl) (hg _ lkF_X1_34) (fun _ h9 => h9) rfl dX1_fits_5 ?_
  refine lv_icmp_gt (tgt := 15) hx hb dX1_fits_8 (by decide) (fun c_2 => ?_) (fun c_2 => ?_)
  · have h := ife_t c_2 h
    refine lv_iconst (v := 0) hx hb dX1_fits_15 (by decide) ?_
    exact W.zret (v := 0) hx hb hr rfl (fun t ht hW => ⟨⟨0, M, rfl, ⟨Option.some.inj h, rfl⟩, by rw [ht]; exact hP, x_KnW hKn t hW⟩, hS.F ht⟩) hS.2.2 dX1_fits_16
  · have h := ife_f c_2 h
    refine lv_iconst (v := 1) hx hb dX1_fits_11 (by decide) ?_
    refine lv_goto (tgt := 16) hx hb dX1_fits_12 (by decide) ?_
    exact W.zret (v := 1) hx hb hr rfl (fun t ht hW => ⟨⟨1, M, rfl, ⟨Option.some.inj h, rfl⟩, by rw [ht]; exact hP, x_KnW hKn t hW⟩, hS.F ht⟩) hS.2.2 dX1_fits_16
noncomputable def FX1_hasFact (c0 : Nat) (a1 : Int32) (M : (Nat → Nat → Int32)) : Option Int32 :=
  (if a1 < 0 then some 0 else (if (M c0 2) ≤ a1 then some 0 else some 1))
set_option maxHeartbeats 4000000 in
set_option maxRecDepth 100000 in
theorem tX1_hasFact (l : Launch) (dC : Nat → ClassId) (dI : Nat → Nat → Nat) (kI : ClassId) (ad : Nat → Nat) (c0 : Nat) (a1 : Int32) (M : (Nat → Nat → Int32)) (h0 : x_is1 c0) {r0 : Int32} (h : FX1_hasFact c0 a1 M = some r0) : Met l yX1_hasFact (wsA yX1_hasFact cX1_hasFact 2 (some .boolean)) ({ frames := 0, cells := 0, slots := 0, locals := 0 } : Room) (va_Pc [.ref (ad (c0)), .int (a1)] (gI (x_Wd dC dI kI ad) (x_Kn dC dI kI ad) M)) (va_Qi (fun (r : Int32) (u : (Nat → Nat → Int32)) => r = r0 ∧ u = M) (gI (x_Wd dC dI kI ad) (x_Kn dC dI kI ad)) (x_A ad)) 0 0 (x_A ad) := by
  refine Met.ofW (cc := cX1_hasFact) (maxL := 2) (ret := (some .boolean)) (by decide) rfl ?_
  intro p e s m args below meth c s₁ B hml hv
  obtain ⟨rfl, hP, hKn⟩ := hv
  have hx := B.exec
  have hb := B.bytes
  have hr := B.returns
  have hts := atoms_spec (ws := wsA yX1_hasFact cX1_hasFact 2 (some .boolean)) B.pre
  have hg : ∀ w ∈ lw_good, w.before _ s = true := fun w h => hts w (List.mem_cons_of_mem _ h)
  have hown : s.vm.findClass RX1 = some m.cls := findClass_of_methodNamed B.named
  have hlocks := B.notSynchronized
  have hS : va_S (x_A ad) s.heap s.heap [] := va_S.rf
  have hFx : gFix p c cX1_hasFact 2 s m _ RX1 := ⟨hx, hb, hml, hown, hg⟩
  have hP : va_P (dC, dI) vwCl (x_w kI ad M) s.heap := hP
  have hl := lv_entry ([.ref (ad (c0)), .int (a1)]) (n := 2) (Nat.le_of_ble_eq_true rfl)
  rw [lg_entry_eq]
  generalize (lg_sl ([.ref (ad (c0)), .int (a1)]) ++ List.replicate (2 - (lg_sl ([.ref (ad (c0)), .int (a1)])).length) Slot.unset).toArray = ls at hl ⊢
  have hl : lv_has ls 2 [(0, .ref (ad (c0))), (1, .int (a1))] := hl
  unfold FX1_hasFact at h
  refine lv_iload_n hx hb dX1_hasFact_0 rfl (lv_at hl 1 rfl) ?_
  refine lv_if_lt (tgt := 16) hx hb dX1_hasFact_1 (by decide) (fun c_1 => ?_) (fun c_1 => ?_)
  · have h := ife_t c_1 h
    refine lv_iconst (v := 0) hx hb dX1_hasFact_16 (by decide) ?_
    exact W.zret (v := 0) hx hb hr rfl (fun t ht hW => ⟨⟨0, M, rfl, ⟨Option.some.inj h, rfl⟩, by rw [ht]; exact hP, x_KnW hKn t hW⟩, hS.F ht⟩) hS.2.2 dX1_hasFact_17
  · have h := ife_f c_1 h
    refine lv_iload_n hx hb dX1_hasFact_4 rfl (lv_at hl 1 rfl) ?_
    refine lv_aload_n hx hb dX1_hasFact_5 rfl (lv_at hl 0 rfl) ?_
    refine va_get (D := (dC, dI)) (ci := 1) (v := .int ((M c0 2))) (C := RX1) (T := TX1) (N := 10) hx hb hg inX1 hown hKn.1 hP (c0) (x_at1 (c := c0) h0) rfl 2 (Nat.le_of_ble_eq_true rfl) (hg _ lkF_X1_40) (fun _ h9 => h9) rfl dX1_hasFact_6 ?_
    refine lv_icmp_ge (tgt := 16) hx hb dX1_hasFact_9 (by decide) (fun c_2 => ?_) (fun c_2 => ?_)
    · have h := ife_t c_2 h
      refine lv_iconst (v := 0) hx hb dX1_hasFact_16 (by decide) ?_
      exact W.zret (v := 0) hx hb hr rfl (fun t ht hW => ⟨⟨0, M, rfl, ⟨Option.some.inj h, rfl⟩, by rw [ht]; exact hP, x_KnW hKn t hW⟩, hS.F ht⟩) hS.2.2 dX1_hasFact_17
    · have h := ife_f c_2 h
      refine lv_iconst (v := 1) hx hb dX1_hasFact_12 (by decide) ?_
      refine lv_goto (tgt := 17) hx hb dX1_hasFact_13 (by decide) ?_
      exact W.zret (v := 1) hx hb hr rfl (fun t ht hW => ⟨⟨1, M, rfl, ⟨Option.some.inj h, rfl⟩, by rw [ht]; exact hP, x_KnW hKn t hW⟩, hS.F ht⟩) hS.2.2 dX1_hasFact_17
noncomputable def FX1_hasFacts (c0 : Nat) (a1 : Int32) (M : (Nat → Nat → Int32)) : Option Int32 :=
  (if (a1 &&& (-(1 <<< ((M c0 2) &&& 31)))) = 0 then some 1 else some 0)
set_option maxHeartbeats 4000000 in
set_option maxRecDepth 100000 in
theorem tX1_hasFacts (l : Launch) (dC : Nat → ClassId) (dI : Nat → Nat → Nat) (kI : ClassId) (ad : Nat → Nat) (c0 : Nat) (a1 : Int32) (M : (Nat → Nat → Int32)) (h0 : x_is1 c0) {r0 : Int32} (h : FX1_hasFacts c0 a1 M = some r0) : Met l yX1_hasFacts (wsA yX1_hasFacts cX1_hasFacts 2 (some .boolean)) ({ frames := 0, cells := 0, slots := 0, locals := 0 } : Room) (va_Pc [.ref (ad (c0)), .int (a1)] (gI (x_Wd dC dI kI ad) (x_Kn dC dI kI ad) M)) (va_Qi (fun (r : Int32) (u : (Nat → Nat → Int32)) => r = r0 ∧ u = M) (gI (x_Wd dC dI kI ad) (x_Kn dC dI kI ad)) (x_A ad)) 0 0 (x_A ad) := by
  refine Met.ofW (cc := cX1_hasFacts) (maxL := 2) (ret := (some .boolean)) (by decide) rfl ?_
  intro p e s m args below meth c s₁ B hml hv
  obtain ⟨rfl, hP, hKn⟩ := hv
  have hx := B.exec
  have hb := B.bytes
  have hr := B.returns
  have hts := atoms_spec (ws := wsA yX1_hasFacts cX1_hasFacts 2 (some .boolean)) B.pre
  have hg : ∀ w ∈ lw_good, w.before _ s = true := fun w h => hts w (List.mem_cons_of_mem _ h)
  have hown : s.vm.findClass RX1 = some m.cls := findClass_of_methodNamed B.named
  have hlocks := B.notSynchronized
  have hS : va_S (x_A ad) s.heap s.heap [] := va_S.rf
  have hFx : gFix p c cX1_hasFacts 2 s m _ RX1 := ⟨hx, hb, hml, hown, hg⟩
  have hP : va_P (dC, dI) vwCl (x_w kI ad M) s.heap := hP
  have hl := lv_entry ([.ref (ad (c0)), .int (a1)]) (n := 2) (Nat.le_of_ble_eq_true rfl)
  rw [lg_entry_eq]
  generalize (lg_sl ([.ref (ad (c0)), .int (a1)]) ++ List.replicate (2 - (lg_sl ([.ref (ad (c0)), .int (a1)])).length) Slot.unset).toArray = ls at hl ⊢
  have hl : lv_has ls 2 [(0, .ref (ad (c0))), (1, .int (a1))] := hl
  unfold FX1_hasFacts at h
  refine lv_iload_n hx hb dX1_hasFacts_0 rfl (lv_at hl 1 rfl) ?_
  refine lv_iconst (v := 1) hx hb dX1_hasFacts_1 (by decide) ?_
  refine lv_aload_n hx hb dX1_hasFacts_2 rfl (lv_at hl 0 rfl) ?_
  refine va_get (D := (dC, dI)) (ci := 1) (v := .int ((M c0 2))) (C := RX1) (T := TX1) (N := 10) hx hb hg inX1 hown hKn.1 hP (c0) (x_at1 (c := c0) h0) rfl 2 (Nat.le_of_ble_eq_true rfl) (hg _ lkF_X1_40) (fun _ h9 => h9) rfl dX1_hasFacts_3 ?_
  refine lv_ishl hx hb dX1_hasFacts_6 ?_
  refine lv_ineg hx hb dX1_hasFacts_7 ?_
  refine lv_iand hx hb dX1_hasFacts_8 ?_
  refine lv_if_ne (tgt := 16) hx hb dX1_hasFacts_9 (by decide) (fun c_1 => ?_) (fun c_1 => ?_)
  · have h := ife_f c_1 h
    refine lv_iconst (v := 0) hx hb dX1_hasFacts_16 (by decide) ?_
    exact W.zret (v := 0) hx hb hr rfl (fun t ht hW => ⟨⟨0, M, rfl, ⟨Option.some.inj h, rfl⟩, by rw [ht]; exact hP, x_KnW hKn t hW⟩, hS.F ht⟩) hS.2.2 dX1_hasFacts_17
  · have h := ife_t c_1 h
    refine lv_iconst (v := 1) hx hb dX1_hasFacts_12 (by decide) ?_
    refine lv_goto (tgt := 17) hx hb dX1_hasFacts_13 (by decide) ?_
    exact W.zret (v := 1) hx hb hr rfl (fun t ht hW => ⟨⟨1, M, rfl, ⟨Option.some.inj h, rfl⟩, by rw [ht]; exact hP, x_KnW hKn t hW⟩, hS.F ht⟩) hS.2.2 dX1_hasFacts_17
noncomputable def FX1_hasOpinion (c0 : Nat) (a1 : Int32) (M : (Nat → Nat → Int32)) : Option Int32 :=
  (if a1 < 0 then some 0 else (if (M c0 1) ≤ a1 then some 0 else some 1))
set_option maxHeartbeats 4000000 in
set_option maxRecDepth 100000 in
theorem tX1_hasOpinion (l : Launch) (dC : Nat → ClassId) (dI : Nat → Nat → Nat) (kI : ClassId) (ad : Nat → Nat) (c0 : Nat) (a1 : Int32) (M : (Nat → Nat → Int32)) (h0 : x_is1 c0) {r0 : Int32} (h : FX1_hasOpinion c0 a1 M = some r0) : Met l yX1_hasOpinion (wsA yX1_hasOpinion cX1_hasOpinion 2 (some .boolean)) ({ frames := 0, cells := 0, slots := 0, locals := 0 } : Room) (va_Pc [.ref (ad (c0)), .int (a1)] (gI (x_Wd dC dI kI ad) (x_Kn dC dI kI ad) M)) (va_Qi (fun (r : Int32) (u : (Nat → Nat → Int32)) => r = r0 ∧ u = M) (gI (x_Wd dC dI kI ad) (x_Kn dC dI kI ad)) (x_A ad)) 0 0 (x_A ad) := by
  refine Met.ofW (cc := cX1_hasOpinion) (maxL := 2) (ret := (some .boolean)) (by decide) rfl ?_
  intro p e s m args below meth c s₁ B hml hv
  obtain ⟨rfl, hP, hKn⟩ := hv
  have hx := B.exec
  have hb := B.bytes
  have hr := B.returns
  have hts := atoms_spec (ws := wsA yX1_hasOpinion cX1_hasOpinion 2 (some .boolean)) B.pre
  have hg : ∀ w ∈ lw_good, w.before _ s = true := fun w h => hts w (List.mem_cons_of_mem _ h)
  have hown : s.vm.findClass RX1 = some m.cls := findClass_of_methodNamed B.named
  have hlocks := B.notSynchronized
  have hS : va_S (x_A ad) s.heap s.heap [] := va_S.rf
  have hFx : gFix p c cX1_hasOpinion 2 s m _ RX1 := ⟨hx, hb, hml, hown, hg⟩
  have hP : va_P (dC, dI) vwCl (x_w kI ad M) s.heap := hP
  have hl := lv_entry ([.ref (ad (c0)), .int (a1)]) (n := 2) (Nat.le_of_ble_eq_true rfl)
  rw [lg_entry_eq]
  generalize (lg_sl ([.ref (ad (c0)), .int (a1)]) ++ List.replicate (2 - (lg_sl ([.ref (ad (c0)), .int (a1)])).length) Slot.unset).toArray = ls at hl ⊢
  have hl : lv_has ls 2 [(0, .ref (ad (c0))), (1, .int (a1))] := hl
  unfold FX1_hasOpinion at h
  refine lv_iload_n hx hb dX1_hasOpinion_0 rfl (lv_at hl 1 rfl) ?_
  refine lv_if_lt (tgt := 16) hx hb dX1_hasOpinion_1 (by decide) (fun c_1 => ?_) (fun c_1 => ?_)
  · have h := ife_t c_1 h
    refine lv_iconst (v := 0) hx hb dX1_hasOpinion_16 (by decide) ?_
    exact W.zret (v := 0) hx hb hr rfl (fun t ht hW => ⟨⟨0, M, rfl, ⟨Option.some.inj h, rfl⟩, by rw [ht]; exact hP, x_KnW hKn t hW⟩, hS.F ht⟩) hS.2.2 dX1_hasOpinion_17
  · have h := ife_f c_1 h
    refine lv_iload_n hx hb dX1_hasOpinion_4 rfl (lv_at hl 1 rfl) ?_
    refine lv_aload_n hx hb dX1_hasOpinion_5 rfl (lv_at hl 0 rfl) ?_
    refine va_get (D := (dC, dI)) (ci := 1) (v := .int ((M c0 1))) (C := RX1) (T := TX1) (N := 10) hx hb hg inX1 hown hKn.1 hP (c0) (x_at1 (c := c0) h0) rfl 1 (Nat.le_of_ble_eq_true rfl) (hg _ lkF_X1_37) (fun _ h9 => h9) rfl dX1_hasOpinion_6 ?_
    refine lv_icmp_ge (tgt := 16) hx hb dX1_hasOpinion_9 (by decide) (fun c_2 => ?_) (fun c_2 => ?_)
    · have h := ife_t c_2 h
      refine lv_iconst (v := 0) hx hb dX1_hasOpinion_16 (by decide) ?_
      exact W.zret (v := 0) hx hb hr rfl (fun t ht hW => ⟨⟨0, M, rfl, ⟨Option.some.inj h, rfl⟩, by rw [ht]; exact hP, x_KnW hKn t hW⟩, hS.F ht⟩) hS.2.2 dX1_hasOpinion_17
    · have h := ife_f c_2 h
      refine lv_iconst (v := 1) hx hb dX1_hasOpinion_12 (by decide) ?_
      refine lv_goto (tgt := 17) hx hb dX1_hasOpinion_13 (by decide) ?_
      exact W.zret (v := 1) hx hb hr rfl (fun t ht hW => ⟨⟨1, M, rfl, ⟨Option.some.inj h, rfl⟩, by rw [ht]; exact hP, x_KnW hKn t hW⟩, hS.F ht⟩) hS.2.2 dX1_hasOpinion_17
noncomputable def FX1_hasOpinions (c0 : Nat) (a1 : Int32) (M : (Nat → Nat → Int32)) : Option Int32 :=
  (if (a1 &&& (-(1 <<< ((M c0 1) &&& 31)))) = 0 then some 1 else some 0)
set_option maxHeartbeats 4000000 in
set_option maxRecDepth 100000 in
theorem tX1_hasOpinions (l : Launch) (dC : Nat → ClassId) (dI : Nat → Nat → Nat) (kI : ClassId) (ad : Nat → Nat) (c0 : Nat) (a1 : Int32) (M : (Nat → Nat → Int32)) (h0 : x_is1 c0) {r0 : Int32} (h : FX1_hasOpinions c0 a1 M = some r0) : Met l yX1_hasOpinions (wsA yX1_hasOpinions cX1_hasOpinions 2 (some .boolean)) ({ frames := 0, cells := 0, slots := 0, locals := 0 } : Room) (va_Pc [.ref (ad (c0)), .int (a1)] (gI (x_Wd dC dI kI ad) (x_Kn dC dI kI ad) M)) (va_Qi (fun (r : Int32) (u : (Nat → Nat → Int32)) => r = r0 ∧ u = M) (gI (x_Wd dC dI kI ad) (x_Kn dC dI kI ad)) (x_A ad)) 0 0 (x_A ad) := by
  refine Met.ofW (cc := cX1_hasOpinions) (maxL := 2) (ret := (some .boolean)) (by decide) rfl ?_
  intro p e s m args below meth c s₁ B hml hv
  obtain ⟨rfl, hP, hKn⟩ := hv
  have hx := B.exec
  have hb := B.bytes
  have hr := B.returns
  have hts := atoms_spec (ws := wsA yX1_hasOpinions cX1_hasOpinions 2 (some .boolean)) B.pre
  have hg : ∀ w ∈ lw_good, w.before _ s = true := fun w h => hts w (List.mem_cons_of_mem _ h)
  have hown : s.vm.findClass RX1 = some m.cls := findClass_of_methodNamed B.named
  have hlocks := B.notSynchronized
  have hS : va_S (x_A ad) s.heap s.heap [] := va_S.rf
  have hFx : gFix p c cX1_hasOpinions 2 s m _ RX1 := ⟨hx, hb, hml, hown, hg⟩
  have hP : va_P (dC, dI) vwCl (x_w kI ad M) s.heap := hP
  have hl := lv_entry ([.ref (ad (c0)), .int (a1)]) (n := 2) (Nat.le_of_ble_eq_true rfl)
  rw [lg_entry_eq]
  generalize (lg_sl ([.ref (ad (c0)), .int (a1)]) ++ List.replicate (2 - (lg_sl ([.ref (ad (c0)), .int (a1)])).length) Slot.unset).toArray = ls at hl ⊢
  have hl : lv_has ls 2 [(0, .ref (ad (c0))), (1, .int (a1))] := hl
  unfold FX1_hasOpinions at h
  refine lv_iload_n hx hb dX1_hasOpinions_0 rfl (lv_at hl 1 rfl) ?_
  refine lv_iconst (v := 1) hx hb dX1_hasOpinions_1 (by decide) ?_
  refine lv_aload_n hx hb dX1_hasOpinions_2 rfl (lv_at hl 0 rfl) ?_
  refine va_get (D := (dC, dI)) (ci := 1) (v := .int ((M c0 1))) (C := RX1) (T := TX1) (N := 10) hx hb hg inX1 hown hKn.1 hP (c0) (x_at1 (c := c0) h0) rfl 1 (Nat.le_of_ble_eq_true rfl) (hg _ lkF_X1_37) (fun _ h9 => h9) rfl dX1_hasOpinions_3 ?_
  refine lv_ishl hx hb dX1_hasOpinions_6 ?_
  refine lv_ineg hx hb dX1_hasOpinions_7 ?_
  refine lv_iand hx hb dX1_hasOpinions_8 ?_
  refine lv_if_ne (tgt := 16) hx hb dX1_hasOpinions_9 (by decide) (fun c_1 => ?_) (fun c_1 => ?_)
  · have h := ife_f c_1 h
    refine lv_iconst (v := 0) hx hb dX1_hasOpinions_16 (by decide) ?_
    exact W.zret (v := 0) hx hb hr rfl (fun t ht hW => ⟨⟨0, M, rfl, ⟨Option.some.inj h, rfl⟩, by rw [ht]; exact hP, x_KnW hKn t hW⟩, hS.F ht⟩) hS.2.2 dX1_hasOpinions_17
  · have h := ife_t c_1 h
    refine lv_iconst (v := 1) hx hb dX1_hasOpinions_12 (by decide) ?_
    refine lv_goto (tgt := 17) hx hb dX1_hasOpinions_13 (by decide) ?_
    exact W.zret (v := 1) hx hb hr rfl (fun t ht hW => ⟨⟨1, M, rfl, ⟨Option.some.inj h, rfl⟩, by rw [ht]; exact hP, x_KnW hKn t hW⟩, hS.F ht⟩) hS.2.2 dX1_hasOpinions_17
noncomputable def FX2_append (a1 : Int32) (M : (Nat → Nat → Int32)) : Option (Int32 × (Nat → Nat → Int32)) :=
  (if (M 1 1) < 240 then bo (FX7_put 2 (M 1 1) a1 M) (fun (M_2 : (Nat → Nat → Int32)) => some (1, upd2 M_2 1 1 ((M_2 1 1) + 1))) else some (0, M))
set_option maxHeartbeats 4000000 in
set_option maxRecDepth 100000 in
theorem tX2_append (l : Launch) (dC : Nat → ClassId) (dI : Nat → Nat → Nat) (kI : ClassId) (ad : Nat → Nat) (a1 : Int32) (M : (Nat → Nat → Int32))  {r0 : Int32} {M0 : (Nat → Nat → Int32)} (h : FX2_append a1 M = some (r0, M0)) : Met l yX2_append (wsA yX2_append cX2_append 2 (some .boolean)) ({ frames := 1, cells := 0, slots := 0, locals := 22 } : Room) (va_Pc [.ref (ad (1)), .int (a1)] (gI (x_Wd dC dI kI ad) (x_Kn dC dI kI ad) M)) (va_Qi (fun (r : Int32) (u : (Nat → Nat → Int32)) => r = r0 ∧ u = M0) (gI (x_Wd dC dI kI ad) (x_Kn dC dI kI ad)) (x_A ad)) 0 0 (x_A ad) := by
  refine Met.ofW (cc := cX2_append) (maxL := 2) (ret := (some .boolean)) (by decide) rfl ?_
  intro p e s m args below meth c s₁ B hml hv
  obtain ⟨rfl, hP, hKn⟩ := hv
  have hx := B.exec
  have hb := B.bytes
  have hr := B.returns
  have hts := atoms_spec (ws := wsA yX2_append cX2_append 2 (some .boolean)) B.pre
  have hg : ∀ w ∈ lw_good, w.before _ s = true := fun w h => hts w (List.mem_cons_of_mem _ h)
  have hown : s.vm.findClass RX2 = some m.cls := findClass_of_methodNamed B.named
  have hlocks := B.notSynchronized
  have hS : va_S (x_A ad) s.heap s.heap [] := va_S.rf
  have hFx : gFix p c cX2_append 2 s m _ RX2 := ⟨hx, hb, hml, hown, hg⟩
  have hP : va_P (dC, dI) vwCl (x_w kI ad M) s.heap := hP
  have hl := lv_entry ([.ref (ad (1)), .int (a1)]) (n := 2) (Nat.le_of_ble_eq_true rfl)
  rw [lg_entry_eq]
  generalize (lg_sl ([.ref (ad (1)), .int (a1)]) ++ List.replicate (2 - (lg_sl ([.ref (ad (1)), .int (a1)])).length) Slot.unset).toArray = ls at hl ⊢
  have hl : lv_has ls 2 [(0, .ref (ad (1))), (1, .int (a1))] := hl
  unfold FX2_append at h
  refine lv_aload_n hx hb dX2_append_0 rfl (lv_at hl 0 rfl) ?_
  refine va_get (D := (dC, dI)) (ci := 2) (v := .int ((M 1 1))) (C := RX2) (T := TX2) (N := 7) hx hb hg inX2 hown hKn.1 hP (1) (x_at2 (c := 1) (by decide)) rfl 1 (Nat.le_of_ble_eq_true rfl) (hg _ lkF_X2_15) (fun _ h9 => h9) rfl dX2_append_1 ?_
  refine lv_sipush (v := 240) hx hb dX2_append_4 (by decide) ?_
  refine lv_icmp_lt (tgt := 12) hx hb dX2_append_7 (by decide) (fun c_1 => ?_) (fun c_1 => ?_)
  · have h := ife_t c_1 h
    refine lv_aload_n hx hb dX2_append_12 rfl (lv_at hl 0 rfl) ?_
    refine va_get (D := (dC, dI)) (ci := 2) (v := .ref (ad (2))) (C := RX2) (T := TX2) (N := 7) hx hb hg inX2 hown hKn.1 hP (1) (x_at2 (c := 1) (by decide)) rfl 0 (Nat.le_of_ble_eq_true rfl) (hg _ lkF_X2_9) (fun _ h9 => h9) rfl dX2_append_13 ?_
    refine lv_aload_n hx hb dX2_append_16 rfl (lv_at hl 0 rfl) ?_
    refine va_get (D := (dC, dI)) (ci := 2) (v := .int ((M 1 1))) (C := RX2) (T := TX2) (N := 7) hx hb hg inX2 hown hKn.1 hP (1) (x_at2 (c := 1) (by decide)) rfl 1 (Nat.le_of_ble_eq_true rfl) (hg _ lkF_X2_15) (fun _ h9 => h9) rfl dX2_append_17 ?_
    refine lv_iload_n hx hb dX2_append_20 rfl (lv_at hl 1 rfl) ?_
    obtain ⟨M_2, e21, h⟩ := bo_use h
    refine gc_v (va_runSN (As := [.ref (ad (2)), .int ((M 1 1)), .int (a1)]) (rest := []) hFx (tX7_put l dC dI kI ad 2 (M 1 1) a1 M (by decide) e21) ⟨(gc_N hFx hKn.2.2 ck_yX7_put nkM_X2_25 ⟨Nat.le_of_ble_eq_true rfl, Nat.le_of_ble_eq_true rfl⟩ rfl rfl), hg _ st_yX7_put, trivial⟩ (gp_S x_KnB (x_KnW hKn) hP) rfl rfl hl.1 rfl (lv_room (Nat.le_of_ble_eq_true rfl)) dX2_append_21 ⟨Nat.zero_le _, Nat.zero_le _⟩) hS (fun H locs hP hS => ?_)
    have hP : va_P (dC, dI) vwCl (x_w kI ad M_2) H := hP
    refine lv_aload_n hx hb dX2_append_24 rfl (lv_at hl 0 rfl) ?_
    refine lv_dup hx hb dX2_append_25 rfl ?_
    refine va_get (D := (dC, dI)) (ci := 2) (v := .int ((M_2 1 1))) (C := RX2) (T := TX2) (N := 7) hx hb hg inX2 hown hKn.1 hP (1) (x_at2 (c := 1) (by decide)) rfl 1 (Nat.le_of_ble_eq_true rfl) (hg _ lkF_X2_15) (fun _ h9 => h9) rfl dX2_append_26 ?_
    refine lv_iconst (v := 1) hx hb dX2_append_29 (by decide) ?_
    refine lv_iadd hx hb dX2_append_30 ?_
    refine va_put (D := (dC, dI)) (ci := 2) (v := .int (((M_2 1 1) + 1))) (ty := .int) (C := RX2) (T := TX2) (N := 7) hx hb hg inX2 tyX2 tyX2_ok nmX2 hown hKn.1 hP (x_D hKn.2.1) hS (1) (x_at2 (c := 1) (by decide)) rfl 1 (Nat.le_of_ble_eq_true rfl) (hg _ lkF_X2_15) (fun _ h9 => h9) rfl (by decide +kernel) rfl rfl (Nat.le_of_ble_eq_true rfl) dX2_append_31 (fun H locs hP _ hS => ?_)
    have hP : va_P (dC, dI) vwCl (x_w kI ad (upd2 M_2 1 1 ((M_2 1 1) + 1))) H := vp_eq (x_put2_1 (by decide) _) hP
    refine lv_iconst (v := 1) hx hb dX2_append_34 (by decide) ?_
    exact W.zret (v := 1) hx hb hr rfl (fun t ht hW => ⟨⟨1, upd2 M_2 1 1 ((M_2 1 1) + 1), rfl, ⟨congrArg Prod.fst (Option.some.inj h), congrArg Prod.snd (Option.some.inj h)⟩, by rw [ht]; exact hP, x_KnW hKn t hW⟩, hS.F ht⟩) hS.2.2 dX2_append_35
  · have h := ife_f c_1 h
    refine lv_iconst (v := 0) hx hb dX2_append_10 (by decide) ?_
    exact W.zret (v := 0) hx hb hr rfl (fun t ht hW => ⟨⟨0, M, rfl, ⟨congrArg Prod.fst (Option.some.inj h), congrArg Prod.snd (Option.some.inj h)⟩, by rw [ht]; exact hP, x_KnW hKn t hW⟩, hS.F ht⟩) hS.2.2 dX2_append_11
noncomputable def FX2_next  (M : (Nat → Nat → Int32)) : Option Int32 :=
  (if (M 1 1) ≤ (M 1 2) then some (-1) else bo (FX7_at 2 (M 1 2) M) (fun (r_2 : Int32) => some r_2))
set_option maxHeartbeats 4000000 in
set_option maxRecDepth 100000 in
theorem tX2_next (l : Launch) (dC : Nat → ClassId) (dI : Nat → Nat → Nat) (kI : ClassId) (ad : Nat → Nat)  (M : (Nat → Nat → Int32))  {r0 : Int32} (h : FX2_next  M = some r0) : Met l yX2_next (wsA yX2_next cX2_next 1 (some .int)) ({ frames := 1, cells := 0, slots := 0, locals := 21 } : Room) (va_Pc [.ref (ad (1))] (gI (x_Wd dC dI kI ad) (x_Kn dC dI kI ad) M)) (va_Qi (fun (r : Int32) (u : (Nat → Nat → Int32)) => r = r0 ∧ u = M) (gI (x_Wd dC dI kI ad) (x_Kn dC dI kI ad)) (x_A ad)) 0 0 (x_A ad) := by
  refine Met.ofW (cc := cX2_next) (maxL := 1) (ret := (some .int)) (by decide) rfl ?_
  intro p e s m args below meth c s₁ B hml hv
  obtain ⟨rfl, hP, hKn⟩ := hv
  have hx := B.exec
  have hb := B.bytes
  have hr := B.returns
  have hts := atoms_spec (ws := wsA yX2_next cX2_next 1 (some .int)) B.pre
  have hg : ∀ w ∈ lw_good, w.before _ s = true := fun w h => hts w (List.mem_cons_of_mem _ h)
  have hown : s.vm.findClass RX2 = some m.cls := findClass_of_methodNamed B.named
  have hlocks := B.notSynchronized
  have hS : va_S (x_A ad) s.heap s.heap [] := va_S.rf
  have hFx : gFix p c cX2_next 1 s m _ RX2 := ⟨hx, hb, hml, hown, hg⟩
  have hP : va_P (dC, dI) vwCl (x_w kI ad M) s.heap := hP
  have hl := lv_entry ([.ref (ad (1))]) (n := 1) (Nat.le_of_ble_eq_true rfl)
  rw [lg_entry_eq]
  generalize (lg_sl ([.ref (ad (1))]) ++ List.replicate (1 - (lg_sl ([.ref (ad (1))])).length) Slot.unset).toArray = ls at hl ⊢
  have hl : lv_has ls 1 [(0, .ref (ad (1)))] := hl
  unfold FX2_next at h
  refine lv_aload_n hx hb dX2_next_0 rfl (lv_at hl 0 rfl) ?_
  refine va_get (D := (dC, dI)) (ci := 2) (v := .int ((M 1 2))) (C := RX2) (T := TX2) (N := 7) hx hb hg inX2 hown hKn.1 hP (1) (x_at2 (c := 1) (by decide)) rfl 2 (Nat.le_of_ble_eq_true rfl) (hg _ lkF_X2_34) (fun _ h9 => h9) rfl dX2_next_1 ?_
  refine lv_aload_n hx hb dX2_next_4 rfl (lv_at hl 0 rfl) ?_
  refine va_get (D := (dC, dI)) (ci := 2) (v := .int ((M 1 1))) (C := RX2) (T := TX2) (N := 7) hx hb hg inX2 hown hKn.1 hP (1) (x_at2 (c := 1) (by decide)) rfl 1 (Nat.le_of_ble_eq_true rfl) (hg _ lkF_X2_15) (fun _ h9 => h9) rfl dX2_next_5 ?_
  refine lv_icmp_ge (tgt := 25) hx hb dX2_next_8 (by decide) (fun c_1 => ?_) (fun c_1 => ?_)
  · have h := ife_t c_1 h
    refine lv_iconst (v := -1) hx hb dX2_next_25 (by decide) ?_
    exact W.iret (v := (-1)) hx hb hr (fun t ht hW => ⟨⟨(-1), M, rfl, ⟨Option.some.inj h, rfl⟩, by rw [ht]; exact hP, x_KnW hKn t hW⟩, hS.F ht⟩) hS.2.2 dX2_next_26
  · have h := ife_f c_1 h
    refine lv_aload_n hx hb dX2_next_11 rfl (lv_at hl 0 rfl) ?_
    refine va_get (D := (dC, dI)) (ci := 2) (v := .ref (ad (2))) (C := RX2) (T := TX2) (N := 7) hx hb hg inX2 hown hKn.1 hP (1) (x_at2 (c := 1) (by decide)) rfl 0 (Nat.le_of_ble_eq_true rfl) (hg _ lkF_X2_9) (fun _ h9 => h9) rfl dX2_next_12 ?_
    refine lv_aload_n hx hb dX2_next_15 rfl (lv_at hl 0 rfl) ?_
    refine va_get (D := (dC, dI)) (ci := 2) (v := .int ((M 1 2))) (C := RX2) (T := TX2) (N := 7) hx hb hg inX2 hown hKn.1 hP (1) (x_at2 (c := 1) (by decide)) rfl 2 (Nat.le_of_ble_eq_true rfl) (hg _ lkF_X2_34) (fun _ h9 => h9) rfl dX2_next_16 ?_
    obtain ⟨r_2, e19, h⟩ := bo_use h
    refine gc_i (va_runSN (As := [.ref (ad (2)), .int ((M 1 2))]) (rest := []) hFx (tX7_at l dC dI kI ad 2 (M 1 2) M (by decide) e19) ⟨(gc_N hFx hKn.2.2 ck_yX7_at nkM_X2_52 ⟨Nat.le_of_ble_eq_true rfl, Nat.le_of_ble_eq_true rfl⟩ rfl rfl), hg _ st_yX7_at, trivial⟩ (gp_S x_KnB (x_KnW hKn) hP) rfl rfl hl.1 rfl (lv_room (Nat.le_of_ble_eq_true rfl)) dX2_next_19 ⟨Nat.zero_le _, Nat.zero_le _⟩) hS (fun H locs hP hS => ?_)
    have hP : va_P (dC, dI) vwCl (x_w kI ad M) H := hP
    refine lv_goto (tgt := 26) hx hb dX2_next_22 (by decide) ?_
    exact W.iret (v := r_2) hx hb hr (fun t ht hW => ⟨⟨r_2, M, rfl, ⟨Option.some.inj h, rfl⟩, by rw [ht]; exact hP, x_KnW hKn t hW⟩, hS.F ht⟩) hS.2.2 dX2_next_26
noncomputable def FX2_atFigure  (M : (Nat → Nat → Int32)) : Option Int32 :=
  bo (FX2_next  M) (fun (r_1 : Int32) => (if r_1 < 48 then some 0 else bo (FX2_next  M) (fun (r_3 : Int32) => (if 57 < r_3 then some 0 else some 1))))
set_option maxHeartbeats 4000000 in
set_option maxRecDepth 100000 in
theorem tX2_atFigure (l : Launch) (dC : Nat → ClassId) (dI : Nat → Nat → Nat) (kI : ClassId) (ad : Nat → Nat)  (M : (Nat → Nat → Int32))  {r0 : Int32} (h : FX2_atFigure  M = some r0) : Met l yX2_atFigure (wsA yX2_atFigure cX2_atFigure 1 (some .boolean)) ({ frames := 2, cells := 0, slots := 0, locals := 41 } : Room) (va_Pc [.ref (ad (1))] (gI (x_Wd dC dI kI ad) (x_Kn dC dI kI ad) M)) (va_Qi (fun (r : Int32) (u : (Nat → Nat → Int32)) => r = r0 ∧ u = M) (gI (x_Wd dC dI kI ad) (x_Kn dC dI kI ad)) (x_A ad)) 0 0 (x_A ad) := by
  refine Met.ofW (cc := cX2_atFigure) (maxL := 1) (ret := (some .boolean)) (by decide) rfl ?_
  intro p e s m args below meth c s₁ B hml hv
  obtain ⟨rfl, hP, hKn⟩ := hv
  have hx := B.exec
  have hb := B.bytes
  have hr := B.returns
  have hts := atoms_spec (ws := wsA yX2_atFigure cX2_atFigure 1 (some .boolean)) B.pre
  have hg : ∀ w ∈ lw_good, w.before _ s = true := fun w h => hts w (List.mem_cons_of_mem _ h)
  have hown : s.vm.findClass RX2 = some m.cls := findClass_of_methodNamed B.named
  have hlocks := B.notSynchronized
  have hS : va_S (x_A ad) s.heap s.heap [] := va_S.rf
  have hFx : gFix p c cX2_atFigure 1 s m _ RX2 := ⟨hx, hb, hml, hown, hg⟩
  have hP : va_P (dC, dI) vwCl (x_w kI ad M) s.heap := hP
  have hl := lv_entry ([.ref (ad (1))]) (n := 1) (Nat.le_of_ble_eq_true rfl)
  rw [lg_entry_eq]
  generalize (lg_sl ([.ref (ad (1))]) ++ List.replicate (1 - (lg_sl ([.ref (ad (1))])).length) Slot.unset).toArray = ls at hl ⊢
  have hl : lv_has ls 1 [(0, .ref (ad (1)))] := hl
  unfold FX2_atFigure at h
  refine lv_aload_n hx hb dX2_atFigure_0 rfl (lv_at hl 0 rfl) ?_
  obtain ⟨r_1, e1, h⟩ := bo_use h
  refine gc_i (va_runV (As := []) (rest := []) hFx (tX2_next l dC dI kI ad  M  e1) ⟨(gc_B hFx ck_yX2_next lkM_X2_44 ⟨Nat.le_of_ble_eq_true rfl, Nat.le_of_ble_eq_true rfl⟩ rfl rfl), hg _ vi_yX2_next, hg _ vs_yX2_next⟩ (gp_V x_KnB (x_KnW hKn) hP (x_rc2 (c := 1) (by decide) hKn hP)) rfl rfl hl.1 rfl (lv_room (Nat.le_of_ble_eq_true rfl)) dX2_atFigure_1 ⟨Nat.zero_le _, Nat.zero_le _⟩) hS (fun H locs hP hS => ?_)
  have hP : va_P (dC, dI) vwCl (x_w kI ad M) H := hP
  refine lv_bipush (v := 48) hx hb dX2_atFigure_4 (by decide) ?_
  refine lv_icmp_lt (tgt := 22) hx hb dX2_atFigure_6 (by decide) (fun c_2 => ?_) (fun c_2 => ?_)
  · have h := ife_t c_2 h
    refine lv_iconst (v := 0) hx hb dX2_atFigure_22 (by decide) ?_
    exact W.zret (v := 0) hx hb hr rfl (fun t ht hW => ⟨⟨0, M, rfl, ⟨Option.some.inj h, rfl⟩, by rw [ht]; exact hP, x_KnW hKn t hW⟩, hS.F ht⟩) hS.2.2 dX2_atFigure_23
  · have h := ife_f c_2 h
    refine lv_aload_n hx hb dX2_atFigure_9 rfl (lv_at hl 0 rfl) ?_
    obtain ⟨r_3, e10, h⟩ := bo_use h
    refine gc_i (va_runV (As := []) (rest := []) hFx (tX2_next l dC dI kI ad  M  e10) ⟨(gc_B hFx ck_yX2_next lkM_X2_44 ⟨Nat.le_of_ble_eq_true rfl, Nat.le_of_ble_eq_true rfl⟩ rfl rfl), hg _ vi_yX2_next, hg _ vs_yX2_next⟩ (gp_V x_KnB (x_KnW hKn) hP (x_rc2 (c := 1) (by decide) hKn hP)) rfl rfl hl.1 rfl (lv_room (Nat.le_of_ble_eq_true rfl)) dX2_atFigure_10 ⟨Nat.zero_le _, Nat.zero_le _⟩) hS (fun H locs hP hS => ?_)
    have hP : va_P (dC, dI) vwCl (x_w kI ad M) H := hP
    refine lv_bipush (v := 57) hx hb dX2_atFigure_13 (by decide) ?_
    refine lv_icmp_gt (tgt := 22) hx hb dX2_atFigure_15 (by decide) (fun c_4 => ?_) (fun c_4 => ?_)
    · have h := ife_t c_4 h
      refine lv_iconst (v := 0) hx hb dX2_atFigure_22 (by decide) ?_
      exact W.zret (v := 0) hx hb hr rfl (fun t ht hW => ⟨⟨0, M, rfl, ⟨Option.some.inj h, rfl⟩, by rw [ht]; exact hP, x_KnW hKn t hW⟩, hS.F ht⟩) hS.2.2 dX2_atFigure_23
    · have h := ife_f c_4 h
      refine lv_iconst (v := 1) hx hb dX2_atFigure_18 (by decide) ?_
      refine lv_goto (tgt := 23) hx hb dX2_atFigure_19 (by decide) ?_
      exact W.zret (v := 1) hx hb hr rfl (fun t ht hW => ⟨⟨1, M, rfl, ⟨Option.some.inj h, rfl⟩, by rw [ht]; exact hP, x_KnW hKn t hW⟩, hS.F ht⟩) hS.2.2 dX2_atFigure_23
noncomputable def FX2_mark (a1 : Int32) (a2 : Int32) (M : (Nat → Nat → Int32)) : Option (Nat → Nat → Int32) :=
  (if (M 1 4) = 0 then some (upd2 (upd2 M 1 4 a1) 1 5 a2) else some M)
set_option maxHeartbeats 4000000 in
set_option maxRecDepth 100000 in
theorem tX2_mark (l : Launch) (dC : Nat → ClassId) (dI : Nat → Nat → Nat) (kI : ClassId) (ad : Nat → Nat) (a1 : Int32) (a2 : Int32) (M : (Nat → Nat → Int32))  {M0 : (Nat → Nat → Int32)} (h : FX2_mark a1 a2 M = some M0) : Met l yX2_mark (wsA yX2_mark cX2_mark 3 none) ({ frames := 0, cells := 0, slots := 0, locals := 0 } : Room) (va_Pc [.ref (ad (1)), .int (a1), .int (a2)] (gI (x_Wd dC dI kI ad) (x_Kn dC dI kI ad) M)) (va_Qv (fun (u : (Nat → Nat → Int32)) => u = M0) (gI (x_Wd dC dI kI ad) (x_Kn dC dI kI ad)) (x_A ad)) 0 0 (x_A ad) := by
  refine Met.ofW (cc := cX2_mark) (maxL := 3) (ret := none) (by decide) rfl ?_
  intro p e s m args below meth c s₁ B hml hv
  obtain ⟨rfl, hP, hKn⟩ := hv
  have hx := B.exec
  have hb := B.bytes
  have hr := B.returns
  have hts := atoms_spec (ws := wsA yX2_mark cX2_mark 3 none) B.pre
  have hg : ∀ w ∈ lw_good, w.before _ s = true := fun w h => hts w (List.mem_cons_of_mem _ h)
  have hown : s.vm.findClass RX2 = some m.cls := findClass_of_methodNamed B.named
  have hlocks := B.notSynchronized
  have hS : va_S (x_A ad) s.heap s.heap [] := va_S.rf
  have hFx : gFix p c cX2_mark 3 s m _ RX2 := ⟨hx, hb, hml, hown, hg⟩
  have hP : va_P (dC, dI) vwCl (x_w kI ad M) s.heap := hP
  have hl := lv_entry ([.ref (ad (1)), .int (a1), .int (a2)]) (n := 3) (Nat.le_of_ble_eq_true rfl)
  rw [lg_entry_eq]
  generalize (lg_sl ([.ref (ad (1)), .int (a1), .int (a2)]) ++ List.replicate (3 - (lg_sl ([.ref (ad (1)), .int (a1), .int (a2)])).length) Slot.unset).toArray = ls at hl ⊢
  have hl : lv_has ls 3 [(0, .ref (ad (1))), (1, .int (a1)), (2, .int (a2))] := hl
  unfold FX2_mark at h
  refine lv_aload_n hx hb dX2_mark_0 rfl (lv_at hl 0 rfl) ?_
  refine va_get (D := (dC, dI)) (ci := 2) (v := .int ((M 1 4))) (C := RX2) (T := TX2) (N := 7) hx hb hg inX2 hown hKn.1 hP (1) (x_at2 (c := 1) (by decide)) rfl 4 (Nat.le_of_ble_eq_true rfl) (hg _ lkF_X2_19) (fun _ h9 => h9) rfl dX2_mark_1 ?_
  refine lv_if_ne (tgt := 17) hx hb dX2_mark_4 (by decide) (fun c_1 => ?_) (fun c_1 => ?_)
  · have h := ife_f c_1 h
    exact W.vret hx hb hr (fun t ht hW => ⟨⟨M, rfl, Option.some.inj h, by rw [ht]; exact hP, x_KnW hKn t hW⟩, hS.F ht⟩) hS.2.2 dX2_mark_17
  · have h := ife_t c_1 h
    refine lv_aload_n hx hb dX2_mark_7 rfl (lv_at hl 0 rfl) ?_
    refine lv_iload_n hx hb dX2_mark_8 rfl (lv_at hl 1 rfl) ?_
    refine va_put (D := (dC, dI)) (ci := 2) (v := .int (a1)) (ty := .int) (C := RX2) (T := TX2) (N := 7) hx hb hg inX2 tyX2 tyX2_ok nmX2 hown hKn.1 hP (x_D hKn.2.1) hS (1) (x_at2 (c := 1) (by decide)) rfl 4 (Nat.le_of_ble_eq_true rfl) (hg _ lkF_X2_19) (fun _ h9 => h9) rfl (by decide +kernel) rfl rfl (Nat.le_of_ble_eq_true rfl) dX2_mark_9 (fun H locs hP _ hS => ?_)
    have hP : va_P (dC, dI) vwCl (x_w kI ad (upd2 M 1 4 a1)) H := vp_eq (x_put2_4 (by decide) _) hP
    refine lv_aload_n hx hb dX2_mark_12 rfl (lv_at hl 0 rfl) ?_
    refine lv_iload_n hx hb dX2_mark_13 rfl (lv_at hl 2 rfl) ?_
    refine va_put (D := (dC, dI)) (ci := 2) (v := .int (a2)) (ty := .int) (C := RX2) (T := TX2) (N := 7) hx hb hg inX2 tyX2 tyX2_ok nmX2 hown hKn.1 hP (x_D hKn.2.1) hS (1) (x_at2 (c := 1) (by decide)) rfl 5 (Nat.le_of_ble_eq_true rfl) (hg _ lkF_X2_22) (fun _ h9 => h9) rfl (by decide +kernel) rfl rfl (Nat.le_of_ble_eq_true rfl) dX2_mark_14 (fun H locs hP _ hS => ?_)
    have hP : va_P (dC, dI) vwCl (x_w kI ad (upd2 (upd2 M 1 4 a1) 1 5 a2)) H := vp_eq (x_put2_5 (by decide) _) hP
    exact W.vret hx hb hr (fun t ht hW => ⟨⟨upd2 (upd2 M 1 4 a1) 1 5 a2, rfl, Option.some.inj h, by rw [ht]; exact hP, x_KnW hKn t hW⟩, hS.F ht⟩) hS.2.2 dX2_mark_17
noncomputable def FX2_skipBlanks_L2 (K : (Nat → Nat → Int32) → Option (Nat → Nat → Int32)) (k : Nat) (v1_2 : Int32) (M_3 : (Nat → Nat → Int32)) : Option (Nat → Nat → Int32) := match k with
  | 0 => none
  | k + 1 => (if 240 ≤ v1_2 then K M_3 else bo (FX2_next  M_3) (fun (r_5 : Int32) => (if r_5 = 32 then FX2_skipBlanks_L2 K k (v1_2 + 1) (upd2 M_3 1 2 ((M_3 1 2) + 1)) else K M_3)))
noncomputable def FX2_skipBlanks  (M : (Nat → Nat → Int32)) : Option (Nat → Nat → Int32) :=
  FX2_skipBlanks_L2 (fun (M_1 : (Nat → Nat → Int32)) => some M_1) fuelN 0 M
set_option maxHeartbeats 4000000 in
set_option maxRecDepth 100000 in
theorem tX2_skipBlanks (l : Launch) (dC : Nat → ClassId) (dI : Nat → Nat → Nat) (kI : ClassId) (ad : Nat → Nat)  (M : (Nat → Nat → Int32))  {M0 : (Nat → Nat → Int32)} (h : FX2_skipBlanks  M = some M0) : Met l yX2_skipBlanks (wsA yX2_skipBlanks cX2_skipBlanks 2 none) ({ frames := 2, cells := 0, slots := 0, locals := 41 } : Room) (va_Pc [.ref (ad (1))] (gI (x_Wd dC dI kI ad) (x_Kn dC dI kI ad) M)) (va_Qv (fun (u : (Nat → Nat → Int32)) => u = M0) (gI (x_Wd dC dI kI ad) (x_Kn dC dI kI ad)) (x_A ad)) 0 0 (x_A ad) := by
  refine Met.ofW (cc := cX2_skipBlanks) (maxL := 2) (ret := none) (by decide) rfl ?_
  intro p e s m args below meth c s₁ B hml hv
  obtain ⟨rfl, hP, hKn⟩ := hv
  have hx := B.exec
  have hb := B.bytes
  have hr := B.returns
  have hts := atoms_spec (ws := wsA yX2_skipBlanks cX2_skipBlanks 2 none) B.pre
  have hg : ∀ w ∈ lw_good, w.before _ s = true := fun w h => hts w (List.mem_cons_of_mem _ h)
  have hown : s.vm.findClass RX2 = some m.cls := findClass_of_methodNamed B.named
  have hlocks := B.notSynchronized
  have hS : va_S (x_A ad) s.heap s.heap [] := va_S.rf
  have hFx : gFix p c cX2_skipBlanks 2 s m _ RX2 := ⟨hx, hb, hml, hown, hg⟩
  have hP : va_P (dC, dI) vwCl (x_w kI ad M) s.heap := hP
  have hl := lv_entry ([.ref (ad (1))]) (n := 2) (Nat.le_of_ble_eq_true rfl)
  rw [lg_entry_eq]
  generalize (lg_sl ([.ref (ad (1))]) ++ List.replicate (2 - (lg_sl ([.ref (ad (1))])).length) Slot.unset).toArray = ls at hl ⊢
  have hl : lv_has ls 2 [(0, .ref (ad (1)))] := hl
  unfold FX2_skipBlanks at h
  refine lv_iconst (v := 0) hx hb dX2_skipBlanks_0 (by decide) ?_
  refine lv_istore_n (lv' := [(1, .int (0)), (0, .ref (ad (1)))]) hx hb dX2_skipBlanks_1 rfl hl (Nat.le_of_ble_eq_true rfl) rfl (fun ls hl => ?_)
  obtain ⟨K2, eK2, h⟩ := exK (Lp := fun K => FX2_skipBlanks_L2 K fuelN 0 M) h
  have hK2 : ∀ (M_1 : (Nat → Nat → Int32)) (H : Heap) (locs : List Loc) (ls : Array Slot), va_P (dC, dI) vwCl (x_w kI ad M_1) H → va_S (x_A ad) s.heap H locs → lv_has ls 2 [] → K2 M_1 = some M0 → W p l e (headSpec (wsA yX2_skipBlanks cX2_skipBlanks 2 none) ({ frames := 2, cells := 0, slots := 0, locals := 41 } : Room)).room s m (([.ref (ad (1))] : List Value).toArray) below meth c H locs 0 0 (MQ below (va_Qv (fun (u : (Nat → Nat → Int32)) => u = M0) (gI (x_Wd dC dI kI ad) (x_Kn dC dI kI ad)) (x_A ad)) (([.ref (ad (1))] : List Value).toArray) s 0 0 (x_A ad)) (F0 m 34 ls []) := by
    intro M_1 H locs ls hP hS hl h
    have h := useK1 eK2 h
    exact W.vret hx hb hr (fun t ht hW => ⟨⟨M_1, rfl, Option.some.inj h, by rw [ht]; exact hP, x_KnW hKn t hW⟩, hS.F ht⟩) hS.2.2 dX2_skipBlanks_34
  have hL2 : ∀ (k : Nat) (v1_2 : Int32) (M_3 : (Nat → Nat → Int32)) (H : Heap) (locs : List Loc) (ls : Array Slot), va_P (dC, dI) vwCl (x_w kI ad M_3) H → va_S (x_A ad) s.heap H locs → lv_has ls 2 [(0, .ref (ad (1))), (1, .int (v1_2))] → FX2_skipBlanks_L2 K2 k v1_2 M_3 = some M0 → W p l e (headSpec (wsA yX2_skipBlanks cX2_skipBlanks 2 none) ({ frames := 2, cells := 0, slots := 0, locals := 41 } : Room)).room s m (([.ref (ad (1))] : List Value).toArray) below meth c H locs 0 0 (MQ below (va_Qv (fun (u : (Nat → Nat → Int32)) => u = M0) (gI (x_Wd dC dI kI ad) (x_Kn dC dI kI ad)) (x_A ad)) (([.ref (ad (1))] : List Value).toArray) s 0 0 (x_A ad)) (F0 m 2 ls []) := by
    intro k
    induction k with
    | zero => intro v1_2 M_3 H locs ls hP hS hl h; cases h
    | succ k ih2 =>
      intro v1_2 M_3 H locs ls hP hS hl h
      unfold FX2_skipBlanks_L2 at h
      refine lv_iload_n hx hb dX2_skipBlanks_2 rfl (lv_at hl 1 rfl) ?_
      refine lv_sipush (v := 240) hx hb dX2_skipBlanks_3 (by decide) ?_
      refine lv_icmp_ge (tgt := 34) hx hb dX2_skipBlanks_6 (by decide) (fun c_4 => ?_) (fun c_4 => ?_)
      · have h := ife_t c_4 h
        exact hK2 M_3 _ _ _ hP hS (lv_sub hl [] rfl) h
      · have h := ife_f c_4 h
        refine lv_aload_n hx hb dX2_skipBlanks_9 rfl (lv_at hl 0 rfl) ?_
        obtain ⟨r_5, e10, h⟩ := bo_use h
        refine gc_i (va_runV (As := []) (rest := []) hFx (tX2_next l dC dI kI ad  M_3  e10) ⟨(gc_B hFx ck_yX2_next lkM_X2_44 ⟨Nat.le_of_ble_eq_true rfl, Nat.le_of_ble_eq_true rfl⟩ rfl rfl), hg _ vi_yX2_next, hg _ vs_yX2_next⟩ (gp_V x_KnB (x_KnW hKn) hP (x_rc2 (c := 1) (by decide) hKn hP)) rfl rfl hl.1 rfl (lv_room (Nat.le_of_ble_eq_true rfl)) dX2_skipBlanks_10 ⟨Nat.zero_le _, Nat.zero_le _⟩) hS (fun H locs hP hS => ?_)
        have hP : va_P (dC, dI) vwCl (x_w kI ad M_3) H := hP
        refine lv_bipush (v := 32) hx hb dX2_skipBlanks_13 (by decide) ?_
        refine lv_icmp_ne (tgt := 34) hx hb dX2_skipBlanks_15 (by decide) (fun c_6 => ?_) (fun c_6 => ?_)
        · have h := ife_f c_6 h
          exact hK2 M_3 _ _ _ hP hS (lv_sub hl [] rfl) h
        · have h := ife_t c_6 h
          refine lv_aload_n hx hb dX2_skipBlanks_18 rfl (lv_at hl 0 rfl) ?_
          refine lv_dup hx hb dX2_skipBlanks_19 rfl ?_
          refine va_get (D := (dC, dI)) (ci := 2) (v := .int ((M_3 1 2))) (C := RX2) (T := TX2) (N := 7) hx hb hg inX2 hown hKn.1 hP (1) (x_at2 (c := 1) (by decide)) rfl 2 (Nat.le_of_ble_eq_true rfl) (hg _ lkF_X2_34) (fun _ h9 => h9) rfl dX2_skipBlanks_20 ?_
          refine lv_iconst (v := 1) hx hb dX2_skipBlanks_23 (by decide) ?_
          refine lv_iadd hx hb dX2_skipBlanks_24 ?_
          refine va_put (D := (dC, dI)) (ci := 2) (v := .int (((M_3 1 2) + 1))) (ty := .int) (C := RX2) (T := TX2) (N := 7) hx hb hg inX2 tyX2 tyX2_ok nmX2 hown hKn.1 hP (x_D hKn.2.1) hS (1) (x_at2 (c := 1) (by decide)) rfl 2 (Nat.le_of_ble_eq_true rfl) (hg _ lkF_X2_34) (fun _ h9 => h9) rfl (by decide +kernel) rfl rfl (Nat.le_of_ble_eq_true rfl) dX2_skipBlanks_25 (fun H locs hP _ hS => ?_)
          have hP : va_P (dC, dI) vwCl (x_w kI ad (upd2 M_3 1 2 ((M_3 1 2) + 1))) H := vp_eq (x_put2_2 (by decide) _) hP
          refine lv_iinc (v := (v1_2 + 1)) (lv' := [(1, .int ((v1_2 + 1))), (0, .ref (ad (1)))]) hx hb dX2_skipBlanks_28 hl (k := 1) rfl rfl (Nat.le_of_ble_eq_true rfl) rfl (fun ls hl => ?_)
          refine lv_goto (tgt := 2) hx hb dX2_skipBlanks_31 (by decide) ?_
          exact ih2 (v1_2 + 1) (upd2 M_3 1 2 ((M_3 1 2) + 1)) _ _ _ hP hS (lv_sub hl [1, 0] rfl) h
  exact hL2 fuelN 0 M _ _ _ hP hS (lv_sub hl [1, 0] rfl) h
noncomputable def FX2_takes (a1 : Int32) (M : (Nat → Nat → Int32)) : Option (Int32 × (Nat → Nat → Int32)) :=
  bo (FX2_skipBlanks  M) (fun (M_1 : (Nat → Nat → Int32)) => (if (M_1 1 4) = 0 then bo (FX2_next  M_1) (fun (r_3 : Int32) => (if r_3 = a1 then some (1, upd2 M_1 1 2 ((M_1 1 2) + 1)) else some (0, M_1))) else some (0, M_1)))
set_option maxHeartbeats 4000000 in
set_option maxRecDepth 100000 in
theorem tX2_takes (l : Launch) (dC : Nat → ClassId) (dI : Nat → Nat → Nat) (kI : ClassId) (ad : Nat → Nat) (a1 : Int32) (M : (Nat → Nat → Int32))  {r0 : Int32} {M0 : (Nat → Nat → Int32)} (h : FX2_takes a1 M = some (r0, M0)) : Met l yX2_takes (wsA yX2_takes cX2_takes 2 (some .boolean)) ({ frames := 3, cells := 0, slots := 0, locals := 62 } : Room) (va_Pc [.ref (ad (1)), .int (a1)] (gI (x_Wd dC dI kI ad) (x_Kn dC dI kI ad) M)) (va_Qi (fun (r : Int32) (u : (Nat → Nat → Int32)) => r = r0 ∧ u = M0) (gI (x_Wd dC dI kI ad) (x_Kn dC dI kI ad)) (x_A ad)) 0 0 (x_A ad) := by
  refine Met.ofW (cc := cX2_takes) (maxL := 2) (ret := (some .boolean)) (by decide) rfl ?_
  intro p e s m args below meth c s₁ B hml hv
  obtain ⟨rfl, hP, hKn⟩ := hv
  have hx := B.exec
  have hb := B.bytes
  have hr := B.returns
  have hts := atoms_spec (ws := wsA yX2_takes cX2_takes 2 (some .boolean)) B.pre
  have hg : ∀ w ∈ lw_good, w.before _ s = true := fun w h => hts w (List.mem_cons_of_mem _ h)
  have hown : s.vm.findClass RX2 = some m.cls := findClass_of_methodNamed B.named
  have hlocks := B.notSynchronized
  have hS : va_S (x_A ad) s.heap s.heap [] := va_S.rf
  have hFx : gFix p c cX2_takes 2 s m _ RX2 := ⟨hx, hb, hml, hown, hg⟩
  have hP : va_P (dC, dI) vwCl (x_w kI ad M) s.heap := hP
  have hl := lv_entry ([.ref (ad (1)), .int (a1)]) (n := 2) (Nat.le_of_ble_eq_true rfl)
  rw [lg_entry_eq]
  generalize (lg_sl ([.ref (ad (1)), .int (a1)]) ++ List.replicate (2 - (lg_sl ([.ref (ad (1)), .int (a1)])).length) Slot.unset).toArray = ls at hl ⊢
  have hl : lv_has ls 2 [(0, .ref (ad (1))), (1, .int (a1))] := hl
  unfold FX2_takes at h
  refine lv_aload_n hx hb dX2_takes_0 rfl (lv_at hl 0 rfl) ?_
  obtain ⟨M_1, e1, h⟩ := bo_use h
  refine gc_v (va_runV (As := []) (rest := []) hFx (tX2_skipBlanks l dC dI kI ad  M  e1) ⟨(gc_B hFx ck_yX2_skipBlanks lkM_X2_41 ⟨Nat.le_of_ble_eq_true rfl, Nat.le_of_ble_eq_true rfl⟩ rfl rfl), hg _ vi_yX2_skipBlanks, hg _ vs_yX2_skipBlanks⟩ (gp_V x_KnB (x_KnW hKn) hP (x_rc2 (c := 1) (by decide) hKn hP)) rfl rfl hl.1 rfl (lv_room (Nat.le_of_ble_eq_true rfl)) dX2_takes_1 ⟨Nat.zero_le _, Nat.zero_le _⟩) hS (fun H locs hP hS => ?_)
  have hP : va_P (dC, dI) vwCl (x_w kI ad M_1) H := hP
  refine lv_aload_n hx hb dX2_takes_4 rfl (lv_at hl 0 rfl) ?_
  refine va_get (D := (dC, dI)) (ci := 2) (v := .int ((M_1 1 4))) (C := RX2) (T := TX2) (N := 7) hx hb hg inX2 hown hKn.1 hP (1) (x_at2 (c := 1) (by decide)) rfl 4 (Nat.le_of_ble_eq_true rfl) (hg _ lkF_X2_19) (fun _ h9 => h9) rfl dX2_takes_5 ?_
  refine lv_if_ne (tgt := 19) hx hb dX2_takes_8 (by decide) (fun c_2 => ?_) (fun c_2 => ?_)
  · have h := ife_f c_2 h
    refine lv_iconst (v := 0) hx hb dX2_takes_19 (by decide) ?_
    exact W.zret (v := 0) hx hb hr rfl (fun t ht hW => ⟨⟨0, M_1, rfl, ⟨congrArg Prod.fst (Option.some.inj h), congrArg Prod.snd (Option.some.inj h)⟩, by rw [ht]; exact hP, x_KnW hKn t hW⟩, hS.F ht⟩) hS.2.2 dX2_takes_20
  · have h := ife_t c_2 h
    refine lv_aload_n hx hb dX2_takes_11 rfl (lv_at hl 0 rfl) ?_
    obtain ⟨r_3, e12, h⟩ := bo_use h
    refine gc_i (va_runV (As := []) (rest := []) hFx (tX2_next l dC dI kI ad  M_1  e12) ⟨(gc_B hFx ck_yX2_next lkM_X2_44 ⟨Nat.le_of_ble_eq_true rfl, Nat.le_of_ble_eq_true rfl⟩ rfl rfl), hg _ vi_yX2_next, hg _ vs_yX2_next⟩ (gp_V x_KnB (x_KnW hKn) hP (x_rc2 (c := 1) (by decide) hKn hP)) rfl rfl hl.1 rfl (lv_room (Nat.le_of_ble_eq_true rfl)) dX2_takes_12 ⟨Nat.zero_le _, Nat.zero_le _⟩) hS (fun H locs hP hS => ?_)
    have hP : va_P (dC, dI) vwCl (x_w kI ad M_1) H := hP
    refine lv_iload_n hx hb dX2_takes_15 rfl (lv_at hl 1 rfl) ?_
    refine lv_icmp_eq (tgt := 21) hx hb dX2_takes_16 (by decide) (fun c_4 => ?_) (fun c_4 => ?_)
    · have h := ife_t c_4 h
      refine lv_aload_n hx hb dX2_takes_21 rfl (lv_at hl 0 rfl) ?_
      refine lv_dup hx hb dX2_takes_22 rfl ?_
      refine va_get (D := (dC, dI)) (ci := 2) (v := .int ((M_1 1 2))) (C := RX2) (T := TX2) (N := 7) hx hb hg inX2 hown hKn.1 hP (1) (x_at2 (c := 1) (by decide)) rfl 2 (Nat.le_of_ble_eq_true rfl) (hg _ lkF_X2_34) (fun _ h9 => h9) rfl dX2_takes_23 ?_
      refine lv_iconst (v := 1) hx hb dX2_takes_26 (by decide) ?_
      refine lv_iadd hx hb dX2_takes_27 ?_
      refine va_put (D := (dC, dI)) (ci := 2) (v := .int (((M_1 1 2) + 1))) (ty := .int) (C := RX2) (T := TX2) (N := 7) hx hb hg inX2 tyX2 tyX2_ok nmX2 hown hKn.1 hP (x_D hKn.2.1) hS (1) (x_at2 (c := 1) (by decide)) rfl 2 (Nat.le_of_ble_eq_true rfl) (hg _ lkF_X2_34) (fun _ h9 => h9) rfl (by decide +kernel) rfl rfl (Nat.le_of_ble_eq_true rfl) dX2_takes_28 (fun H locs hP _ hS => ?_)
      have hP : va_P (dC, dI) vwCl (x_w kI ad (upd2 M_1 1 2 ((M_1 1 2) + 1))) H := vp_eq (x_put2_2 (by decide) _) hP
      refine lv_iconst (v := 1) hx hb dX2_takes_31 (by decide) ?_
      exact W.zret (v := 1) hx hb hr rfl (fun t ht hW => ⟨⟨1, upd2 M_1 1 2 ((M_1 1 2) + 1), rfl, ⟨congrArg Prod.fst (Option.some.inj h), congrArg Prod.snd (Option.some.inj h)⟩, by rw [ht]; exact hP, x_KnW hKn t hW⟩, hS.F ht⟩) hS.2.2 dX2_takes_32
    · have h := ife_f c_4 h
      refine lv_iconst (v := 0) hx hb dX2_takes_19 (by decide) ?_
      exact W.zret (v := 0) hx hb hr rfl (fun t ht hW => ⟨⟨0, M_1, rfl, ⟨congrArg Prod.fst (Option.some.inj h), congrArg Prod.snd (Option.some.inj h)⟩, by rw [ht]; exact hP, x_KnW hKn t hW⟩, hS.F ht⟩) hS.2.2 dX2_takes_20
noncomputable def FX2_readNumber_L42 (b1 : Int32) (b2 : Int32) (K : Int32 → (Nat → Nat → Int32) → Option (Int32 × (Nat → Nat → Int32))) (k : Nat) (v3_12 : Int32) (v4_13 : Int32) (M_14 : (Nat → Nat → Int32)) : Option (Int32 × (Nat → Nat → Int32)) := match k with
  | 0 => none
  | k + 1 => (if 240 ≤ v4_13 then K v3_12 M_14 else bo (FX2_atFigure  M_14) (fun (r_16 : Int32) => (if r_16 = 0 then K v3_12 M_14 else bo (FX2_next  M_14) (fun (r_18 : Int32) => lt ((if (((v3_12 * 10) + r_18) - 48) < 1000 then (((v3_12 * 10) + r_18) - 48) else 1000)) (fun (x3_19 : Int32) => FX2_readNumber_L42 b1 b2 K k x3_19 (v4_13 + 1) (upd2 M_14 1 2 ((M_14 1 2) + 1)))))))
noncomputable def FX2_readNumber (a1 : Int32) (a2 : Int32) (M : (Nat → Nat → Int32)) : Option (Int32 × (Nat → Nat → Int32)) :=
  bo (FX2_skipBlanks  M) (fun (M_1 : (Nat → Nat → Int32)) => jn (bo (FX2_mark 1 (upd2 M_1 1 3 (M_1 1 2) 1 2) (upd2 M_1 1 3 (M_1 1 2))) (fun (M_2 : (Nat → Nat → Int32)) => some (a1, M_2))) (fun J26 => (if (upd2 M_1 1 3 (M_1 1 2) 1 4) = 0 then bo (FX2_atFigure  (upd2 M_1 1 3 (M_1 1 2))) (fun (r_4 : Int32) => (if r_4 = 0 then J26 else FX2_readNumber_L42 a1 a2 (fun (k3_6 : Int32) (M_7 : (Nat → Nat → Int32)) => jn (bo (FX2_mark 2 (M_7 1 3) M_7) (fun (M_8 : (Nat → Nat → Int32)) => some (a1, M_8))) (fun J115 => (if 3 < ((M_7 1 2) - (M_7 1 3)) then J115 else (if k3_6 < a1 then J115 else (if k3_6 ≤ a2 then some (k3_6, M_7) else J115))))) fuelN 0 0 (upd2 M_1 1 3 (M_1 1 2)))) else J26)))
set_option maxHeartbeats 4000000 in
set_option maxRecDepth 100000 in
theorem tX2_readNumber (l : Launch) (dC : Nat → ClassId) (dI : Nat → Nat → Nat) (kI : ClassId) (ad : Nat → Nat) (a1 : Int32) (a2 : Int32) (M : (Nat → Nat → Int32))  {r0 : Int32} {M0 : (Nat → Nat → Int32)} (h : FX2_readNumber a1 a2 M = some (r0, M0)) : Met l yX2_readNumber (wsA yX2_readNumber cX2_readNumber 5 (some .int)) ({ frames := 3, cells := 0, slots := 0, locals := 62 } : Room) (va_Pc [.ref (ad (1)), .int (a1), .int (a2)] (gI (x_Wd dC dI kI ad) (x_Kn dC dI kI ad) M)) (va_Qi (fun (r : Int32) (u : (Nat → Nat → Int32)) => r = r0 ∧ u = M0) (gI (x_Wd dC dI kI ad) (x_Kn dC dI kI ad)) (x_A ad)) 0 0 (x_A ad) := by
  refine Met.ofW (cc := cX2_readNumber) (maxL := 5) (ret := (some .int)) (by decide) rfl ?_
  intro p e s m args below meth c s₁ B hml hv
  obtain ⟨rfl, hP, hKn⟩ := hv
  have hx := B.exec
  have hb := B.bytes
  have hr := B.returns
  have hts := atoms_spec (ws := wsA yX2_readNumber cX2_readNumber 5 (some .int)) B.pre
  have hg : ∀ w ∈ lw_good, w.before _ s = true := fun w h => hts w (List.mem_cons_of_mem _ h)
  have hown : s.vm.findClass RX2 = some m.cls := findClass_of_methodNamed B.named
  have hlocks := B.notSynchronized
  have hS : va_S (x_A ad) s.heap s.heap [] := va_S.rf
  have hFx : gFix p c cX2_readNumber 5 s m _ RX2 := ⟨hx, hb, hml, hown, hg⟩
  have hP : va_P (dC, dI) vwCl (x_w kI ad M) s.heap := hP
  have hl := lv_entry ([.ref (ad (1)), .int (a1), .int (a2)]) (n := 5) (Nat.le_of_ble_eq_true rfl)
  rw [lg_entry_eq]
  generalize (lg_sl ([.ref (ad (1)), .int (a1), .int (a2)]) ++ List.replicate (5 - (lg_sl ([.ref (ad (1)), .int (a1), .int (a2)])).length) Slot.unset).toArray = ls at hl ⊢
  have hl : lv_has ls 5 [(0, .ref (ad (1))), (1, .int (a1)), (2, .int (a2))] := hl
  unfold FX2_readNumber at h
  refine lv_aload_n hx hb dX2_readNumber_0 rfl (lv_at hl 0 rfl) ?_
  obtain ⟨M_1, e1, h⟩ := bo_use h
  refine gc_v (va_runV (As := []) (rest := []) hFx (tX2_skipBlanks l dC dI kI ad  M  e1) ⟨(gc_B hFx ck_yX2_skipBlanks lkM_X2_41 ⟨Nat.le_of_ble_eq_true rfl, Nat.le_of_ble_eq_true rfl⟩ rfl rfl), hg _ vi_yX2_skipBlanks, hg _ vs_yX2_skipBlanks⟩ (gp_V x_KnB (x_KnW hKn) hP (x_rc2 (c := 1) (by decide) hKn hP)) rfl rfl hl.1 rfl (lv_room (Nat.le_of_ble_eq_true rfl)) dX2_readNumber_1 ⟨Nat.zero_le _, Nat.zero_le _⟩) hS (fun H locs hP hS => ?_)
  have hP : va_P (dC, dI) vwCl (x_w kI ad M_1) H := hP
  refine lv_aload_n hx hb dX2_readNumber_4 rfl (lv_at hl 0 rfl) ?_
  refine lv_aload_n hx hb dX2_readNumber_5 rfl (lv_at hl 0 rfl) ?_
  refine va_get (D := (dC, dI)) (ci := 2) (v := .int ((M_1 1 2))) (C := RX2) (T := TX2) (N := 7) hx hb hg inX2 hown hKn.1 hP (1) (x_at2 (c := 1) (by decide)) rfl 2 (Nat.le_of_ble_eq_true rfl) (hg _ lkF_X2_34) (fun _ h9 => h9) rfl dX2_readNumber_6 ?_
  refine va_put (D := (dC, dI)) (ci := 2) (v := .int ((M_1 1 2))) (ty := .int) (C := RX2) (T := TX2) (N := 7) hx hb hg inX2 tyX2 tyX2_ok nmX2 hown hKn.1 hP (x_D hKn.2.1) hS (1) (x_at2 (c := 1) (by decide)) rfl 3 (Nat.le_of_ble_eq_true rfl) (hg _ lkF_X2_102) (fun _ h9 => h9) rfl (by decide +kernel) rfl rfl (Nat.le_of_ble_eq_true rfl) dX2_readNumber_9 (fun H locs hP _ hS => ?_)
  have hP : va_P (dC, dI) vwCl (x_w kI ad (upd2 M_1 1 3 (M_1 1 2))) H := vp_eq (x_put2_3 (by decide) _) hP
  refine lv_aload_n hx hb dX2_readNumber_12 rfl (lv_at hl 0 rfl) ?_
  refine va_get (D := (dC, dI)) (ci := 2) (v := .int ((upd2 M_1 1 3 (M_1 1 2) 1 4))) (C := RX2) (T := TX2) (N := 7) hx hb hg inX2 hown hKn.1 hP (1) (x_at2 (c := 1) (by decide)) rfl 4 (Nat.le_of_ble_eq_true rfl) (hg _ lkF_X2_19) (fun _ h9 => h9) rfl dX2_readNumber_13 ?_
  obtain ⟨J26, eJ26, h⟩ := jn_use h
  have hJ26 : ∀  (H : Heap) (locs : List Loc) (ls : Array Slot), va_P (dC, dI) vwCl (x_w kI ad (upd2 M_1 1 3 (M_1 1 2))) H → va_S (x_A ad) s.heap H locs → lv_has ls 5 [(0, .ref (ad (1))), (1, .int (a1))] → J26  = some (r0, M0) → W p l e (headSpec (wsA yX2_readNumber cX2_readNumber 5 (some .int)) ({ frames := 3, cells := 0, slots := 0, locals := 62 } : Room)).room s m (([.ref (ad (1)), .int (a1), .int (a2)] : List Value).toArray) below meth c H locs 0 0 (MQ below (va_Qi (fun (r : Int32) (u : (Nat → Nat → Int32)) => r = r0 ∧ u = M0) (gI (x_Wd dC dI kI ad) (x_Kn dC dI kI ad)) (x_A ad)) (([.ref (ad (1)), .int (a1), .int (a2)] : List Value).toArray) s 0 0 (x_A ad)) (F0 m 26 ls []) := by
    intro  H locs ls hP hS hl h
    have h := useK0 eJ26 h
    refine lv_aload_n hx hb dX2_readNumber_26 rfl (lv_at hl 0 rfl) ?_
    refine lv_iconst (v := 1) hx hb dX2_readNumber_27 (by decide) ?_
    refine lv_aload_n hx hb dX2_readNumber_28 rfl (lv_at hl 0 rfl) ?_
    refine va_get (D := (dC, dI)) (ci := 2) (v := .int ((upd2 M_1 1 3 (M_1 1 2) 1 2))) (C := RX2) (T := TX2) (N := 7) hx hb hg inX2 hown hKn.1 hP (1) (x_at2 (c := 1) (by decide)) rfl 2 (Nat.le_of_ble_eq_true rfl) (hg _ lkF_X2_34) (fun _ h9 => h9) rfl dX2_readNumber_29 ?_
    obtain ⟨M_2, e32, h⟩ := bo_use h
    refine gc_v (va_runV (As := [.int (1), .int ((upd2 M_1 1 3 (M_1 1 2) 1 2))]) (rest := []) hFx (tX2_mark l dC dI kI ad 1 (upd2 M_1 1 3 (M_1 1 2) 1 2) (upd2 M_1 1 3 (M_1 1 2))  e32) ⟨(gc_B hFx ck_yX2_mark lkM_X2_59 ⟨Nat.le_of_ble_eq_true rfl, Nat.le_of_ble_eq_true rfl⟩ rfl rfl), hg _ vi_yX2_mark, hg _ vs_yX2_mark⟩ (gp_V x_KnB (x_KnW hKn) hP (x_rc2 (c := 1) (by decide) hKn hP)) rfl rfl hl.1 rfl (lv_room (Nat.le_of_ble_eq_true rfl)) dX2_readNumber_32 ⟨Nat.zero_le _, Nat.zero_le _⟩) hS (fun H locs hP hS => ?_)
    have hP : va_P (dC, dI) vwCl (x_w kI ad M_2) H := hP
    refine lv_iload_n hx hb dX2_readNumber_35 rfl (lv_at hl 1 rfl) ?_
    exact W.iret (v := a1) hx hb hr (fun t ht hW => ⟨⟨a1, M_2, rfl, ⟨congrArg Prod.fst (Option.some.inj h), congrArg Prod.snd (Option.some.inj h)⟩, by rw [ht]; exact hP, x_KnW hKn t hW⟩, hS.F ht⟩) hS.2.2 dX2_readNumber_36
  refine lv_if_ne (tgt := 26) hx hb dX2_readNumber_16 (by decide) (fun c_3 => ?_) (fun c_3 => ?_)
  · have h := ife_f c_3 h
    exact hJ26 _ _ _ hP hS (lv_sub hl [0, 1] rfl) h
  · have h := ife_t c_3 h
    refine lv_aload_n hx hb dX2_readNumber_19 rfl (lv_at hl 0 rfl) ?_
    obtain ⟨r_4, e20, h⟩ := bo_use h
    refine gc_i (va_runV (As := []) (rest := []) hFx (tX2_atFigure l dC dI kI ad  (upd2 M_1 1 3 (M_1 1 2))  e20) ⟨(gc_B hFx ck_yX2_atFigure lkM_X2_114 ⟨Nat.le_of_ble_eq_true rfl, Nat.le_of_ble_eq_true rfl⟩ rfl rfl), hg _ vi_yX2_atFigure, hg _ vs_yX2_atFigure⟩ (gp_V x_KnB (x_KnW hKn) hP (x_rc2 (c := 1) (by decide) hKn hP)) rfl rfl hl.1 rfl (lv_room (Nat.le_of_ble_eq_true rfl)) dX2_readNumber_20 ⟨Nat.zero_le _, Nat.zero_le _⟩) hS (fun H locs hP hS => ?_)
    have hP : va_P (dC, dI) vwCl (x_w kI ad (upd2 M_1 1 3 (M_1 1 2))) H := hP
    refine lv_if_ne (tgt := 37) hx hb dX2_readNumber_23 (by decide) (fun c_5 => ?_) (fun c_5 => ?_)
    · have h := ife_f c_5 h
      refine lv_iconst (v := 0) hx hb dX2_readNumber_37 (by decide) ?_
      refine lv_istore_n (lv' := [(3, .int (0)), (0, .ref (ad (1))), (1, .int (a1)), (2, .int (a2))]) hx hb dX2_readNumber_38 rfl hl (Nat.le_of_ble_eq_true rfl) rfl (fun ls hl => ?_)
      refine lv_iconst (v := 0) hx hb dX2_readNumber_39 (by decide) ?_
      refine lv_istore (lv' := [(4, .int (0)), (3, .int (0)), (0, .ref (ad (1))), (1, .int (a1)), (2, .int (a2))]) hx hb dX2_readNumber_40 hl (Nat.le_of_ble_eq_true rfl) rfl (fun ls hl => ?_)
      obtain ⟨K42, eK42, h⟩ := exK (Lp := fun K => FX2_readNumber_L42 a1 a2 K fuelN 0 0 (upd2 M_1 1 3 (M_1 1 2))) h
      have hK42 : ∀ (k3_6 : Int32) (M_7 : (Nat → Nat → Int32)) (H : Heap) (locs : List Loc) (ls : Array Slot), va_P (dC, dI) vwCl (x_w kI ad M_7) H → va_S (x_A ad) s.heap H locs → lv_has ls 5 [(0, .ref (ad (1))), (1, .int (a1)), (2, .int (a2)), (3, .int (k3_6))] → K42 k3_6 M_7 = some (r0, M0) → W p l e (headSpec (wsA yX2_readNumber cX2_readNumber 5 (some .int)) ({ frames := 3, cells := 0, slots := 0, locals := 62 } : Room)).room s m (([.ref (ad (1)), .int (a1), .int (a2)] : List Value).toArray) below meth c H locs 0 0 (MQ below (va_Qi (fun (r : Int32) (u : (Nat → Nat → Int32)) => r = r0 ∧ u = M0) (gI (x_Wd dC dI kI ad) (x_Kn dC dI kI ad)) (x_A ad)) (([.ref (ad (1)), .int (a1), .int (a2)] : List Value).toArray) s 0 0 (x_A ad)) (F0 m 92 ls []) := by
        intro k3_6 M_7 H locs ls hP hS hl h
        have h := useK2 eK42 h
        refine lv_aload_n hx hb dX2_readNumber_92 rfl (lv_at hl 0 rfl) ?_
        refine va_get (D := (dC, dI)) (ci := 2) (v := .int ((M_7 1 2))) (C := RX2) (T := TX2) (N := 7) hx hb hg inX2 hown hKn.1 hP (1) (x_at2 (c := 1) (by decide)) rfl 2 (Nat.le_of_ble_eq_true rfl) (hg _ lkF_X2_34) (fun _ h9 => h9) rfl dX2_readNumber_93 ?_
        refine lv_aload_n hx hb dX2_readNumber_96 rfl (lv_at hl 0 rfl) ?_
        refine va_get (D := (dC, dI)) (ci := 2) (v := .int ((M_7 1 3))) (C := RX2) (T := TX2) (N := 7) hx hb hg inX2 hown hKn.1 hP (1) (x_at2 (c := 1) (by decide)) rfl 3 (Nat.le_of_ble_eq_true rfl) (hg _ lkF_X2_102) (fun _ h9 => h9) rfl dX2_readNumber_97 ?_
        refine lv_isub hx hb dX2_readNumber_100 ?_
        refine lv_iconst (v := 3) hx hb dX2_readNumber_101 (by decide) ?_
        obtain ⟨J115, eJ115, h⟩ := jn_use h
        have hJ115 : ∀  (H : Heap) (locs : List Loc) (ls : Array Slot), va_P (dC, dI) vwCl (x_w kI ad M_7) H → va_S (x_A ad) s.heap H locs → lv_has ls 5 [(0, .ref (ad (1))), (1, .int (a1))] → J115  = some (r0, M0) → W p l e (headSpec (wsA yX2_readNumber cX2_readNumber 5 (some .int)) ({ frames := 3, cells := 0, slots := 0, locals := 62 } : Room)).room s m (([.ref (ad (1)), .int (a1), .int (a2)] : List Value).toArray) below meth c H locs 0 0 (MQ below (va_Qi (fun (r : Int32) (u : (Nat → Nat → Int32)) => r = r0 ∧ u = M0) (gI (x_Wd dC dI kI ad) (x_Kn dC dI kI ad)) (x_A ad)) (([.ref (ad (1)), .int (a1), .int (a2)] : List Value).toArray) s 0 0 (x_A ad)) (F0 m 115 ls []) := by
          intro  H locs ls hP hS hl h
          have h := useK0 eJ115 h
          refine lv_aload_n hx hb dX2_readNumber_115 rfl (lv_at hl 0 rfl) ?_
          refine lv_iconst (v := 2) hx hb dX2_readNumber_116 (by decide) ?_
          refine lv_aload_n hx hb dX2_readNumber_117 rfl (lv_at hl 0 rfl) ?_
          refine va_get (D := (dC, dI)) (ci := 2) (v := .int ((M_7 1 3))) (C := RX2) (T := TX2) (N := 7) hx hb hg inX2 hown hKn.1 hP (1) (x_at2 (c := 1) (by decide)) rfl 3 (Nat.le_of_ble_eq_true rfl) (hg _ lkF_X2_102) (fun _ h9 => h9) rfl dX2_readNumber_118 ?_
          obtain ⟨M_8, e121, h⟩ := bo_use h
          refine gc_v (va_runV (As := [.int (2), .int ((M_7 1 3))]) (rest := []) hFx (tX2_mark l dC dI kI ad 2 (M_7 1 3) M_7  e121) ⟨(gc_B hFx ck_yX2_mark lkM_X2_59 ⟨Nat.le_of_ble_eq_true rfl, Nat.le_of_ble_eq_true rfl⟩ rfl rfl), hg _ vi_yX2_mark, hg _ vs_yX2_mark⟩ (gp_V x_KnB (x_KnW hKn) hP (x_rc2 (c := 1) (by decide) hKn hP)) rfl rfl hl.1 rfl (lv_room (Nat.le_of_ble_eq_true rfl)) dX2_readNumber_121 ⟨Nat.zero_le _, Nat.zero_le _⟩) hS (fun H locs hP hS => ?_)
          have hP : va_P (dC, dI) vwCl (x_w kI ad M_8) H := hP
          refine lv_iload_n hx hb dX2_readNumber_124 rfl (lv_at hl 1 rfl) ?_
          exact W.iret (v := a1) hx hb hr (fun t ht hW => ⟨⟨a1, M_8, rfl, ⟨congrArg Prod.fst (Option.some.inj h), congrArg Prod.snd (Option.some.inj h)⟩, by rw [ht]; exact hP, x_KnW hKn t hW⟩, hS.F ht⟩) hS.2.2 dX2_readNumber_125
        refine lv_icmp_gt (tgt := 115) hx hb dX2_readNumber_102 (by decide) (fun c_9 => ?_) (fun c_9 => ?_)
        · have h := ife_t c_9 h
          exact hJ115 _ _ _ hP hS (lv_sub hl [0, 1] rfl) h
        · have h := ife_f c_9 h
          refine lv_iload_n hx hb dX2_readNumber_105 rfl (lv_at hl 3 rfl) ?_
          refine lv_iload_n hx hb dX2_readNumber_106 rfl (lv_at hl 1 rfl) ?_
          refine lv_icmp_lt (tgt := 115) hx hb dX2_readNumber_107 (by decide) (fun c_10 => ?_) (fun c_10 => ?_)
          · have h := ife_t c_10 h
            exact hJ115 _ _ _ hP hS (lv_sub hl [0, 1] rfl) h
          · have h := ife_f c_10 h
            refine lv_iload_n hx hb dX2_readNumber_110 rfl (lv_at hl 3 rfl) ?_
            refine lv_iload_n hx hb dX2_readNumber_111 rfl (lv_at hl 2 rfl) ?_
            refine lv_icmp_le (tgt := 126) hx hb dX2_readNumber_112 (by decide) (fun c_11 => ?_) (fun c_11 => ?_)
            · have h := ife_t c_11 h
              refine lv_iload_n hx hb dX2_readNumber_126 rfl (lv_at hl 3 rfl) ?_
              exact W.iret (v := k3_6) hx hb hr (fun t ht hW => ⟨⟨k3_6, M_7, rfl, ⟨congrArg Prod.fst (Option.some.inj h), congrArg Prod.snd (Option.some.inj h)⟩, by rw [ht]; exact hP, x_KnW hKn t hW⟩, hS.F ht⟩) hS.2.2 dX2_readNumber_127
            · have h := ife_f c_11 h
              exact hJ115 _ _ _ hP hS (lv_sub hl [0, 1] rfl) h
      have hL42 : ∀ (k : Nat) (v3_12 : Int32) (v4_13 : Int32) (M_14 : (Nat → Nat → Int32)) (H : Heap) (locs : List Loc) (ls : Array Slot), va_P (dC, dI) vwCl (x_w kI ad M_14) H → va_S (x_A ad) s.heap H locs → lv_has ls 5 [(0, .ref (ad (1))), (1, .int (a1)), (2, .int (a2)), (3, .int (v3_12)), (4, .int (v4_13))] → FX2_readNumber_L42 a1 a2 K42 k v3_12 v4_13 M_14 = some (r0, M0) → W p l e (headSpec (wsA yX2_readNumber cX2_readNumber 5 (some .int)) ({ frames := 3, cells := 0, slots := 0, locals := 62 } : Room)).room s m (([.ref (ad (1)), .int (a1), .int (a2)] : List Value).toArray) below meth c H locs 0 0 (MQ below (va_Qi (fun (r : Int32) (u : (Nat → Nat → Int32)) => r = r0 ∧ u = M0) (gI (x_Wd dC dI kI ad) (x_Kn dC dI kI ad)) (x_A ad)) (([.ref (ad (1)), .int (a1), .int (a2)] : List Value).toArray) s 0 0 (x_A ad)) (F0 m 42 ls []) := by
        intro k
        induction k with
        | zero => intro v3_12 v4_13 M_14 H locs ls hP hS hl h; cases h
        | succ k ih42 =>
          intro v3_12 v4_13 M_14 H locs ls hP hS hl h
          unfold FX2_readNumber_L42 at h
          refine lv_iload hx hb dX2_readNumber_42 (lv_at hl 4 rfl) ?_
          refine lv_sipush (v := 240) hx hb dX2_readNumber_44 (by decide) ?_
          refine lv_icmp_ge (tgt := 92) hx hb dX2_readNumber_47 (by decide) (fun c_15 => ?_) (fun c_15 => ?_)
          · have h := ife_t c_15 h
            exact hK42 v3_12 M_14 _ _ _ hP hS (lv_sub hl [0, 1, 2, 3] rfl) h
          · have h := ife_f c_15 h
            refine lv_aload_n hx hb dX2_readNumber_50 rfl (lv_at hl 0 rfl) ?_
            obtain ⟨r_16, e51, h⟩ := bo_use h
            refine gc_i (va_runV (As := []) (rest := []) hFx (tX2_atFigure l dC dI kI ad  M_14  e51) ⟨(gc_B hFx ck_yX2_atFigure lkM_X2_114 ⟨Nat.le_of_ble_eq_true rfl, Nat.le_of_ble_eq_true rfl⟩ rfl rfl), hg _ vi_yX2_atFigure, hg _ vs_yX2_atFigure⟩ (gp_V x_KnB (x_KnW hKn) hP (x_rc2 (c := 1) (by decide) hKn hP)) rfl rfl hl.1 rfl (lv_room (Nat.le_of_ble_eq_true rfl)) dX2_readNumber_51 ⟨Nat.zero_le _, Nat.zero_le _⟩) hS (fun H locs hP hS => ?_)
            have hP : va_P (dC, dI) vwCl (x_w kI ad M_14) H := hP
            refine lv_if_eq (tgt := 92) hx hb dX2_readNumber_54 (by decide) (fun c_17 => ?_) (fun c_17 => ?_)
            · have h := ife_t c_17 h
              exact hK42 v3_12 M_14 _ _ _ hP hS (lv_sub hl [0, 1, 2, 3] rfl) h
            · have h := ife_f c_17 h
              refine lv_sipush (v := 1000) hx hb dX2_readNumber_57 (by decide) ?_
              refine lv_iload_n hx hb dX2_readNumber_60 rfl (lv_at hl 3 rfl) ?_
              refine lv_bipush (v := 10) hx hb dX2_readNumber_61 (by decide) ?_
              refine lv_imul hx hb dX2_readNumber_63 ?_
              refine lv_aload_n hx hb dX2_readNumber_64 rfl (lv_at hl 0 rfl) ?_
              obtain ⟨r_18, e65, h⟩ := bo_use h
              refine gc_i (va_runV (As := []) (rest := [.int ((v3_12 * 10)), .int (1000)]) hFx (tX2_next l dC dI kI ad  M_14  e65) ⟨(gc_B hFx ck_yX2_next lkM_X2_44 ⟨Nat.le_of_ble_eq_true rfl, Nat.le_of_ble_eq_true rfl⟩ rfl rfl), hg _ vi_yX2_next, hg _ vs_yX2_next⟩ (gp_V x_KnB (x_KnW hKn) hP (x_rc2 (c := 1) (by decide) hKn hP)) rfl rfl hl.1 rfl (lv_room (Nat.le_of_ble_eq_true rfl)) dX2_readNumber_65 ⟨Nat.zero_le _, Nat.zero_le _⟩) hS (fun H locs hP hS => ?_)
              have hP : va_P (dC, dI) vwCl (x_w kI ad M_14) H := hP
              refine lv_iadd hx hb dX2_readNumber_68 ?_
              refine lv_bipush (v := 48) hx hb dX2_readNumber_69 (by decide) ?_
              refine lv_isub hx hb dX2_readNumber_71 ?_
              refine va_mmin hx hb (hml.trans hl.1.symm) hown (hg _ lkM_X2_118) (hg _ st_Lib_Math_min_name) (hg _ ini_J9) (hg _ co_math_min) (Nat.le_of_ble_eq_true rfl) (Nat.le_of_ble_eq_true rfl) (Nat.zero_le _) (Nat.zero_le _) dX2_readNumber_72 ?_
              refine lv_topi (fun x3_19 ex3_19 => ?_)
              have h := lt_use ex3_19 h
              refine lv_istore_n (lv' := [(3, .int (x3_19)), (0, .ref (ad (1))), (1, .int (a1)), (2, .int (a2)), (4, .int (v4_13))]) hx hb dX2_readNumber_75 rfl hl (Nat.le_of_ble_eq_true rfl) rfl (fun ls hl => ?_)
              refine lv_aload_n hx hb dX2_readNumber_76 rfl (lv_at hl 1 rfl) ?_
              refine lv_dup hx hb dX2_readNumber_77 rfl ?_
              refine va_get (D := (dC, dI)) (ci := 2) (v := .int ((M_14 1 2))) (C := RX2) (T := TX2) (N := 7) hx hb hg inX2 hown hKn.1 hP (1) (x_at2 (c := 1) (by decide)) rfl 2 (Nat.le_of_ble_eq_true rfl) (hg _ lkF_X2_34) (fun _ h9 => h9) rfl dX2_readNumber_78 ?_
              refine lv_iconst (v := 1) hx hb dX2_readNumber_81 (by decide) ?_
              refine lv_iadd hx hb dX2_readNumber_82 ?_
              refine va_put (D := (dC, dI)) (ci := 2) (v := .int (((M_14 1 2) + 1))) (ty := .int) (C := RX2) (T := TX2) (N := 7) hx hb hg inX2 tyX2 tyX2_ok nmX2 hown hKn.1 hP (x_D hKn.2.1) hS (1) (x_at2 (c := 1) (by decide)) rfl 2 (Nat.le_of_ble_eq_true rfl) (hg _ lkF_X2_34) (fun _ h9 => h9) rfl (by decide +kernel) rfl rfl (Nat.le_of_ble_eq_true rfl) dX2_readNumber_83 (fun H locs hP _ hS => ?_)
              have hP : va_P (dC, dI) vwCl (x_w kI ad (upd2 M_14 1 2 ((M_14 1 2) + 1))) H := vp_eq (x_put2_2 (by decide) _) hP
              refine lv_iinc (v := (v4_13 + 1)) (lv' := [(4, .int ((v4_13 + 1))), (3, .int (x3_19)), (0, .ref (ad (1))), (1, .int (a1)), (2, .int (a2))]) hx hb dX2_readNumber_86 hl (k := 4) rfl rfl (Nat.le_of_ble_eq_true rfl) rfl (fun ls hl => ?_)
              refine lv_goto (tgt := 42) hx hb dX2_readNumber_89 (by decide) ?_
              exact ih42 x3_19 (v4_13 + 1) (upd2 M_14 1 2 ((M_14 1 2) + 1)) _ _ _ hP hS (lv_sub hl [2, 3, 4, 1, 0] rfl) h
      exact hL42 fuelN 0 0 (upd2 M_1 1 3 (M_1 1 2)) _ _ _ hP hS (lv_sub hl [2, 3, 4, 1, 0] rfl) h
    · have h := ife_t c_5 h
      exact hJ26 _ _ _ hP hS (lv_sub hl [0, 1] rfl) h
noncomputable def FX2_readReader_L12 (c1 : Nat) (K : (Nat → Nat → Int32) → Option (Nat → Nat → Int32)) (k : Nat) (v2_4 : Int32) (M_5 : (Nat → Nat → Int32)) : Option (Nat → Nat → Int32) := match k with
  | 0 => none
  | k + 1 => (if 5 ≤ v2_4 then K M_5 else jn (fun (M_7 : (Nat → Nat → Int32)) => bd (FX2_readNumber 0 20 M_7) (fun (r_8 : Int32) (M_9 : (Nat → Nat → Int32)) => bo (FX7_put (c1 + 1) v2_4 r_8 M_9) (fun (M_10 : (Nat → Nat → Int32)) => FX2_readReader_L12 c1 K k (v2_4 + 1) (upd2 M_10 c1 1 ((M_10 c1 1) + 1))))) (fun J30 => (if v2_4 = 0 then J30 M_5 else bd (FX2_takes 44 M_5) (fun (r_12 : Int32) (M_13 : (Nat → Nat → Int32)) => (if r_12 = 0 then K M_13 else J30 M_13)))))
noncomputable def FX2_readReader (c1 : Nat) (M : (Nat → Nat → Int32)) : Option (Nat → Nat → Int32) :=
  bd (FX2_readNumber 1 3 M) (fun (r_1 : Int32) (M_2 : (Nat → Nat → Int32)) => FX2_readReader_L12 c1 (fun (M_3 : (Nat → Nat → Int32)) => some M_3) fuelN 0 (upd2 M_2 c1 0 r_1))
set_option maxHeartbeats 4000000 in
set_option maxRecDepth 100000 in
theorem tX2_readReader (l : Launch) (dC : Nat → ClassId) (dI : Nat → Nat → Nat) (kI : ClassId) (ad : Nat → Nat) (c1 : Nat) (M : (Nat → Nat → Int32)) (h1 : x_is1 c1) {M0 : (Nat → Nat → Int32)} (h : FX2_readReader c1 M = some M0) : Met l yX2_readReader (wsA yX2_readReader cX2_readReader 3 none) ({ frames := 4, cells := 0, slots := 0, locals := 86 } : Room) (va_Pc [.ref (ad (1)), .ref (ad (c1))] (gI (x_Wd dC dI kI ad) (x_Kn dC dI kI ad) M)) (va_Qv (fun (u : (Nat → Nat → Int32)) => u = M0) (gI (x_Wd dC dI kI ad) (x_Kn dC dI kI ad)) (x_A ad)) 0 0 (x_A ad) := by
  refine Met.ofW (cc := cX2_readReader) (maxL := 3) (ret := none) (by decide) rfl ?_
  intro p e s m args below meth c s₁ B hml hv
  obtain ⟨rfl, hP, hKn⟩ := hv
  have hx := B.exec
  have hb := B.bytes
  have hr := B.returns
  have hts := atoms_spec (ws := wsA yX2_readReader cX2_readReader 3 none) B.pre
  have hg : ∀ w ∈ lw_good, w.before _ s = true := fun w h => hts w (List.mem_cons_of_mem _ h)
  have hown : s.vm.findClass RX2 = some m.cls := findClass_of_methodNamed B.named
  have hlocks := B.notSynchronized
  have hS : va_S (x_A ad) s.heap s.heap [] := va_S.rf
  have hFx : gFix p c cX2_readReader 3 s m _ RX2 := ⟨hx, hb, hml, hown, hg⟩
  have hP : va_P (dC, dI) vwCl (x_w kI ad M) s.heap := hP
  have hl := lv_entry ([.ref (ad (1)), .ref (ad (c1))]) (n := 3) (Nat.le_of_ble_eq_true rfl)
  rw [lg_entry_eq]
  generalize (lg_sl ([.ref (ad (1)), .ref (ad (c1))]) ++ List.replicate (3 - (lg_sl ([.ref (ad (1)), .ref (ad (c1))])).length) Slot.unset).toArray = ls at hl ⊢
  have hl : lv_has ls 3 [(0, .ref (ad (1))), (1, .ref (ad (c1)))] := hl
  unfold FX2_readReader at h
  refine lv_aload_n hx hb dX2_readReader_0 rfl (lv_at hl 1 rfl) ?_
  refine lv_aload_n hx hb dX2_readReader_1 rfl (lv_at hl 0 rfl) ?_
  refine lv_iconst (v := 1) hx hb dX2_readReader_2 (by decide) ?_
  refine lv_iconst (v := 3) hx hb dX2_readReader_3 (by decide) ?_
  obtain ⟨r_1, M_2, e4, h⟩ := bd_use h
  refine gc_i (va_runV (As := [.int (1), .int (3)]) (rest := [.ref (ad (c1))]) hFx (tX2_readNumber l dC dI kI ad 1 3 M  e4) ⟨(gc_B hFx ck_yX2_readNumber lkM_X2_73 ⟨Nat.le_of_ble_eq_true rfl, Nat.le_of_ble_eq_true rfl⟩ rfl rfl), hg _ vi_yX2_readNumber, hg _ vs_yX2_readNumber⟩ (gp_V x_KnB (x_KnW hKn) hP (x_rc2 (c := 1) (by decide) hKn hP)) rfl rfl hl.1 rfl (lv_room (Nat.le_of_ble_eq_true rfl)) dX2_readReader_4 ⟨Nat.zero_le _, Nat.zero_le _⟩) hS (fun H locs hP hS => ?_)
  have hP : va_P (dC, dI) vwCl (x_w kI ad M_2) H := hP
  refine va_putN (D := (dC, dI)) (ci := 1) (v := .int (r_1)) (ty := .int) (C := RX1) (T := TX1) (N := 10) hx hb hg inX1 tyX1 tyX1_ok nmX1 hown hKn.1 hP (x_D hKn.2.1) hS (c1) (x_at1 (c := c1) h1) rfl 0 (Nat.le_of_ble_eq_true rfl) (nest_use hKn.2.2 nkF_X2_87) (fun _ h9 => h9) rfl (by decide +kernel) rfl rfl (Nat.le_of_ble_eq_true rfl) dX2_readReader_7 (fun H locs hP _ hS => ?_)
  have hP : va_P (dC, dI) vwCl (x_w kI ad (upd2 M_2 c1 0 r_1)) H := vp_eq (x_put1_0 h1 _) hP
  refine lv_iconst (v := 0) hx hb dX2_readReader_10 (by decide) ?_
  refine lv_istore_n (lv' := [(2, .int (0)), (0, .ref (ad (1))), (1, .ref (ad (c1)))]) hx hb dX2_readReader_11 rfl hl (Nat.le_of_ble_eq_true rfl) rfl (fun ls hl => ?_)
  obtain ⟨K12, eK12, h⟩ := exK (Lp := fun K => FX2_readReader_L12 c1 K fuelN 0 (upd2 M_2 c1 0 r_1)) h
  have hK12 : ∀ (M_3 : (Nat → Nat → Int32)) (H : Heap) (locs : List Loc) (ls : Array Slot), va_P (dC, dI) vwCl (x_w kI ad M_3) H → va_S (x_A ad) s.heap H locs → lv_has ls 3 [] → K12 M_3 = some M0 → W p l e (headSpec (wsA yX2_readReader cX2_readReader 3 none) ({ frames := 4, cells := 0, slots := 0, locals := 86 } : Room)).room s m (([.ref (ad (1)), .ref (ad (c1))] : List Value).toArray) below meth c H locs 0 0 (MQ below (va_Qv (fun (u : (Nat → Nat → Int32)) => u = M0) (gI (x_Wd dC dI kI ad) (x_Kn dC dI kI ad)) (x_A ad)) (([.ref (ad (1)), .ref (ad (c1))] : List Value).toArray) s 0 0 (x_A ad)) (F0 m 61 ls []) := by
    intro M_3 H locs ls hP hS hl h
    have h := useK1 eK12 h
    exact W.vret hx hb hr (fun t ht hW => ⟨⟨M_3, rfl, Option.some.inj h, by rw [ht]; exact hP, x_KnW hKn t hW⟩, hS.F ht⟩) hS.2.2 dX2_readReader_61
  have hL12 : ∀ (k : Nat) (v2_4 : Int32) (M_5 : (Nat → Nat → Int32)) (H : Heap) (locs : List Loc) (ls : Array Slot), va_P (dC, dI) vwCl (x_w kI ad M_5) H → va_S (x_A ad) s.heap H locs → lv_has ls 3 [(0, .ref (ad (1))), (1, .ref (ad (c1))), (2, .int (v2_4))] → FX2_readReader_L12 c1 K12 k v2_4 M_5 = some M0 → W p l e (headSpec (wsA yX2_readReader cX2_readReader 3 none) ({ frames := 4, cells := 0, slots := 0, locals := 86 } : Room)).room s m (([.ref (ad (1)), .ref (ad (c1))] : List Value).toArray) below meth c H locs 0 0 (MQ below (va_Qv (fun (u : (Nat → Nat → Int32)) => u = M0) (gI (x_Wd dC dI kI ad) (x_Kn dC dI kI ad)) (x_A ad)) (([.ref (ad (1)), .ref (ad (c1))] : List Value).toArray) s 0 0 (x_A ad)) (F0 m 12 ls []) := by
    intro k
    induction k with
    | zero => intro v2_4 M_5 H locs ls hP hS hl h; cases h
    | succ k ih12 =>
      intro v2_4 M_5 H locs ls hP hS hl h
      unfold FX2_readReader_L12 at h
      refine lv_iload_n hx hb dX2_readReader_12 rfl (lv_at hl 2 rfl) ?_
      refine lv_iconst (v := 5) hx hb dX2_readReader_13 (by decide) ?_
      refine lv_icmp_ge (tgt := 61) hx hb dX2_readReader_14 (by decide) (fun c_6 => ?_) (fun c_6 => ?_)
      · have h := ife_t c_6 h
        exact hK12 M_5 _ _ _ hP hS (lv_sub hl [] rfl) h
      · have h := ife_f c_6 h
        refine lv_iload_n hx hb dX2_readReader_17 rfl (lv_at hl 2 rfl) ?_
        obtain ⟨J30, eJ30, h⟩ := jn_use h
        have hJ30 : ∀ (M_7 : (Nat → Nat → Int32)) (H : Heap) (locs : List Loc) (ls : Array Slot), va_P (dC, dI) vwCl (x_w kI ad M_7) H → va_S (x_A ad) s.heap H locs → lv_has ls 3 [(0, .ref (ad (1))), (1, .ref (ad (c1))), (2, .int (v2_4))] → J30 M_7 = some M0 → W p l e (headSpec (wsA yX2_readReader cX2_readReader 3 none) ({ frames := 4, cells := 0, slots := 0, locals := 86 } : Room)).room s m (([.ref (ad (1)), .ref (ad (c1))] : List Value).toArray) below meth c H locs 0 0 (MQ below (va_Qv (fun (u : (Nat → Nat → Int32)) => u = M0) (gI (x_Wd dC dI kI ad) (x_Kn dC dI kI ad)) (x_A ad)) (([.ref (ad (1)), .ref (ad (c1))] : List Value).toArray) s 0 0 (x_A ad)) (F0 m 30 ls []) := by
          intro M_7 H locs ls hP hS hl h
          have h := useK1 eJ30 h
          refine lv_aload_n hx hb dX2_readReader_30 rfl (lv_at hl 1 rfl) ?_
          refine va_getN (D := (dC, dI)) (ci := 1) (v := .ref (ad ((c1 + 1)))) (C := RX1) (T := TX1) (N := 10) hx hb hg inX1 hown hKn.1 hP (c1) (x_at1 (c := c1) h1) rfl 4 (Nat.le_of_ble_eq_true rfl) (nest_use hKn.2.2 nkF_X2_90) (fun _ h9 => h9) rfl dX2_readReader_31 ?_
          refine lv_iload_n hx hb dX2_readReader_34 rfl (lv_at hl 2 rfl) ?_
          refine lv_aload_n hx hb dX2_readReader_35 rfl (lv_at hl 0 rfl) ?_
          refine lv_iconst (v := 0) hx hb dX2_readReader_36 (by decide) ?_
          refine lv_bipush (v := 20) hx hb dX2_readReader_37 (by decide) ?_
          obtain ⟨r_8, M_9, e39, h⟩ := bd_use h
          refine gc_i (va_runV (As := [.int (0), .int (20)]) (rest := [.int (v2_4), .ref (ad ((c1 + 1)))]) hFx (tX2_readNumber l dC dI kI ad 0 20 M_7  e39) ⟨(gc_B hFx ck_yX2_readNumber lkM_X2_73 ⟨Nat.le_of_ble_eq_true rfl, Nat.le_of_ble_eq_true rfl⟩ rfl rfl), hg _ vi_yX2_readNumber, hg _ vs_yX2_readNumber⟩ (gp_V x_KnB (x_KnW hKn) hP (x_rc2 (c := 1) (by decide) hKn hP)) rfl rfl hl.1 rfl (lv_room (Nat.le_of_ble_eq_true rfl)) dX2_readReader_39 ⟨Nat.zero_le _, Nat.zero_le _⟩) hS (fun H locs hP hS => ?_)
          have hP : va_P (dC, dI) vwCl (x_w kI ad M_9) H := hP
          obtain ⟨M_10, e42, h⟩ := bo_use h
          refine gc_v (va_runSN (As := [.ref (ad ((c1 + 1))), .int (v2_4), .int (r_8)]) (rest := []) hFx (tX7_put l dC dI kI ad (c1 + 1) v2_4 r_8 M_9 (x_ar1_1 h1) e42) ⟨(gc_N hFx hKn.2.2 ck_yX7_put nkM_X2_25 ⟨Nat.le_of_ble_eq_true rfl, Nat.le_of_ble_eq_true rfl⟩ rfl rfl), hg _ st_yX7_put, trivial⟩ (gp_S x_KnB (x_KnW hKn) hP) rfl rfl hl.1 rfl (lv_room (Nat.le_of_ble_eq_true rfl)) dX2_readReader_42 ⟨Nat.zero_le _, Nat.zero_le _⟩) hS (fun H locs hP hS => ?_)
          have hP : va_P (dC, dI) vwCl (x_w kI ad M_10) H := hP
          refine lv_aload_n hx hb dX2_readReader_45 rfl (lv_at hl 1 rfl) ?_
          refine lv_dup hx hb dX2_readReader_46 rfl ?_
          refine va_getN (D := (dC, dI)) (ci := 1) (v := .int ((M_10 c1 1))) (C := RX1) (T := TX1) (N := 10) hx hb hg inX1 hown hKn.1 hP (c1) (x_at1 (c := c1) h1) rfl 1 (Nat.le_of_ble_eq_true rfl) (nest_use hKn.2.2 nkF_X2_56) (fun _ h9 => h9) rfl dX2_readReader_47 ?_
          refine lv_iconst (v := 1) hx hb dX2_readReader_50 (by decide) ?_
          refine lv_iadd hx hb dX2_readReader_51 ?_
          refine va_putN (D := (dC, dI)) (ci := 1) (v := .int (((M_10 c1 1) + 1))) (ty := .int) (C := RX1) (T := TX1) (N := 10) hx hb hg inX1 tyX1 tyX1_ok nmX1 hown hKn.1 hP (x_D hKn.2.1) hS (c1) (x_at1 (c := c1) h1) rfl 1 (Nat.le_of_ble_eq_true rfl) (nest_use hKn.2.2 nkF_X2_56) (fun _ h9 => h9) rfl (by decide +kernel) rfl rfl (Nat.le_of_ble_eq_true rfl) dX2_readReader_52 (fun H locs hP _ hS => ?_)
          have hP : va_P (dC, dI) vwCl (x_w kI ad (upd2 M_10 c1 1 ((M_10 c1 1) + 1))) H := vp_eq (x_put1_1 h1 _) hP
          refine lv_iinc (v := (v2_4 + 1)) (lv' := [(2, .int ((v2_4 + 1))), (0, .ref (ad (1))), (1, .ref (ad (c1)))]) hx hb dX2_readReader_55 hl (k := 2) rfl rfl (Nat.le_of_ble_eq_true rfl) rfl (fun ls hl => ?_)
          refine lv_goto (tgt := 12) hx hb dX2_readReader_58 (by decide) ?_
          exact ih12 (v2_4 + 1) (upd2 M_10 c1 1 ((M_10 c1 1) + 1)) _ _ _ hP hS (lv_sub hl [1, 2, 0] rfl) h
        refine lv_if_eq (tgt := 30) hx hb dX2_readReader_18 (by decide) (fun c_11 => ?_) (fun c_11 => ?_)
        · have h := ife_t c_11 h
          exact hJ30 M_5 _ _ _ hP hS (lv_sub hl [0, 1, 2] rfl) h
        · have h := ife_f c_11 h
          refine lv_aload_n hx hb dX2_readReader_21 rfl (lv_at hl 0 rfl) ?_
          refine lv_bipush (v := 44) hx hb dX2_readReader_22 (by decide) ?_
          obtain ⟨r_12, M_13, e24, h⟩ := bd_use h
          refine gc_i (va_runV (As := [.int (44)]) (rest := []) hFx (tX2_takes l dC dI kI ad 44 M_5  e24) ⟨(gc_B hFx ck_yX2_takes lkM_X2_80 ⟨Nat.le_of_ble_eq_true rfl, Nat.le_of_ble_eq_true rfl⟩ rfl rfl), hg _ vi_yX2_takes, hg _ vs_yX2_takes⟩ (gp_V x_KnB (x_KnW hKn) hP (x_rc2 (c := 1) (by decide) hKn hP)) rfl rfl hl.1 rfl (lv_room (Nat.le_of_ble_eq_true rfl)) dX2_readReader_24 ⟨Nat.zero_le _, Nat.zero_le _⟩) hS (fun H locs hP hS => ?_)
          have hP : va_P (dC, dI) vwCl (x_w kI ad M_13) H := hP
          refine lv_if_eq (tgt := 61) hx hb dX2_readReader_27 (by decide) (fun c_14 => ?_) (fun c_14 => ?_)
          · have h := ife_t c_14 h
            exact hK12 M_13 _ _ _ hP hS (lv_sub hl [] rfl) h
          · have h := ife_f c_14 h
            exact hJ30 M_13 _ _ _ hP hS (lv_sub hl [0, 1, 2] rfl) h
  exact hL12 fuelN 0 (upd2 M_2 c1 0 r_1) _ _ _ hP hS (lv_sub hl [1, 2, 0] rfl) h
noncomputable def FX2_toldAlready (c1 : Nat) (a2 : Int32) (M : (Nat → Nat → Int32)) : Option Int32 :=
  (if a2 = 102 then (if (M c1 2) < 8 then some 0 else some 1) else (if a2 = 114 then (if (M c1 1) ≤ 0 then some 0 else some 1) else if bo01 (M 1 6) then some (M 1 6) else none))
set_option maxHeartbeats 4000000 in
set_option maxRecDepth 100000 in
theorem tX2_toldAlready (l : Launch) (dC : Nat → ClassId) (dI : Nat → Nat → Nat) (kI : ClassId) (ad : Nat → Nat) (c1 : Nat) (a2 : Int32) (M : (Nat → Nat → Int32)) (h1 : x_is1 c1) {r0 : Int32} (h : FX2_toldAlready c1 a2 M = some r0) : Met l yX2_toldAlready (wsA yX2_toldAlready cX2_toldAlready 3 (some .boolean)) ({ frames := 0, cells := 0, slots := 0, locals := 0 } : Room) (va_Pc [.ref (ad (1)), .ref (ad (c1)), .int (a2)] (gI (x_Wd dC dI kI ad) (x_Kn dC dI kI ad) M)) (va_Qi (fun (r : Int32) (u : (Nat → Nat → Int32)) => r = r0 ∧ u = M) (gI (x_Wd dC dI kI ad) (x_Kn dC dI kI ad)) (x_A ad)) 0 0 (x_A ad) := by
  refine Met.ofW (cc := cX2_toldAlready) (maxL := 3) (ret := (some .boolean)) (by decide) rfl ?_
  intro p e s m args below meth c s₁ B hml hv
  obtain ⟨rfl, hP, hKn⟩ := hv
  have hx := B.exec
  have hb := B.bytes
  have hr := B.returns
  have hts := atoms_spec (ws := wsA yX2_toldAlready cX2_toldAlready 3 (some .boolean)) B.pre
  have hg : ∀ w ∈ lw_good, w.before _ s = true := fun w h => hts w (List.mem_cons_of_mem _ h)
  have hown : s.vm.findClass RX2 = some m.cls := findClass_of_methodNamed B.named
  have hlocks := B.notSynchronized
  have hS : va_S (x_A ad) s.heap s.heap [] := va_S.rf
  have hFx : gFix p c cX2_toldAlready 3 s m _ RX2 := ⟨hx, hb, hml, hown, hg⟩
  have hP : va_P (dC, dI) vwCl (x_w kI ad M) s.heap := hP
  have hl := lv_entry ([.ref (ad (1)), .ref (ad (c1)), .int (a2)]) (n := 3) (Nat.le_of_ble_eq_true rfl)
  rw [lg_entry_eq]
  generalize (lg_sl ([.ref (ad (1)), .ref (ad (c1)), .int (a2)]) ++ List.replicate (3 - (lg_sl ([.ref (ad (1)), .ref (ad (c1)), .int (a2)])).length) Slot.unset).toArray = ls at hl ⊢
  have hl : lv_has ls 3 [(0, .ref (ad (1))), (1, .ref (ad (c1))), (2, .int (a2))] := hl
  unfold FX2_toldAlready at h
  refine lv_iload_n hx hb dX2_toldAlready_0 rfl (lv_at hl 2 rfl) ?_
  by_cases c_1 : a2 = 102
  · have h := ife_t c_1 h
    refine lv_lookup (off := 40) (tgt := 41) hx hb dX2_toldAlready_1 (by decide) (by rw [c_1]; decide) (by decide) ?_
    refine lv_aload_n hx hb dX2_toldAlready_41 rfl (lv_at hl 1 rfl) ?_
    refine va_getN (D := (dC, dI)) (ci := 1) (v := .int ((M c1 2))) (C := RX1) (T := TX1) (N := 10) hx hb hg inX1 hown hKn.1 hP (c1) (x_at1 (c := c1) h1) rfl 2 (Nat.le_of_ble_eq_true rfl) (nest_use hKn.2.2 nkF_X2_84) (fun _ h9 => h9) rfl dX2_toldAlready_42 ?_
    refine lv_bipush (v := 8) hx hb dX2_toldAlready_45 (by decide) ?_
    refine lv_icmp_lt (tgt := 54) hx hb dX2_toldAlready_47 (by decide) (fun c_2 => ?_) (fun c_2 => ?_)
    · have h := ife_t c_2 h
      refine lv_iconst (v := 0) hx hb dX2_toldAlready_54 (by decide) ?_
      exact W.zret (v := 0) hx hb hr rfl (fun t ht hW => ⟨⟨0, M, rfl, ⟨Option.some.inj h, rfl⟩, by rw [ht]; exact hP, x_KnW hKn t hW⟩, hS.F ht⟩) hS.2.2 dX2_toldAlready_55
    · have h := ife_f c_2 h
      refine lv_iconst (v := 1) hx hb dX2_toldAlready_50 (by decide) ?_
      refine lv_goto (tgt := 55) hx hb dX2_toldAlready_51 (by decide) ?_
      exact W.zret (v := 1) hx hb hr rfl (fun t ht hW => ⟨⟨1, M, rfl, ⟨Option.some.inj h, rfl⟩, by rw [ht]; exact hP, x_KnW hKn t hW⟩, hS.F ht⟩) hS.2.2 dX2_toldAlready_55
  have h := ife_f c_1 h
  by_cases c_3 : a2 = 114
  · have h := ife_t c_3 h
    refine lv_lookup (off := 27) (tgt := 28) hx hb dX2_toldAlready_1 (by decide) (by rw [c_3]; decide) (by decide) ?_
    refine lv_aload_n hx hb dX2_toldAlready_28 rfl (lv_at hl 1 rfl) ?_
    refine va_getN (D := (dC, dI)) (ci := 1) (v := .int ((M c1 1))) (C := RX1) (T := TX1) (N := 10) hx hb hg inX1 hown hKn.1 hP (c1) (x_at1 (c := c1) h1) rfl 1 (Nat.le_of_ble_eq_true rfl) (nest_use hKn.2.2 nkF_X2_56) (fun _ h9 => h9) rfl dX2_toldAlready_29 ?_
    refine lv_if_le (tgt := 39) hx hb dX2_toldAlready_32 (by decide) (fun c_4 => ?_) (fun c_4 => ?_)
    · have h := ife_t c_4 h
      refine lv_iconst (v := 0) hx hb dX2_toldAlready_39 (by decide) ?_
      exact W.zret (v := 0) hx hb hr rfl (fun t ht hW => ⟨⟨0, M, rfl, ⟨Option.some.inj h, rfl⟩, by rw [ht]; exact hP, x_KnW hKn t hW⟩, hS.F ht⟩) hS.2.2 dX2_toldAlready_40
    · have h := ife_f c_4 h
      refine lv_iconst (v := 1) hx hb dX2_toldAlready_35 (by decide) ?_
      refine lv_goto (tgt := 40) hx hb dX2_toldAlready_36 (by decide) ?_
      exact W.zret (v := 1) hx hb hr rfl (fun t ht hW => ⟨⟨1, M, rfl, ⟨Option.some.inj h, rfl⟩, by rw [ht]; exact hP, x_KnW hKn t hW⟩, hS.F ht⟩) hS.2.2 dX2_toldAlready_40
  have h := ife_f c_3 h
  refine lv_lookup (off := 55) (tgt := 56) hx hb dX2_toldAlready_1 (by decide) (by show Op.lookupswitch.offset [(102, 40), (114, 27)] 55 _ = _; rw [lv_osw c_1 (by decide), lv_osw c_3 (by decide)]; rfl) (by decide) ?_
  refine lv_aload_n hx hb dX2_toldAlready_56 rfl (lv_at hl 0 rfl) ?_
  refine va_get (D := (dC, dI)) (ci := 2) (v := .int ((M 1 6))) (C := RX2) (T := TX2) (N := 7) hx hb hg inX2 hown hKn.1 hP (1) (x_at2 (c := 1) (by decide)) rfl 6 (Nat.le_of_ble_eq_true rfl) (hg _ lkF_X2_37) (fun _ h9 => h9) rfl dX2_toldAlready_57 ?_
  obtain ⟨hbo, h⟩ := if_use h
  exact W.zret (v := (M 1 6)) hx hb hr (narrow_b01 hbo) (fun t ht hW => ⟨⟨(M 1 6), M, rfl, ⟨Option.some.inj h, rfl⟩, by rw [ht]; exact hP, x_KnW hKn t hW⟩, hS.F ht⟩) hS.2.2 dX2_toldAlready_60
noncomputable def FX2_readFactOf (c1 : Nat) (M : (Nat → Nat → Int32)) : Option (Nat → Nat → Int32) :=
  bd (FX2_readNumber 0 ((M c1 1) - 1) M) (fun (r_1 : Int32) (M_2 : (Nat → Nat → Int32)) => bo (FX7_put (c1 + 2) (M c1 2) r_1 M_2) (fun (M_3 : (Nat → Nat → Int32)) => bd (FX2_readNumber 0 18 M_3) (fun (r_4 : Int32) (M_5 : (Nat → Nat → Int32)) => bo (FX7_put (c1 + 3) (M c1 2) (r_4 - 9) M_5) (fun (M_6 : (Nat → Nat → Int32)) => bd (FX2_readNumber 0 9 M_6) (fun (r_7 : Int32) (M_8 : (Nat → Nat → Int32)) => jn (fun (M_9 : (Nat → Nat → Int32)) => jn (fun (s_10 : Int32) => bo (FX7_put (c1 + 4) (M c1 2) s_10 M_9) (fun (M_11 : (Nat → Nat → Int32)) => bd (FX2_readNumber 0 20 M_11) (fun (r_12 : Int32) (M_13 : (Nat → Nat → Int32)) => bo (FX7_put (c1 + 5) (M c1 2) r_12 M_13) (fun (M_14 : (Nat → Nat → Int32)) => bd (FX2_readNumber 0 9 M_14) (fun (r_15 : Int32) (M_16 : (Nat → Nat → Int32)) => bo (FX7_put (c1 + 6) (M c1 2) r_15 M_16) (fun (M_17 : (Nat → Nat → Int32)) => some (upd2 M_17 c1 2 ((M_17 c1 2) + 1)))))))) (fun J89 => (if r_7 = 9 then J89 (-1) else J89 r_7))) (fun J73 => (if r_7 = 9 then J73 M_8 else bo (FX1_hasOpinion c1 r_7 M_8) (fun (r_20 : Int32) => (if r_20 = 0 then bo (FX2_mark 2 (M_8 1 3) M_8) (fun (M_22 : (Nat → Nat → Int32)) => J73 M_22) else J73 M_8)))))))))
set_option maxHeartbeats 4000000 in
set_option maxRecDepth 100000 in
theorem tX2_readFactOf (l : Launch) (dC : Nat → ClassId) (dI : Nat → Nat → Nat) (kI : ClassId) (ad : Nat → Nat) (c1 : Nat) (M : (Nat → Nat → Int32)) (h1 : x_is1 c1) {M0 : (Nat → Nat → Int32)} (h : FX2_readFactOf c1 M = some M0) : Met l yX2_readFactOf (wsA yX2_readFactOf cX2_readFactOf 4 none) ({ frames := 4, cells := 0, slots := 0, locals := 86 } : Room) (va_Pc [.ref (ad (1)), .ref (ad (c1))] (gI (x_Wd dC dI kI ad) (x_Kn dC dI kI ad) M)) (va_Qv (fun (u : (Nat → Nat → Int32)) => u = M0) (gI (x_Wd dC dI kI ad) (x_Kn dC dI kI ad)) (x_A ad)) 0 0 (x_A ad) := by
  refine Met.ofW (cc := cX2_readFactOf) (maxL := 4) (ret := none) (by decide) rfl ?_
  intro p e s m args below meth c s₁ B hml hv
  obtain ⟨rfl, hP, hKn⟩ := hv
  have hx := B.exec
  have hb := B.bytes
  have hr := B.returns
  have hts := atoms_spec (ws := wsA yX2_readFactOf cX2_readFactOf 4 none) B.pre
  have hg : ∀ w ∈ lw_good, w.before _ s = true := fun w h => hts w (List.mem_cons_of_mem _ h)
  have hown : s.vm.findClass RX2 = some m.cls := findClass_of_methodNamed B.named
  have hlocks := B.notSynchronized
  have hS : va_S (x_A ad) s.heap s.heap [] := va_S.rf
  have hFx : gFix p c cX2_readFactOf 4 s m _ RX2 := ⟨hx, hb, hml, hown, hg⟩
  have hP : va_P (dC, dI) vwCl (x_w kI ad M) s.heap := hP
  have hl := lv_entry ([.ref (ad (1)), .ref (ad (c1))]) (n := 4) (Nat.le_of_ble_eq_true rfl)
  rw [lg_entry_eq]
  generalize (lg_sl ([.ref (ad (1)), .ref (ad (c1))]) ++ List.replicate (4 - (lg_sl ([.ref (ad (1)), .ref (ad (c1))])).length) Slot.unset).toArray = ls at hl ⊢
  have hl : lv_has ls 4 [(0, .ref (ad (1))), (1, .ref (ad (c1)))] := hl
  unfold FX2_readFactOf at h
  refine lv_aload_n hx hb dX2_readFactOf_0 rfl (lv_at hl 1 rfl) ?_
  refine va_getN (D := (dC, dI)) (ci := 1) (v := .int ((M c1 2))) (C := RX1) (T := TX1) (N := 10) hx hb hg inX1 hown hKn.1 hP (c1) (x_at1 (c := c1) h1) rfl 2 (Nat.le_of_ble_eq_true rfl) (nest_use hKn.2.2 nkF_X2_84) (fun _ h9 => h9) rfl dX2_readFactOf_1 ?_
  refine lv_istore_n (lv' := [(2, .int ((M c1 2))), (0, .ref (ad (1))), (1, .ref (ad (c1)))]) hx hb dX2_readFactOf_4 rfl hl (Nat.le_of_ble_eq_true rfl) rfl (fun ls hl => ?_)
  refine lv_aload_n hx hb dX2_readFactOf_5 rfl (lv_at hl 2 rfl) ?_
  refine va_getN (D := (dC, dI)) (ci := 1) (v := .ref (ad ((c1 + 2)))) (C := RX1) (T := TX1) (N := 10) hx hb hg inX1 hown hKn.1 hP (c1) (x_at1 (c := c1) h1) rfl 5 (Nat.le_of_ble_eq_true rfl) (nest_use hKn.2.2 nkF_X2_93) (fun _ h9 => h9) rfl dX2_readFactOf_6 ?_
  refine lv_iload_n hx hb dX2_readFactOf_9 rfl (lv_at hl 0 rfl) ?_
  refine lv_aload_n hx hb dX2_readFactOf_10 rfl (lv_at hl 1 rfl) ?_
  refine lv_iconst (v := 0) hx hb dX2_readFactOf_11 (by decide) ?_
  refine lv_aload_n hx hb dX2_readFactOf_12 rfl (lv_at hl 2 rfl) ?_
  refine va_getN (D := (dC, dI)) (ci := 1) (v := .int ((M c1 1))) (C := RX1) (T := TX1) (N := 10) hx hb hg inX1 hown hKn.1 hP (c1) (x_at1 (c := c1) h1) rfl 1 (Nat.le_of_ble_eq_true rfl) (nest_use hKn.2.2 nkF_X2_56) (fun _ h9 => h9) rfl dX2_readFactOf_13 ?_
  refine lv_iconst (v := 1) hx hb dX2_readFactOf_16 (by decide) ?_
  refine lv_isub hx hb dX2_readFactOf_17 ?_
  obtain ⟨r_1, M_2, e18, h⟩ := bd_use h
  refine gc_i (va_runV (As := [.int (0), .int (((M c1 1) - 1))]) (rest := [.int ((M c1 2)), .ref (ad ((c1 + 2)))]) hFx (tX2_readNumber l dC dI kI ad 0 ((M c1 1) - 1) M  e18) ⟨(gc_B hFx ck_yX2_readNumber lkM_X2_73 ⟨Nat.le_of_ble_eq_true rfl, Nat.le_of_ble_eq_true rfl⟩ rfl rfl), hg _ vi_yX2_readNumber, hg _ vs_yX2_readNumber⟩ (gp_V x_KnB (x_KnW hKn) hP (x_rc2 (c := 1) (by decide) hKn hP)) rfl rfl hl.1 rfl (lv_room (Nat.le_of_ble_eq_true rfl)) dX2_readFactOf_18 ⟨Nat.zero_le _, Nat.zero_le _⟩) hS (fun H locs hP hS => ?_)
  have hP : va_P (dC, dI) vwCl (x_w kI ad M_2) H := hP
  obtain ⟨M_3, e21, h⟩ := bo_use h
  refine gc_v (va_runSN (As := [.ref (ad ((c1 + 2))), .int ((M c1 2)), .int (r_1)]) (rest := []) hFx (tX7_put l dC dI kI ad (c1 + 2) (M c1 2) r_1 M_2 (x_ar1_2 h1) e21) ⟨(gc_N hFx hKn.2.2 ck_yX7_put nkM_X2_25 ⟨Nat.le_of_ble_eq_true rfl, Nat.le_of_ble_eq_true rfl⟩ rfl rfl), hg _ st_yX7_put, trivial⟩ (gp_S x_KnB (x_KnW hKn) hP) rfl rfl hl.1 rfl (lv_room (Nat.le_of_ble_eq_true rfl)) dX2_readFactOf_21 ⟨Nat.zero_le _, Nat.zero_le _⟩) hS (fun H locs hP hS => ?_)
  have hP : va_P (dC, dI) vwCl (x_w kI ad M_3) H := hP
  refine lv_aload_n hx hb dX2_readFactOf_24 rfl (lv_at hl 2 rfl) ?_
  refine va_getN (D := (dC, dI)) (ci := 1) (v := .ref (ad ((c1 + 3)))) (C := RX1) (T := TX1) (N := 10) hx hb hg inX1 hown hKn.1 hP (c1) (x_at1 (c := c1) h1) rfl 6 (Nat.le_of_ble_eq_true rfl) (nest_use hKn.2.2 nkF_X2_96) (fun _ h9 => h9) rfl dX2_readFactOf_25 ?_
  refine lv_iload_n hx hb dX2_readFactOf_28 rfl (lv_at hl 0 rfl) ?_
  refine lv_aload_n hx hb dX2_readFactOf_29 rfl (lv_at hl 1 rfl) ?_
  refine lv_iconst (v := 0) hx hb dX2_readFactOf_30 (by decide) ?_
  refine lv_bipush (v := 18) hx hb dX2_readFactOf_31 (by decide) ?_
  obtain ⟨r_4, M_5, e33, h⟩ := bd_use h
  refine gc_i (va_runV (As := [.int (0), .int (18)]) (rest := [.int ((M c1 2)), .ref (ad ((c1 + 3)))]) hFx (tX2_readNumber l dC dI kI ad 0 18 M_3  e33) ⟨(gc_B hFx ck_yX2_readNumber lkM_X2_73 ⟨Nat.le_of_ble_eq_true rfl, Nat.le_of_ble_eq_true rfl⟩ rfl rfl), hg _ vi_yX2_readNumber, hg _ vs_yX2_readNumber⟩ (gp_V x_KnB (x_KnW hKn) hP (x_rc2 (c := 1) (by decide) hKn hP)) rfl rfl hl.1 rfl (lv_room (Nat.le_of_ble_eq_true rfl)) dX2_readFactOf_33 ⟨Nat.zero_le _, Nat.zero_le _⟩) hS (fun H locs hP hS => ?_)
  have hP : va_P (dC, dI) vwCl (x_w kI ad M_5) H := hP
  refine lv_bipush (v := 9) hx hb dX2_readFactOf_36 (by decide) ?_
  refine lv_isub hx hb dX2_readFactOf_38 ?_
  obtain ⟨M_6, e39, h⟩ := bo_use h
  refine gc_v (va_runSN (As := [.ref (ad ((c1 + 3))), .int ((M c1 2)), .int ((r_4 - 9))]) (rest := []) hFx (tX7_put l dC dI kI ad (c1 + 3) (M c1 2) (r_4 - 9) M_5 (x_ar1_3 h1) e39) ⟨(gc_N hFx hKn.2.2 ck_yX7_put nkM_X2_25 ⟨Nat.le_of_ble_eq_true rfl, Nat.le_of_ble_eq_true rfl⟩ rfl rfl), hg _ st_yX7_put, trivial⟩ (gp_S x_KnB (x_KnW hKn) hP) rfl rfl hl.1 rfl (lv_room (Nat.le_of_ble_eq_true rfl)) dX2_readFactOf_39 ⟨Nat.zero_le _, Nat.zero_le _⟩) hS (fun H locs hP hS => ?_)
  have hP : va_P (dC, dI) vwCl (x_w kI ad M_6) H := hP
  refine lv_aload_n hx hb dX2_readFactOf_42 rfl (lv_at hl 1 rfl) ?_
  refine lv_iconst (v := 0) hx hb dX2_readFactOf_43 (by decide) ?_
  refine lv_bipush (v := 9) hx hb dX2_readFactOf_44 (by decide) ?_
  obtain ⟨r_7, M_8, e46, h⟩ := bd_use h
  refine gc_i (va_runV (As := [.int (0), .int (9)]) (rest := []) hFx (tX2_readNumber l dC dI kI ad 0 9 M_6  e46) ⟨(gc_B hFx ck_yX2_readNumber lkM_X2_73 ⟨Nat.le_of_ble_eq_true rfl, Nat.le_of_ble_eq_true rfl⟩ rfl rfl), hg _ vi_yX2_readNumber, hg _ vs_yX2_readNumber⟩ (gp_V x_KnB (x_KnW hKn) hP (x_rc2 (c := 1) (by decide) hKn hP)) rfl rfl hl.1 rfl (lv_room (Nat.le_of_ble_eq_true rfl)) dX2_readFactOf_46 ⟨Nat.zero_le _, Nat.zero_le _⟩) hS (fun H locs hP hS => ?_)
  have hP : va_P (dC, dI) vwCl (x_w kI ad M_8) H := hP
  refine lv_istore_n (lv' := [(3, .int (r_7)), (2, .int ((M c1 2))), (0, .ref (ad (1))), (1, .ref (ad (c1)))]) hx hb dX2_readFactOf_49 rfl hl (Nat.le_of_ble_eq_true rfl) rfl (fun ls hl => ?_)
  refine lv_iload_n hx hb dX2_readFactOf_50 rfl (lv_at hl 0 rfl) ?_
  refine lv_bipush (v := 9) hx hb dX2_readFactOf_51 (by decide) ?_
  obtain ⟨J73, eJ73, h⟩ := jn_use h
  have hJ73 : ∀ (M_9 : (Nat → Nat → Int32)) (H : Heap) (locs : List Loc) (ls : Array Slot), va_P (dC, dI) vwCl (x_w kI ad M_9) H → va_S (x_A ad) s.heap H locs → lv_has ls 4 [(3, .int (r_7)), (2, .int ((M c1 2))), (0, .ref (ad (1))), (1, .ref (ad (c1)))] → J73 M_9 = some M0 → W p l e (headSpec (wsA yX2_readFactOf cX2_readFactOf 4 none) ({ frames := 4, cells := 0, slots := 0, locals := 86 } : Room)).room s m (([.ref (ad (1)), .ref (ad (c1))] : List Value).toArray) below meth c H locs 0 0 (MQ below (va_Qv (fun (u : (Nat → Nat → Int32)) => u = M0) (gI (x_Wd dC dI kI ad) (x_Kn dC dI kI ad)) (x_A ad)) (([.ref (ad (1)), .ref (ad (c1))] : List Value).toArray) s 0 0 (x_A ad)) (F0 m 73 ls []) := by
    intro M_9 H locs ls hP hS hl h
    have h := useK1 eJ73 h
    refine lv_aload_n hx hb dX2_readFactOf_73 rfl (lv_at hl 3 rfl) ?_
    refine va_getN (D := (dC, dI)) (ci := 1) (v := .ref (ad ((c1 + 4)))) (C := RX1) (T := TX1) (N := 10) hx hb hg inX1 hown hKn.1 hP (c1) (x_at1 (c := c1) h1) rfl 7 (Nat.le_of_ble_eq_true rfl) (nest_use hKn.2.2 nkF_X2_105) (fun _ h9 => h9) rfl dX2_readFactOf_74 ?_
    refine lv_iload_n hx hb dX2_readFactOf_77 rfl (lv_at hl 1 rfl) ?_
    refine lv_iload_n hx hb dX2_readFactOf_78 rfl (lv_at hl 0 rfl) ?_
    refine lv_bipush (v := 9) hx hb dX2_readFactOf_79 (by decide) ?_
    obtain ⟨J89, eJ89, h⟩ := jn_use h
    have hJ89 : ∀ (s_10 : Int32) (H : Heap) (locs : List Loc) (ls : Array Slot), va_P (dC, dI) vwCl (x_w kI ad M_9) H → va_S (x_A ad) s.heap H locs → lv_has ls 4 [(2, .int ((M c1 2))), (0, .ref (ad (1))), (1, .ref (ad (c1)))] → J89 s_10 = some M0 → W p l e (headSpec (wsA yX2_readFactOf cX2_readFactOf 4 none) ({ frames := 4, cells := 0, slots := 0, locals := 86 } : Room)).room s m (([.ref (ad (1)), .ref (ad (c1))] : List Value).toArray) below meth c H locs 0 0 (MQ below (va_Qv (fun (u : (Nat → Nat → Int32)) => u = M0) (gI (x_Wd dC dI kI ad) (x_Kn dC dI kI ad)) (x_A ad)) (([.ref (ad (1)), .ref (ad (c1))] : List Value).toArray) s 0 0 (x_A ad)) (F0 m 89 ls [.int (s_10), .int ((M c1 2)), .ref (ad ((c1 + 4)))]) := by
      intro s_10 H locs ls hP hS hl h
      have h := useK1 eJ89 h
      obtain ⟨M_11, e89, h⟩ := bo_use h
      refine gc_v (va_runSN (As := [.ref (ad ((c1 + 4))), .int ((M c1 2)), .int (s_10)]) (rest := []) hFx (tX7_put l dC dI kI ad (c1 + 4) (M c1 2) s_10 M_9 (x_ar1_4 h1) e89) ⟨(gc_N hFx hKn.2.2 ck_yX7_put nkM_X2_25 ⟨Nat.le_of_ble_eq_true rfl, Nat.le_of_ble_eq_true rfl⟩ rfl rfl), hg _ st_yX7_put, trivial⟩ (gp_S x_KnB (x_KnW hKn) hP) rfl rfl hl.1 rfl (lv_room (Nat.le_of_ble_eq_true rfl)) dX2_readFactOf_89 ⟨Nat.zero_le _, Nat.zero_le _⟩) hS (fun H locs hP hS => ?_)
      have hP : va_P (dC, dI) vwCl (x_w kI ad M_11) H := hP
      refine lv_aload_n hx hb dX2_readFactOf_92 rfl (lv_at hl 2 rfl) ?_
      refine va_getN (D := (dC, dI)) (ci := 1) (v := .ref (ad ((c1 + 5)))) (C := RX1) (T := TX1) (N := 10) hx hb hg inX1 hown hKn.1 hP (c1) (x_at1 (c := c1) h1) rfl 8 (Nat.le_of_ble_eq_true rfl) (nest_use hKn.2.2 nkF_X2_108) (fun _ h9 => h9) rfl dX2_readFactOf_93 ?_
      refine lv_iload_n hx hb dX2_readFactOf_96 rfl (lv_at hl 0 rfl) ?_
      refine lv_aload_n hx hb dX2_readFactOf_97 rfl (lv_at hl 1 rfl) ?_
      refine lv_iconst (v := 0) hx hb dX2_readFactOf_98 (by decide) ?_
      refine lv_bipush (v := 20) hx hb dX2_readFactOf_99 (by decide) ?_
      obtain ⟨r_12, M_13, e101, h⟩ := bd_use h
      refine gc_i (va_runV (As := [.int (0), .int (20)]) (rest := [.int ((M c1 2)), .ref (ad ((c1 + 5)))]) hFx (tX2_readNumber l dC dI kI ad 0 20 M_11  e101) ⟨(gc_B hFx ck_yX2_readNumber lkM_X2_73 ⟨Nat.le_of_ble_eq_true rfl, Nat.le_of_ble_eq_true rfl⟩ rfl rfl), hg _ vi_yX2_readNumber, hg _ vs_yX2_readNumber⟩ (gp_V x_KnB (x_KnW hKn) hP (x_rc2 (c := 1) (by decide) hKn hP)) rfl rfl hl.1 rfl (lv_room (Nat.le_of_ble_eq_true rfl)) dX2_readFactOf_101 ⟨Nat.zero_le _, Nat.zero_le _⟩) hS (fun H locs hP hS => ?_)
      have hP : va_P (dC, dI) vwCl (x_w kI ad M_13) H := hP
      obtain ⟨M_14, e104, h⟩ := bo_use h
      refine gc_v (va_runSN (As := [.ref (ad ((c1 + 5))), .int ((M c1 2)), .int (r_12)]) (rest := []) hFx (tX7_put l dC dI kI ad (c1 + 5) (M c1 2) r_12 M_13 (x_ar1_5 h1) e104) ⟨(gc_N hFx hKn.2.2 ck_yX7_put nkM_X2_25 ⟨Nat.le_of_ble_eq_true rfl, Nat.le_of_ble_eq_true rfl⟩ rfl rfl), hg _ st_yX7_put, trivial⟩ (gp_S x_KnB (x_KnW hKn) hP) rfl rfl hl.1 rfl (lv_room (Nat.le_of_ble_eq_true rfl)) dX2_readFactOf_104 ⟨Nat.zero_le _, Nat.zero_le _⟩) hS (fun H locs hP hS => ?_)
      have hP : va_P (dC, dI) vwCl (x_w kI ad M_14) H := hP
      refine lv_aload_n hx hb dX2_readFactOf_107 rfl (lv_at hl 2 rfl) ?_
      refine va_getN (D := (dC, dI)) (ci := 1) (v := .ref (ad ((c1 + 6)))) (C := RX1) (T := TX1) (N := 10) hx hb hg inX1 hown hKn.1 hP (c1) (x_at1 (c := c1) h1) rfl 9 (Nat.le_of_ble_eq_true rfl) (nest_use hKn.2.2 nkF_X2_111) (fun _ h9 => h9) rfl dX2_readFactOf_108 ?_
      refine lv_iload_n hx hb dX2_readFactOf_111 rfl (lv_at hl 0 rfl) ?_
      refine lv_aload_n hx hb dX2_readFactOf_112 rfl (lv_at hl 1 rfl) ?_
      refine lv_iconst (v := 0) hx hb dX2_readFactOf_113 (by decide) ?_
      refine lv_bipush (v := 9) hx hb dX2_readFactOf_114 (by decide) ?_
      obtain ⟨r_15, M_16, e116, h⟩ := bd_use h
      refine gc_i (va_runV (As := [.int (0), .int (9)]) (rest := [.int ((M c1 2)), .ref (ad ((c1 + 6)))]) hFx (tX2_readNumber l dC dI kI ad 0 9 M_14  e116) ⟨(gc_B hFx ck_yX2_readNumber lkM_X2_73 ⟨Nat.le_of_ble_eq_true rfl, Nat.le_of_ble_eq_true rfl⟩ rfl rfl), hg _ vi_yX2_readNumber, hg _ vs_yX2_readNumber⟩ (gp_V x_KnB (x_KnW hKn) hP (x_rc2 (c := 1) (by decide) hKn hP)) rfl rfl hl.1 rfl (lv_room (Nat.le_of_ble_eq_true rfl)) dX2_readFactOf_116 ⟨Nat.zero_le _, Nat.zero_le _⟩) hS (fun H locs hP hS => ?_)
      have hP : va_P (dC, dI) vwCl (x_w kI ad M_16) H := hP
      obtain ⟨M_17, e119, h⟩ := bo_use h
      refine gc_v (va_runSN (As := [.ref (ad ((c1 + 6))), .int ((M c1 2)), .int (r_15)]) (rest := []) hFx (tX7_put l dC dI kI ad (c1 + 6) (M c1 2) r_15 M_16 (x_ar1_6 h1) e119) ⟨(gc_N hFx hKn.2.2 ck_yX7_put nkM_X2_25 ⟨Nat.le_of_ble_eq_true rfl, Nat.le_of_ble_eq_true rfl⟩ rfl rfl), hg _ st_yX7_put, trivial⟩ (gp_S x_KnB (x_KnW hKn) hP) rfl rfl hl.1 rfl (lv_room (Nat.le_of_ble_eq_true rfl)) dX2_readFactOf_119 ⟨Nat.zero_le _, Nat.zero_le _⟩) hS (fun H locs hP hS => ?_)
      have hP : va_P (dC, dI) vwCl (x_w kI ad M_17) H := hP
      refine lv_aload_n hx hb dX2_readFactOf_122 rfl (lv_at hl 2 rfl) ?_
      refine lv_dup hx hb dX2_readFactOf_123 rfl ?_
      refine va_getN (D := (dC, dI)) (ci := 1) (v := .int ((M_17 c1 2))) (C := RX1) (T := TX1) (N := 10) hx hb hg inX1 hown hKn.1 hP (c1) (x_at1 (c := c1) h1) rfl 2 (Nat.le_of_ble_eq_true rfl) (nest_use hKn.2.2 nkF_X2_84) (fun _ h9 => h9) rfl dX2_readFactOf_124 ?_
      refine lv_iconst (v := 1) hx hb dX2_readFactOf_127 (by decide) ?_
      refine lv_iadd hx hb dX2_readFactOf_128 ?_
      refine va_putN (D := (dC, dI)) (ci := 1) (v := .int (((M_17 c1 2) + 1))) (ty := .int) (C := RX1) (T := TX1) (N := 10) hx hb hg inX1 tyX1 tyX1_ok nmX1 hown hKn.1 hP (x_D hKn.2.1) hS (c1) (x_at1 (c := c1) h1) rfl 2 (Nat.le_of_ble_eq_true rfl) (nest_use hKn.2.2 nkF_X2_84) (fun _ h9 => h9) rfl (by decide +kernel) rfl rfl (Nat.le_of_ble_eq_true rfl) dX2_readFactOf_129 (fun H locs hP _ hS => ?_)
      have hP : va_P (dC, dI) vwCl (x_w kI ad (upd2 M_17 c1 2 ((M_17 c1 2) + 1))) H := vp_eq (x_put1_2 h1 _) hP
      exact W.vret hx hb hr (fun t ht hW => ⟨⟨upd2 M_17 c1 2 ((M_17 c1 2) + 1), rfl, Option.some.inj h, by rw [ht]; exact hP, x_KnW hKn t hW⟩, hS.F ht⟩) hS.2.2 dX2_readFactOf_132
    refine lv_icmp_ne (tgt := 88) hx hb dX2_readFactOf_81 (by decide) (fun c_18 => ?_) (fun c_18 => ?_)
    · have h := ife_f c_18 h
      refine lv_iload_n hx hb dX2_readFactOf_88 rfl (lv_at hl 0 rfl) ?_
      exact hJ89 r_7 _ _ _ hP hS (lv_sub hl [1, 2, 3] rfl) h
    · have h := ife_t c_18 h
      refine lv_iconst (v := -1) hx hb dX2_readFactOf_84 (by decide) ?_
      refine lv_goto (tgt := 89) hx hb dX2_readFactOf_85 (by decide) ?_
      exact hJ89 (-1) _ _ _ hP hS (lv_sub hl [1, 2, 3] rfl) h
  refine lv_icmp_eq (tgt := 73) hx hb dX2_readFactOf_53 (by decide) (fun c_19 => ?_) (fun c_19 => ?_)
  · have h := ife_t c_19 h
    exact hJ73 M_8 _ _ _ hP hS (lv_sub hl [0, 1, 2, 3] rfl) h
  · have h := ife_f c_19 h
    refine lv_aload_n hx hb dX2_readFactOf_56 rfl (lv_at hl 3 rfl) ?_
    refine lv_iload_n hx hb dX2_readFactOf_57 rfl (lv_at hl 0 rfl) ?_
    obtain ⟨r_20, e58, h⟩ := bo_use h
    refine gc_i (va_runVN (As := [.int (r_7)]) (rest := []) hFx (tX1_hasOpinion l dC dI kI ad c1 r_7 M_8 h1 e58) ⟨(gc_N hFx hKn.2.2 ck_yX1_hasOpinion nkM_X2_99 ⟨Nat.le_of_ble_eq_true rfl, Nat.le_of_ble_eq_true rfl⟩ rfl rfl), hg _ vi_yX1_hasOpinion, hg _ vs_yX1_hasOpinion⟩ (gp_V x_KnB (x_KnW hKn) hP (x_rc1 (c := c1) h1 hKn hP)) rfl rfl hl.1 rfl (lv_room (Nat.le_of_ble_eq_true rfl)) dX2_readFactOf_58 ⟨Nat.zero_le _, Nat.zero_le _⟩) hS (fun H locs hP hS => ?_)
    have hP : va_P (dC, dI) vwCl (x_w kI ad M_8) H := hP
    refine lv_if_ne (tgt := 73) hx hb dX2_readFactOf_61 (by decide) (fun c_21 => ?_) (fun c_21 => ?_)
    · have h := ife_f c_21 h
      exact hJ73 M_8 _ _ _ hP hS (lv_sub hl [0, 1, 2, 3] rfl) h
    · have h := ife_t c_21 h
      refine lv_aload_n hx hb dX2_readFactOf_64 rfl (lv_at hl 2 rfl) ?_
      refine lv_iconst (v := 2) hx hb dX2_readFactOf_65 (by decide) ?_
      refine lv_aload_n hx hb dX2_readFactOf_66 rfl (lv_at hl 2 rfl) ?_
      refine va_get (D := (dC, dI)) (ci := 2) (v := .int ((M_8 1 3))) (C := RX2) (T := TX2) (N := 7) hx hb hg inX2 hown hKn.1 hP (1) (x_at2 (c := 1) (by decide)) rfl 3 (Nat.le_of_ble_eq_true rfl) (hg _ lkF_X2_102) (fun _ h9 => h9) rfl dX2_readFactOf_67 ?_
      obtain ⟨M_22, e70, h⟩ := bo_use h
      refine gc_v (va_runV (As := [.int (2), .int ((M_8 1 3))]) (rest := []) hFx (tX2_mark l dC dI kI ad 2 (M_8 1 3) M_8  e70) ⟨(gc_B hFx ck_yX2_mark lkM_X2_59 ⟨Nat.le_of_ble_eq_true rfl, Nat.le_of_ble_eq_true rfl⟩ rfl rfl), hg _ vi_yX2_mark, hg _ vs_yX2_mark⟩ (gp_V x_KnB (x_KnW hKn) hP (x_rc2 (c := 1) (by decide) hKn hP)) rfl rfl hl.1 rfl (lv_room (Nat.le_of_ble_eq_true rfl)) dX2_readFactOf_70 ⟨Nat.zero_le _, Nat.zero_le _⟩) hS (fun H locs hP hS => ?_)
      have hP : va_P (dC, dI) vwCl (x_w kI ad M_22) H := hP
      exact hJ73 M_22 _ _ _ hP hS (lv_sub hl [0, 1, 2, 3] rfl) h
noncomputable def FX2_readClause (c1 : Nat) (M : (Nat → Nat → Int32)) : Option (Nat → Nat → Int32) :=
  bo (FX2_next  M) (fun (r_1 : Int32) => jn (bo (FX2_toldAlready c1 r_1 M) (fun (r_2 : Int32) => (if r_2 = 0 then jn (fun (M_4 : (Nat → Nat → Int32)) => bd (FX2_takes 59 M_4) (fun (r_5 : Int32) (M_6 : (Nat → Nat → Int32)) => (if r_5 = 0 then bo (FX2_mark 1 (M_6 1 2) M_6) (fun (M_8 : (Nat → Nat → Int32)) => some M_8) else some M_6))) (fun J128 => (if r_1 = 102 then bo (FX2_readFactOf c1 (upd2 M 1 2 ((M 1 2) + 1))) (fun (M_10 : (Nat → Nat → Int32)) => J128 M_10) else (if r_1 = 114 then bo (FX2_readReader c1 (upd2 M 1 2 ((M 1 2) + 1))) (fun (M_12 : (Nat → Nat → Int32)) => J128 M_12) else bd (FX2_readNumber 1 20 (upd2 M 1 2 ((M 1 2) + 1))) (fun (r_13 : Int32) (M_14 : (Nat → Nat → Int32)) => J128 (upd2 (upd2 M_14 c1 3 r_13) 1 6 1))))) else bo (FX2_mark 3 (M 1 2) M) (fun (M_15 : (Nat → Nat → Int32)) => some M_15)))) (fun J40 => (if r_1 = 114 then J40 else jn (bo (FX2_mark 1 (M 1 2) M) (fun (M_17 : (Nat → Nat → Int32)) => some M_17)) (fun J30 => (if (M c1 1) = 0 then J30 else (if r_1 = 102 then J40 else (if r_1 = 104 then J40 else J30)))))))
set_option maxHeartbeats 4000000 in
set_option maxRecDepth 100000 in
theorem tX2_readClause (l : Launch) (dC : Nat → ClassId) (dI : Nat → Nat → Nat) (kI : ClassId) (ad : Nat → Nat) (c1 : Nat) (M : (Nat → Nat → Int32)) (h1 : x_is1 c1) {M0 : (Nat → Nat → Int32)} (h : FX2_readClause c1 M = some M0) : Met l yX2_readClause (wsA yX2_readClause cX2_readClause 3 none) ({ frames := 5, cells := 0, slots := 0, locals := 109 } : Room) (va_Pc [.ref (ad (1)), .ref (ad (c1))] (gI (x_Wd dC dI kI ad) (x_Kn dC dI kI ad) M)) (va_Qv (fun (u : (Nat → Nat → Int32)) => u = M0) (gI (x_Wd dC dI kI ad) (x_Kn dC dI kI ad)) (x_A ad)) 0 0 (x_A ad) := by
  refine Met.ofW (cc := cX2_readClause) (maxL := 3) (ret := none) (by decide) rfl ?_
  intro p e s m args below meth c s₁ B hml hv
  obtain ⟨rfl, hP, hKn⟩ := hv
  have hx := B.exec
  have hb := B.bytes
  have hr := B.returns
  have hts := atoms_spec (ws := wsA yX2_readClause cX2_readClause 3 none) B.pre
  have hg : ∀ w ∈ lw_good, w.before _ s = true := fun w h => hts w (List.mem_cons_of_mem _ h)
  have hown : s.vm.findClass RX2 = some m.cls := findClass_of_methodNamed B.named
  have hlocks := B.notSynchronized
  have hS : va_S (x_A ad) s.heap s.heap [] := va_S.rf
  have hFx : gFix p c cX2_readClause 3 s m _ RX2 := ⟨hx, hb, hml, hown, hg⟩
  have hP : va_P (dC, dI) vwCl (x_w kI ad M) s.heap := hP
  have hl := lv_entry ([.ref (ad (1)), .ref (ad (c1))]) (n := 3) (Nat.le_of_ble_eq_true rfl)
  rw [lg_entry_eq]
  generalize (lg_sl ([.ref (ad (1)), .ref (ad (c1))]) ++ List.replicate (3 - (lg_sl ([.ref (ad (1)), .ref (ad (c1))])).length) Slot.unset).toArray = ls at hl ⊢
  have hl : lv_has ls 3 [(0, .ref (ad (1))), (1, .ref (ad (c1)))] := hl
  unfold FX2_readClause at h
  refine lv_aload_n hx hb dX2_readClause_0 rfl (lv_at hl 0 rfl) ?_
  obtain ⟨r_1, e1, h⟩ := bo_use h
  refine gc_i (va_runV (As := []) (rest := []) hFx (tX2_next l dC dI kI ad  M  e1) ⟨(gc_B hFx ck_yX2_next lkM_X2_44 ⟨Nat.le_of_ble_eq_true rfl, Nat.le_of_ble_eq_true rfl⟩ rfl rfl), hg _ vi_yX2_next, hg _ vs_yX2_next⟩ (gp_V x_KnB (x_KnW hKn) hP (x_rc2 (c := 1) (by decide) hKn hP)) rfl rfl hl.1 rfl (lv_room (Nat.le_of_ble_eq_true rfl)) dX2_readClause_1 ⟨Nat.zero_le _, Nat.zero_le _⟩) hS (fun H locs hP hS => ?_)
  have hP : va_P (dC, dI) vwCl (x_w kI ad M) H := hP
  refine lv_istore_n (lv' := [(2, .int (r_1)), (0, .ref (ad (1))), (1, .ref (ad (c1)))]) hx hb dX2_readClause_4 rfl hl (Nat.le_of_ble_eq_true rfl) rfl (fun ls hl => ?_)
  refine lv_iload_n hx hb dX2_readClause_5 rfl (lv_at hl 0 rfl) ?_
  refine lv_bipush (v := 114) hx hb dX2_readClause_6 (by decide) ?_
  obtain ⟨J40, eJ40, h⟩ := jn_use h
  have hJ40 : ∀  (H : Heap) (locs : List Loc) (ls : Array Slot), va_P (dC, dI) vwCl (x_w kI ad M) H → va_S (x_A ad) s.heap H locs → lv_has ls 3 [(2, .int (r_1)), (0, .ref (ad (1))), (1, .ref (ad (c1)))] → J40  = some M0 → W p l e (headSpec (wsA yX2_readClause cX2_readClause 3 none) ({ frames := 5, cells := 0, slots := 0, locals := 109 } : Room)).room s m (([.ref (ad (1)), .ref (ad (c1))] : List Value).toArray) below meth c H locs 0 0 (MQ below (va_Qv (fun (u : (Nat → Nat → Int32)) => u = M0) (gI (x_Wd dC dI kI ad) (x_Kn dC dI kI ad)) (x_A ad)) (([.ref (ad (1)), .ref (ad (c1))] : List Value).toArray) s 0 0 (x_A ad)) (F0 m 40 ls []) := by
    intro  H locs ls hP hS hl h
    have h := useK0 eJ40 h
    refine lv_aload_n hx hb dX2_readClause_40 rfl (lv_at hl 1 rfl) ?_
    refine lv_aload_n hx hb dX2_readClause_41 rfl (lv_at hl 2 rfl) ?_
    refine lv_iload_n hx hb dX2_readClause_42 rfl (lv_at hl 0 rfl) ?_
    obtain ⟨r_2, e43, h⟩ := bo_use h
    refine gc_i (va_runV (As := [.ref (ad (c1)), .int (r_1)]) (rest := []) hFx (tX2_toldAlready l dC dI kI ad c1 r_1 M h1 e43) ⟨(gc_B hFx ck_yX2_toldAlready lkM_X2_63 ⟨Nat.le_of_ble_eq_true rfl, Nat.le_of_ble_eq_true rfl⟩ rfl rfl), hg _ vi_yX2_toldAlready, hg _ vs_yX2_toldAlready⟩ (gp_V x_KnB (x_KnW hKn) hP (x_rc2 (c := 1) (by decide) hKn hP)) rfl rfl hl.1 rfl (lv_room (Nat.le_of_ble_eq_true rfl)) dX2_readClause_43 ⟨Nat.zero_le _, Nat.zero_le _⟩) hS (fun H locs hP hS => ?_)
    have hP : va_P (dC, dI) vwCl (x_w kI ad M) H := hP
    refine lv_if_eq (tgt := 59) hx hb dX2_readClause_46 (by decide) (fun c_3 => ?_) (fun c_3 => ?_)
    · have h := ife_t c_3 h
      refine lv_aload_n hx hb dX2_readClause_59 rfl (lv_at hl 1 rfl) ?_
      refine lv_dup hx hb dX2_readClause_60 rfl ?_
      refine va_get (D := (dC, dI)) (ci := 2) (v := .int ((M 1 2))) (C := RX2) (T := TX2) (N := 7) hx hb hg inX2 hown hKn.1 hP (1) (x_at2 (c := 1) (by decide)) rfl 2 (Nat.le_of_ble_eq_true rfl) (hg _ lkF_X2_34) (fun _ h9 => h9) rfl dX2_readClause_61 ?_
      refine lv_iconst (v := 1) hx hb dX2_readClause_64 (by decide) ?_
      refine lv_iadd hx hb dX2_readClause_65 ?_
      refine va_put (D := (dC, dI)) (ci := 2) (v := .int (((M 1 2) + 1))) (ty := .int) (C := RX2) (T := TX2) (N := 7) hx hb hg inX2 tyX2 tyX2_ok nmX2 hown hKn.1 hP (x_D hKn.2.1) hS (1) (x_at2 (c := 1) (by decide)) rfl 2 (Nat.le_of_ble_eq_true rfl) (hg _ lkF_X2_34) (fun _ h9 => h9) rfl (by decide +kernel) rfl rfl (Nat.le_of_ble_eq_true rfl) dX2_readClause_66 (fun H locs hP _ hS => ?_)
      have hP : va_P (dC, dI) vwCl (x_w kI ad (upd2 M 1 2 ((M 1 2) + 1))) H := vp_eq (x_put2_2 (by decide) _) hP
      refine lv_iload_n hx hb dX2_readClause_69 rfl (lv_at hl 0 rfl) ?_
      obtain ⟨J128, eJ128, h⟩ := jn_use h
      have hJ128 : ∀ (M_4 : (Nat → Nat → Int32)) (H : Heap) (locs : List Loc) (ls : Array Slot), va_P (dC, dI) vwCl (x_w kI ad M_4) H → va_S (x_A ad) s.heap H locs → lv_has ls 3 [(0, .ref (ad (1)))] → J128 M_4 = some M0 → W p l e (headSpec (wsA yX2_readClause cX2_readClause 3 none) ({ frames := 5, cells := 0, slots := 0, locals := 109 } : Room)).room s m (([.ref (ad (1)), .ref (ad (c1))] : List Value).toArray) below meth c H locs 0 0 (MQ below (va_Qv (fun (u : (Nat → Nat → Int32)) => u = M0) (gI (x_Wd dC dI kI ad) (x_Kn dC dI kI ad)) (x_A ad)) (([.ref (ad (1)), .ref (ad (c1))] : List Value).toArray) s 0 0 (x_A ad)) (F0 m 128 ls []) := by
        intro M_4 H locs ls hP hS hl h
        have h := useK1 eJ128 h
        refine lv_aload_n hx hb dX2_readClause_128 rfl (lv_at hl 0 rfl) ?_
        refine lv_bipush (v := 59) hx hb dX2_readClause_129 (by decide) ?_
        obtain ⟨r_5, M_6, e131, h⟩ := bd_use h
        refine gc_i (va_runV (As := [.int (59)]) (rest := []) hFx (tX2_takes l dC dI kI ad 59 M_4  e131) ⟨(gc_B hFx ck_yX2_takes lkM_X2_80 ⟨Nat.le_of_ble_eq_true rfl, Nat.le_of_ble_eq_true rfl⟩ rfl rfl), hg _ vi_yX2_takes, hg _ vs_yX2_takes⟩ (gp_V x_KnB (x_KnW hKn) hP (x_rc2 (c := 1) (by decide) hKn hP)) rfl rfl hl.1 rfl (lv_room (Nat.le_of_ble_eq_true rfl)) dX2_readClause_131 ⟨Nat.zero_le _, Nat.zero_le _⟩) hS (fun H locs hP hS => ?_)
        have hP : va_P (dC, dI) vwCl (x_w kI ad M_6) H := hP
        refine lv_if_ne (tgt := 146) hx hb dX2_readClause_134 (by decide) (fun c_7 => ?_) (fun c_7 => ?_)
        · have h := ife_f c_7 h
          exact W.vret hx hb hr (fun t ht hW => ⟨⟨M_6, rfl, Option.some.inj h, by rw [ht]; exact hP, x_KnW hKn t hW⟩, hS.F ht⟩) hS.2.2 dX2_readClause_146
        · have h := ife_t c_7 h
          refine lv_aload_n hx hb dX2_readClause_137 rfl (lv_at hl 0 rfl) ?_
          refine lv_iconst (v := 1) hx hb dX2_readClause_138 (by decide) ?_
          refine lv_aload_n hx hb dX2_readClause_139 rfl (lv_at hl 0 rfl) ?_
          refine va_get (D := (dC, dI)) (ci := 2) (v := .int ((M_6 1 2))) (C := RX2) (T := TX2) (N := 7) hx hb hg inX2 hown hKn.1 hP (1) (x_at2 (c := 1) (by decide)) rfl 2 (Nat.le_of_ble_eq_true rfl) (hg _ lkF_X2_34) (fun _ h9 => h9) rfl dX2_readClause_140 ?_
          obtain ⟨M_8, e143, h⟩ := bo_use h
          refine gc_v (va_runV (As := [.int (1), .int ((M_6 1 2))]) (rest := []) hFx (tX2_mark l dC dI kI ad 1 (M_6 1 2) M_6  e143) ⟨(gc_B hFx ck_yX2_mark lkM_X2_59 ⟨Nat.le_of_ble_eq_true rfl, Nat.le_of_ble_eq_true rfl⟩ rfl rfl), hg _ vi_yX2_mark, hg _ vs_yX2_mark⟩ (gp_V x_KnB (x_KnW hKn) hP (x_rc2 (c := 1) (by decide) hKn hP)) rfl rfl hl.1 rfl (lv_room (Nat.le_of_ble_eq_true rfl)) dX2_readClause_143 ⟨Nat.zero_le _, Nat.zero_le _⟩) hS (fun H locs hP hS => ?_)
          have hP : va_P (dC, dI) vwCl (x_w kI ad M_8) H := hP
          exact W.vret hx hb hr (fun t ht hW => ⟨⟨M_8, rfl, Option.some.inj h, by rw [ht]; exact hP, x_KnW hKn t hW⟩, hS.F ht⟩) hS.2.2 dX2_readClause_146
      by_cases c_9 : r_1 = 102
      · have h := ife_t c_9 h
        refine lv_lookup (off := 34) (tgt := 104) hx hb dX2_readClause_70 (by decide) (by rw [c_9]; decide) (by decide) ?_
        refine lv_aload_n hx hb dX2_readClause_104 rfl (lv_at hl 1 rfl) ?_
        refine lv_aload_n hx hb dX2_readClause_105 rfl (lv_at hl 2 rfl) ?_
        obtain ⟨M_10, e106, h⟩ := bo_use h
        refine gc_v (va_runV (As := [.ref (ad (c1))]) (rest := []) hFx (tX2_readFactOf l dC dI kI ad c1 (upd2 M 1 2 ((M 1 2) + 1)) h1 e106) ⟨(gc_B hFx ck_yX2_readFactOf lkM_X2_70 ⟨Nat.le_of_ble_eq_true rfl, Nat.le_of_ble_eq_true rfl⟩ rfl rfl), hg _ vi_yX2_readFactOf, hg _ vs_yX2_readFactOf⟩ (gp_V x_KnB (x_KnW hKn) hP (x_rc2 (c := 1) (by decide) hKn hP)) rfl rfl hl.1 rfl (lv_room (Nat.le_of_ble_eq_true rfl)) dX2_readClause_106 ⟨Nat.zero_le _, Nat.zero_le _⟩) hS (fun H locs hP hS => ?_)
        have hP : va_P (dC, dI) vwCl (x_w kI ad M_10) H := hP
        refine lv_goto (tgt := 128) hx hb dX2_readClause_109 (by decide) ?_
        exact hJ128 M_10 _ _ _ hP hS (lv_sub hl [1] rfl) h
      have h := ife_f c_9 h
      by_cases c_11 : r_1 = 114
      · have h := ife_t c_11 h
        refine lv_lookup (off := 26) (tgt := 96) hx hb dX2_readClause_70 (by decide) (by rw [c_11]; decide) (by decide) ?_
        refine lv_aload_n hx hb dX2_readClause_96 rfl (lv_at hl 1 rfl) ?_
        refine lv_aload_n hx hb dX2_readClause_97 rfl (lv_at hl 2 rfl) ?_
        obtain ⟨M_12, e98, h⟩ := bo_use h
        refine gc_v (va_runV (As := [.ref (ad (c1))]) (rest := []) hFx (tX2_readReader l dC dI kI ad c1 (upd2 M 1 2 ((M 1 2) + 1)) h1 e98) ⟨(gc_B hFx ck_yX2_readReader lkM_X2_67 ⟨Nat.le_of_ble_eq_true rfl, Nat.le_of_ble_eq_true rfl⟩ rfl rfl), hg _ vi_yX2_readReader, hg _ vs_yX2_readReader⟩ (gp_V x_KnB (x_KnW hKn) hP (x_rc2 (c := 1) (by decide) hKn hP)) rfl rfl hl.1 rfl (lv_room (Nat.le_of_ble_eq_true rfl)) dX2_readClause_98 ⟨Nat.zero_le _, Nat.zero_le _⟩) hS (fun H locs hP hS => ?_)
        have hP : va_P (dC, dI) vwCl (x_w kI ad M_12) H := hP
        refine lv_goto (tgt := 128) hx hb dX2_readClause_101 (by decide) ?_
        exact hJ128 M_12 _ _ _ hP hS (lv_sub hl [1] rfl) h
      have h := ife_f c_11 h
      refine lv_lookup (off := 42) (tgt := 112) hx hb dX2_readClause_70 (by decide) (by show Op.lookupswitch.offset [(102, 34), (114, 26)] 42 _ = _; rw [lv_osw c_9 (by decide), lv_osw c_11 (by decide)]; rfl) (by decide) ?_
      refine lv_aload_n hx hb dX2_readClause_112 rfl (lv_at hl 2 rfl) ?_
      refine lv_aload_n hx hb dX2_readClause_113 rfl (lv_at hl 1 rfl) ?_
      refine lv_iconst (v := 1) hx hb dX2_readClause_114 (by decide) ?_
      refine lv_bipush (v := 20) hx hb dX2_readClause_115 (by decide) ?_
      obtain ⟨r_13, M_14, e117, h⟩ := bd_use h
      refine gc_i (va_runV (As := [.int (1), .int (20)]) (rest := [.ref (ad (c1))]) hFx (tX2_readNumber l dC dI kI ad 1 20 (upd2 M 1 2 ((M 1 2) + 1))  e117) ⟨(gc_B hFx ck_yX2_readNumber lkM_X2_73 ⟨Nat.le_of_ble_eq_true rfl, Nat.le_of_ble_eq_true rfl⟩ rfl rfl), hg _ vi_yX2_readNumber, hg _ vs_yX2_readNumber⟩ (gp_V x_KnB (x_KnW hKn) hP (x_rc2 (c := 1) (by decide) hKn hP)) rfl rfl hl.1 rfl (lv_room (Nat.le_of_ble_eq_true rfl)) dX2_readClause_117 ⟨Nat.zero_le _, Nat.zero_le _⟩) hS (fun H locs hP hS => ?_)
      have hP : va_P (dC, dI) vwCl (x_w kI ad M_14) H := hP
      refine va_putN (D := (dC, dI)) (ci := 1) (v := .int (r_13)) (ty := .int) (C := RX1) (T := TX1) (N := 10) hx hb hg inX1 tyX1 tyX1_ok nmX1 hown hKn.1 hP (x_D hKn.2.1) hS (c1) (x_at1 (c := c1) h1) rfl 3 (Nat.le_of_ble_eq_true rfl) (nest_use hKn.2.2 nkF_X2_77) (fun _ h9 => h9) rfl (by decide +kernel) rfl rfl (Nat.le_of_ble_eq_true rfl) dX2_readClause_120 (fun H locs hP _ hS => ?_)
      have hP : va_P (dC, dI) vwCl (x_w kI ad (upd2 M_14 c1 3 r_13)) H := vp_eq (x_put1_3 h1 _) hP
      refine lv_aload_n hx hb dX2_readClause_123 rfl (lv_at hl 1 rfl) ?_
      refine lv_iconst (v := 1) hx hb dX2_readClause_124 (by decide) ?_
      refine va_put (D := (dC, dI)) (ci := 2) (v := .int (1)) (ty := .boolean) (C := RX2) (T := TX2) (N := 7) hx hb hg inX2 tyX2 tyX2_ok nmX2 hown hKn.1 hP (x_D hKn.2.1) hS (1) (x_at2 (c := 1) (by decide)) rfl 6 (Nat.le_of_ble_eq_true rfl) (hg _ lkF_X2_37) (fun _ h9 => h9) rfl (by decide +kernel) rfl rfl (Nat.le_of_ble_eq_true rfl) dX2_readClause_125 (fun H locs hP _ hS => ?_)
      have hP : va_P (dC, dI) vwCl (x_w kI ad (upd2 (upd2 M_14 c1 3 r_13) 1 6 1)) H := vp_eq (x_put2_6 (by decide) _) hP
      exact hJ128 (upd2 (upd2 M_14 c1 3 r_13) 1 6 1) _ _ _ hP hS (lv_sub hl [1] rfl) h
    · have h := ife_f c_3 h
      refine lv_aload_n hx hb dX2_readClause_49 rfl (lv_at hl 1 rfl) ?_
      refine lv_iconst (v := 3) hx hb dX2_readClause_50 (by decide) ?_
      refine lv_aload_n hx hb dX2_readClause_51 rfl (lv_at hl 1 rfl) ?_
      refine va_get (D := (dC, dI)) (ci := 2) (v := .int ((M 1 2))) (C := RX2) (T := TX2) (N := 7) hx hb hg inX2 hown hKn.1 hP (1) (x_at2 (c := 1) (by decide)) rfl 2 (Nat.le_of_ble_eq_true rfl) (hg _ lkF_X2_34) (fun _ h9 => h9) rfl dX2_readClause_52 ?_
      obtain ⟨M_15, e55, h⟩ := bo_use h
      refine gc_v (va_runV (As := [.int (3), .int ((M 1 2))]) (rest := []) hFx (tX2_mark l dC dI kI ad 3 (M 1 2) M  e55) ⟨(gc_B hFx ck_yX2_mark lkM_X2_59 ⟨Nat.le_of_ble_eq_true rfl, Nat.le_of_ble_eq_true rfl⟩ rfl rfl), hg _ vi_yX2_mark, hg _ vs_yX2_mark⟩ (gp_V x_KnB (x_KnW hKn) hP (x_rc2 (c := 1) (by decide) hKn hP)) rfl rfl hl.1 rfl (lv_room (Nat.le_of_ble_eq_true rfl)) dX2_readClause_55 ⟨Nat.zero_le _, Nat.zero_le _⟩) hS (fun H locs hP hS => ?_)
      have hP : va_P (dC, dI) vwCl (x_w kI ad M_15) H := hP
      exact W.vret hx hb hr (fun t ht hW => ⟨⟨M_15, rfl, Option.some.inj h, by rw [ht]; exact hP, x_KnW hKn t hW⟩, hS.F ht⟩) hS.2.2 dX2_readClause_58
  refine lv_icmp_eq (tgt := 40) hx hb dX2_readClause_8 (by decide) (fun c_16 => ?_) (fun c_16 => ?_)
  · have h := ife_t c_16 h
    exact hJ40 _ _ _ hP hS (lv_sub hl [0, 1, 2] rfl) h
  · have h := ife_f c_16 h
    refine lv_aload_n hx hb dX2_readClause_11 rfl (lv_at hl 2 rfl) ?_
    refine va_getN (D := (dC, dI)) (ci := 1) (v := .int ((M c1 1))) (C := RX1) (T := TX1) (N := 10) hx hb hg inX1 hown hKn.1 hP (c1) (x_at1 (c := c1) h1) rfl 1 (Nat.le_of_ble_eq_true rfl) (nest_use hKn.2.2 nkF_X2_56) (fun _ h9 => h9) rfl dX2_readClause_12 ?_
    obtain ⟨J30, eJ30, h⟩ := jn_use h
    have hJ30 : ∀  (H : Heap) (locs : List Loc) (ls : Array Slot), va_P (dC, dI) vwCl (x_w kI ad M) H → va_S (x_A ad) s.heap H locs → lv_has ls 3 [(0, .ref (ad (1)))] → J30  = some M0 → W p l e (headSpec (wsA yX2_readClause cX2_readClause 3 none) ({ frames := 5, cells := 0, slots := 0, locals := 109 } : Room)).room s m (([.ref (ad (1)), .ref (ad (c1))] : List Value).toArray) below meth c H locs 0 0 (MQ below (va_Qv (fun (u : (Nat → Nat → Int32)) => u = M0) (gI (x_Wd dC dI kI ad) (x_Kn dC dI kI ad)) (x_A ad)) (([.ref (ad (1)), .ref (ad (c1))] : List Value).toArray) s 0 0 (x_A ad)) (F0 m 30 ls []) := by
      intro  H locs ls hP hS hl h
      have h := useK0 eJ30 h
      refine lv_aload_n hx hb dX2_readClause_30 rfl (lv_at hl 0 rfl) ?_
      refine lv_iconst (v := 1) hx hb dX2_readClause_31 (by decide) ?_
      refine lv_aload_n hx hb dX2_readClause_32 rfl (lv_at hl 0 rfl) ?_
      refine va_get (D := (dC, dI)) (ci := 2) (v := .int ((M 1 2))) (C := RX2) (T := TX2) (N := 7) hx hb hg inX2 hown hKn.1 hP (1) (x_at2 (c := 1) (by decide)) rfl 2 (Nat.le_of_ble_eq_true rfl) (hg _ lkF_X2_34) (fun _ h9 => h9) rfl dX2_readClause_33 ?_
      obtain ⟨M_17, e36, h⟩ := bo_use h
      refine gc_v (va_runV (As := [.int (1), .int ((M 1 2))]) (rest := []) hFx (tX2_mark l dC dI kI ad 1 (M 1 2) M  e36) ⟨(gc_B hFx ck_yX2_mark lkM_X2_59 ⟨Nat.le_of_ble_eq_true rfl, Nat.le_of_ble_eq_true rfl⟩ rfl rfl), hg _ vi_yX2_mark, hg _ vs_yX2_mark⟩ (gp_V x_KnB (x_KnW hKn) hP (x_rc2 (c := 1) (by decide) hKn hP)) rfl rfl hl.1 rfl (lv_room (Nat.le_of_ble_eq_true rfl)) dX2_readClause_36 ⟨Nat.zero_le _, Nat.zero_le _⟩) hS (fun H locs hP hS => ?_)
      have hP : va_P (dC, dI) vwCl (x_w kI ad M_17) H := hP
      exact W.vret hx hb hr (fun t ht hW => ⟨⟨M_17, rfl, Option.some.inj h, by rw [ht]; exact hP, x_KnW hKn t hW⟩, hS.F ht⟩) hS.2.2 dX2_readClause_39
    refine lv_if_eq (tgt := 30) hx hb dX2_readClause_15 (by decide) (fun c_18 => ?_) (fun c_18 => ?_)
    · have h := ife_t c_18 h
      exact hJ30 _ _ _ hP hS (lv_sub hl [1] rfl) h
    · have h := ife_f c_18 h
      refine lv_iload_n hx hb dX2_readClause_18 rfl (lv_at hl 0 rfl) ?_
      refine lv_bipush (v := 102) hx hb dX2_readClause_19 (by decide) ?_
      refine lv_icmp_eq (tgt := 40) hx hb dX2_readClause_21 (by decide) (fun c_19 => ?_) (fun c_19 => ?_)
      · have h := ife_t c_19 h
        exact hJ40 _ _ _ hP hS (lv_sub hl [0, 1, 2] rfl) h
      · have h := ife_f c_19 h
        refine lv_iload_n hx hb dX2_readClause_24 rfl (lv_at hl 0 rfl) ?_
        refine lv_bipush (v := 104) hx hb dX2_readClause_25 (by decide) ?_
        refine lv_icmp_eq (tgt := 40) hx hb dX2_readClause_27 (by decide) (fun c_20 => ?_) (fun c_20 => ?_)
        · have h := ife_t c_20 h
          exact hJ40 _ _ _ hP hS (lv_sub hl [0, 1, 2] rfl) h
        · have h := ife_f c_20 h
          exact hJ30 _ _ _ hP hS (lv_sub hl [1] rfl) h
noncomputable def FX2_readInto_L30 (c1 : Nat) (K : (Nat → Nat → Int32) → Option (Int32 × (Nat → Nat → Int32))) (k : Nat) (v2_4 : Int32) (M_5 : (Nat → Nat → Int32)) : Option (Int32 × (Nat → Nat → Int32)) := match k with
  | 0 => none
  | k + 1 => (if 240 ≤ v2_4 then K M_5 else bo (FX2_next  M_5) (fun (r_7 : Int32) => (if r_7 = (-1) then K M_5 else (if (M_5 1 4) = 0 then bo (FX2_readClause c1 M_5) (fun (M_10 : (Nat → Nat → Int32)) => bo (FX2_skipBlanks  M_10) (fun (M_11 : (Nat → Nat → Int32)) => FX2_readInto_L30 c1 K k (v2_4 + 1) M_11)) else K M_5))))
noncomputable def FX2_readInto (c1 : Nat) (M : (Nat → Nat → Int32)) : Option (Int32 × (Nat → Nat → Int32)) :=
  bo (FX1_clear c1 M) (fun (M_1 : (Nat → Nat → Int32)) => bo (FX2_skipBlanks  (upd2 (upd2 (upd2 (upd2 M_1 1 2 0) 1 4 0) 1 5 (-1)) 1 6 0)) (fun (M_2 : (Nat → Nat → Int32)) => FX2_readInto_L30 c1 (fun (M_3 : (Nat → Nat → Int32)) => some ((M_3 1 4), M_3)) fuelN 0 M_2))
set_option maxHeartbeats 4000000 in
set_option maxRecDepth 100000 in
theorem tX2_readInto (l : Launch) (dC : Nat → ClassId) (dI : Nat → Nat → Nat) (kI : ClassId) (ad : Nat → Nat) (c1 : Nat) (M : (Nat → Nat → Int32)) (h1 : x_is1 c1) {r0 : Int32} {M0 : (Nat → Nat → Int32)} (h : FX2_readInto c1 M = some (r0, M0)) : Met l yX2_readInto (wsA yX2_readInto cX2_readInto 3 (some .int)) ({ frames := 6, cells := 0, slots := 0, locals := 131 } : Room) (va_Pc [.ref (ad (1)), .ref (ad (c1))] (gI (x_Wd dC dI kI ad) (x_Kn dC dI kI ad) M)) (va_Qi (fun (r : Int32) (u : (Nat → Nat → Int32)) => r = r0 ∧ u = M0) (gI (x_Wd dC dI kI ad) (x_Kn dC dI kI ad)) (x_A ad)) 0 0 (x_A ad) := by
  refine Met.ofW (cc := cX2_readInto) (maxL := 3) (ret := (some .int)) (by decide) rfl ?_
  intro p e s m args below meth c s₁ B hml hv
  obtain ⟨rfl, hP, hKn⟩ := hv
  have hx := B.exec
  have hb := B.bytes
  have hr := B.returns
  have hts := atoms_spec (ws := wsA yX2_readInto cX2_readInto 3 (some .int)) B.pre
  have hg : ∀ w ∈ lw_good, w.before _ s = true := fun w h => hts w (List.mem_cons_of_mem _ h)
  have hown : s.vm.findClass RX2 = some m.cls := findClass_of_methodNamed B.named
  have hlocks := B.notSynchronized
  have hS : va_S (x_A ad) s.heap s.heap [] := va_S.rf
  have hFx : gFix p c cX2_readInto 3 s m _ RX2 := ⟨hx, hb, hml, hown, hg⟩
  have hP : va_P (dC, dI) vwCl (x_w kI ad M) s.heap := hP
  have hl := lv_entry ([.ref (ad (1)), .ref (ad (c1))]) (n := 3) (Nat.le_of_ble_eq_true rfl)
  rw [lg_entry_eq]
  generalize (lg_sl ([.ref (ad (1)), .ref (ad (c1))]) ++ List.replicate (3 - (lg_sl ([.ref (ad (1)), .ref (ad (c1))])).length) Slot.unset).toArray = ls at hl ⊢
  have hl : lv_has ls 3 [(0, .ref (ad (1))), (1, .ref (ad (c1)))] := hl
  unfold FX2_readInto at h
  refine lv_aload_n hx hb dX2_readInto_0 rfl (lv_at hl 1 rfl) ?_
  obtain ⟨M_1, e1, h⟩ := bo_use h
  refine gc_v (va_runVN (As := []) (rest := []) hFx (tX1_clear l dC dI kI ad c1 M h1 e1) ⟨(gc_N hFx hKn.2.2 ck_yX1_clear nkM_X2_29 ⟨Nat.le_of_ble_eq_true rfl, Nat.le_of_ble_eq_true rfl⟩ rfl rfl), hg _ vi_yX1_clear, hg _ vs_yX1_clear⟩ (gp_V x_KnB (x_KnW hKn) hP (x_rc1 (c := c1) h1 hKn hP)) rfl rfl hl.1 rfl (lv_room (Nat.le_of_ble_eq_true rfl)) dX2_readInto_1 ⟨Nat.zero_le _, Nat.zero_le _⟩) hS (fun H locs hP hS => ?_)
  have hP : va_P (dC, dI) vwCl (x_w kI ad M_1) H := hP
  refine lv_aload_n hx hb dX2_readInto_4 rfl (lv_at hl 0 rfl) ?_
  refine lv_iconst (v := 0) hx hb dX2_readInto_5 (by decide) ?_
  refine va_put (D := (dC, dI)) (ci := 2) (v := .int (0)) (ty := .int) (C := RX2) (T := TX2) (N := 7) hx hb hg inX2 tyX2 tyX2_ok nmX2 hown hKn.1 hP (x_D hKn.2.1) hS (1) (x_at2 (c := 1) (by decide)) rfl 2 (Nat.le_of_ble_eq_true rfl) (hg _ lkF_X2_34) (fun _ h9 => h9) rfl (by decide +kernel) rfl rfl (Nat.le_of_ble_eq_true rfl) dX2_readInto_6 (fun H locs hP _ hS => ?_)
  have hP : va_P (dC, dI) vwCl (x_w kI ad (upd2 M_1 1 2 0)) H := vp_eq (x_put2_2 (by decide) _) hP
  refine lv_aload_n hx hb dX2_readInto_9 rfl (lv_at hl 0 rfl) ?_
  refine lv_iconst (v := 0) hx hb dX2_readInto_10 (by decide) ?_
  refine va_put (D := (dC, dI)) (ci := 2) (v := .int (0)) (ty := .int) (C := RX2) (T := TX2) (N := 7) hx hb hg inX2 tyX2 tyX2_ok nmX2 hown hKn.1 hP (x_D hKn.2.1) hS (1) (x_at2 (c := 1) (by decide)) rfl 4 (Nat.le_of_ble_eq_true rfl) (hg _ lkF_X2_19) (fun _ h9 => h9) rfl (by decide +kernel) rfl rfl (Nat.le_of_ble_eq_true rfl) dX2_readInto_11 (fun H locs hP _ hS => ?_)
  have hP : va_P (dC, dI) vwCl (x_w kI ad (upd2 (upd2 M_1 1 2 0) 1 4 0)) H := vp_eq (x_put2_4 (by decide) _) hP
  refine lv_aload_n hx hb dX2_readInto_14 rfl (lv_at hl 0 rfl) ?_
  refine lv_iconst (v := -1) hx hb dX2_readInto_15 (by decide) ?_
  refine va_put (D := (dC, dI)) (ci := 2) (v := .int ((-1))) (ty := .int) (C := RX2) (T := TX2) (N := 7) hx hb hg inX2 tyX2 tyX2_ok nmX2 hown hKn.1 hP (x_D hKn.2.1) hS (1) (x_at2 (c := 1) (by decide)) rfl 5 (Nat.le_of_ble_eq_true rfl) (hg _ lkF_X2_22) (fun _ h9 => h9) rfl (by decide +kernel) rfl rfl (Nat.le_of_ble_eq_true rfl) dX2_readInto_16 (fun H locs hP _ hS => ?_)
  have hP : va_P (dC, dI) vwCl (x_w kI ad (upd2 (upd2 (upd2 M_1 1 2 0) 1 4 0) 1 5 (-1))) H := vp_eq (x_put2_5 (by decide) _) hP
  refine lv_aload_n hx hb dX2_readInto_19 rfl (lv_at hl 0 rfl) ?_
  refine lv_iconst (v := 0) hx hb dX2_readInto_20 (by decide) ?_
  refine va_put (D := (dC, dI)) (ci := 2) (v := .int (0)) (ty := .boolean) (C := RX2) (T := TX2) (N := 7) hx hb hg inX2 tyX2 tyX2_ok nmX2 hown hKn.1 hP (x_D hKn.2.1) hS (1) (x_at2 (c := 1) (by decide)) rfl 6 (Nat.le_of_ble_eq_true rfl) (hg _ lkF_X2_37) (fun _ h9 => h9) rfl (by decide +kernel) rfl rfl (Nat.le_of_ble_eq_true rfl) dX2_readInto_21 (fun H locs hP _ hS => ?_)
  have hP : va_P (dC, dI) vwCl (x_w kI ad (upd2 (upd2 (upd2 (upd2 M_1 1 2 0) 1 4 0) 1 5 (-1)) 1 6 0)) H := vp_eq (x_put2_6 (by decide) _) hP
  refine lv_aload_n hx hb dX2_readInto_24 rfl (lv_at hl 0 rfl) ?_
  obtain ⟨M_2, e25, h⟩ := bo_use h
  refine gc_v (va_runV (As := []) (rest := []) hFx (tX2_skipBlanks l dC dI kI ad  (upd2 (upd2 (upd2 (upd2 M_1 1 2 0) 1 4 0) 1 5 (-1)) 1 6 0)  e25) ⟨(gc_B hFx ck_yX2_skipBlanks lkM_X2_41 ⟨Nat.le_of_ble_eq_true rfl, Nat.le_of_ble_eq_true rfl⟩ rfl rfl), hg _ vi_yX2_skipBlanks, hg _ vs_yX2_skipBlanks⟩ (gp_V x_KnB (x_KnW hKn) hP (x_rc2 (c := 1) (by decide) hKn hP)) rfl rfl hl.1 rfl (lv_room (Nat.le_of_ble_eq_true rfl)) dX2_readInto_25 ⟨Nat.zero_le _, Nat.zero_le _⟩) hS (fun H locs hP hS => ?_)
  have hP : va_P (dC, dI) vwCl (x_w kI ad M_2) H := hP
  refine lv_iconst (v := 0) hx hb dX2_readInto_28 (by decide) ?_
  refine lv_istore_n (lv' := [(2, .int (0)), (0, .ref (ad (1))), (1, .ref (ad (c1)))]) hx hb dX2_readInto_29 rfl hl (Nat.le_of_ble_eq_true rfl) rfl (fun ls hl => ?_)
  obtain ⟨K30, eK30, h⟩ := exK (Lp := fun K => FX2_readInto_L30 c1 K fuelN 0 M_2) h
  have hK30 : ∀ (M_3 : (Nat → Nat → Int32)) (H : Heap) (locs : List Loc) (ls : Array Slot), va_P (dC, dI) vwCl (x_w kI ad M_3) H → va_S (x_A ad) s.heap H locs → lv_has ls 3 [(0, .ref (ad (1)))] → K30 M_3 = some (r0, M0) → W p l e (headSpec (wsA yX2_readInto cX2_readInto 3 (some .int)) ({ frames := 6, cells := 0, slots := 0, locals := 131 } : Room)).room s m (([.ref (ad (1)), .ref (ad (c1))] : List Value).toArray) below meth c H locs 0 0 (MQ below (va_Qi (fun (r : Int32) (u : (Nat → Nat → Int32)) => r = r0 ∧ u = M0) (gI (x_Wd dC dI kI ad) (x_Kn dC dI kI ad)) (x_A ad)) (([.ref (ad (1)), .ref (ad (c1))] : List Value).toArray) s 0 0 (x_A ad)) (F0 m 67 ls []) := by
    intro M_3 H locs ls hP hS hl h
    have h := useK1 eK30 h
    refine lv_aload_n hx hb dX2_readInto_67 rfl (lv_at hl 0 rfl) ?_
    refine va_get (D := (dC, dI)) (ci := 2) (v := .int ((M_3 1 4))) (C := RX2) (T := TX2) (N := 7) hx hb hg inX2 hown hKn.1 hP (1) (x_at2 (c := 1) (by decide)) rfl 4 (Nat.le_of_ble_eq_true rfl) (hg _ lkF_X2_19) (fun _ h9 => h9) rfl dX2_readInto_68 ?_
    exact W.iret (v := (M_3 1 4)) hx hb hr (fun t ht hW => ⟨⟨(M_3 1 4), M_3, rfl, ⟨congrArg Prod.fst (Option.some.inj h), congrArg Prod.snd (Option.some.inj h)⟩, by rw [ht]; exact hP, x_KnW hKn t hW⟩, hS.F ht⟩) hS.2.2 dX2_readInto_71
  have hL30 : ∀ (k : Nat) (v2_4 : Int32) (M_5 : (Nat → Nat → Int32)) (H : Heap) (locs : List Loc) (ls : Array Slot), va_P (dC, dI) vwCl (x_w kI ad M_5) H → va_S (x_A ad) s.heap H locs → lv_has ls 3 [(0, .ref (ad (1))), (1, .ref (ad (c1))), (2, .int (v2_4))] → FX2_readInto_L30 c1 K30 k v2_4 M_5 = some (r0, M0) → W p l e (headSpec (wsA yX2_readInto cX2_readInto 3 (some .int)) ({ frames := 6, cells := 0, slots := 0, locals := 131 } : Room)).room s m (([.ref (ad (1)), .ref (ad (c1))] : List Value).toArray) below meth c H locs 0 0 (MQ below (va_Qi (fun (r : Int32) (u : (Nat → Nat → Int32)) => r = r0 ∧ u = M0) (gI (x_Wd dC dI kI ad) (x_Kn dC dI kI ad)) (x_A ad)) (([.ref (ad (1)), .ref (ad (c1))] : List Value).toArray) s 0 0 (x_A ad)) (F0 m 30 ls []) := by
    intro k
    induction k with
    | zero => intro v2_4 M_5 H locs ls hP hS hl h; cases h
    | succ k ih30 =>
      intro v2_4 M_5 H locs ls hP hS hl h
      unfold FX2_readInto_L30 at h
      refine lv_iload_n hx hb dX2_readInto_30 rfl (lv_at hl 2 rfl) ?_
      refine lv_sipush (v := 240) hx hb dX2_readInto_31 (by decide) ?_
      refine lv_icmp_ge (tgt := 67) hx hb dX2_readInto_34 (by decide) (fun c_6 => ?_) (fun c_6 => ?_)
      · have h := ife_t c_6 h
        exact hK30 M_5 _ _ _ hP hS (lv_sub hl [0] rfl) h
      · have h := ife_f c_6 h
        refine lv_aload_n hx hb dX2_readInto_37 rfl (lv_at hl 0 rfl) ?_
        obtain ⟨r_7, e38, h⟩ := bo_use h
        refine gc_i (va_runV (As := []) (rest := []) hFx (tX2_next l dC dI kI ad  M_5  e38) ⟨(gc_B hFx ck_yX2_next lkM_X2_44 ⟨Nat.le_of_ble_eq_true rfl, Nat.le_of_ble_eq_true rfl⟩ rfl rfl), hg _ vi_yX2_next, hg _ vs_yX2_next⟩ (gp_V x_KnB (x_KnW hKn) hP (x_rc2 (c := 1) (by decide) hKn hP)) rfl rfl hl.1 rfl (lv_room (Nat.le_of_ble_eq_true rfl)) dX2_readInto_38 ⟨Nat.zero_le _, Nat.zero_le _⟩) hS (fun H locs hP hS => ?_)
        have hP : va_P (dC, dI) vwCl (x_w kI ad M_5) H := hP
        refine lv_iconst (v := -1) hx hb dX2_readInto_41 (by decide) ?_
        refine lv_icmp_eq (tgt := 67) hx hb dX2_readInto_42 (by decide) (fun c_8 => ?_) (fun c_8 => ?_)
        · have h := ife_t c_8 h
          exact hK30 M_5 _ _ _ hP hS (lv_sub hl [0] rfl) h
        · have h := ife_f c_8 h
          refine lv_aload_n hx hb dX2_readInto_45 rfl (lv_at hl 0 rfl) ?_
          refine va_get (D := (dC, dI)) (ci := 2) (v := .int ((M_5 1 4))) (C := RX2) (T := TX2) (N := 7) hx hb hg inX2 hown hKn.1 hP (1) (x_at2 (c := 1) (by decide)) rfl 4 (Nat.le_of_ble_eq_true rfl) (hg _ lkF_X2_19) (fun _ h9 => h9) rfl dX2_readInto_46 ?_
          refine lv_if_ne (tgt := 67) hx hb dX2_readInto_49 (by decide) (fun c_9 => ?_) (fun c_9 => ?_)
          · have h := ife_f c_9 h
            exact hK30 M_5 _ _ _ hP hS (lv_sub hl [0] rfl) h
          · have h := ife_t c_9 h
            refine lv_aload_n hx hb dX2_readInto_52 rfl (lv_at hl 0 rfl) ?_
            refine lv_aload_n hx hb dX2_readInto_53 rfl (lv_at hl 1 rfl) ?_
            obtain ⟨M_10, e54, h⟩ := bo_use h
            refine gc_v (va_runV (As := [.ref (ad (c1))]) (rest := []) hFx (tX2_readClause l dC dI kI ad c1 M_5 h1 e54) ⟨(gc_B hFx ck_yX2_readClause lkM_X2_48 ⟨Nat.le_of_ble_eq_true rfl, Nat.le_of_ble_eq_true rfl⟩ rfl rfl), hg _ vi_yX2_readClause, hg _ vs_yX2_readClause⟩ (gp_V x_KnB (x_KnW hKn) hP (x_rc2 (c := 1) (by decide) hKn hP)) rfl rfl hl.1 rfl (lv_room (Nat.le_of_ble_eq_true rfl)) dX2_readInto_54 ⟨Nat.zero_le _, Nat.zero_le _⟩) hS (fun H locs hP hS => ?_)
            have hP : va_P (dC, dI) vwCl (x_w kI ad M_10) H := hP
            refine lv_aload_n hx hb dX2_readInto_57 rfl (lv_at hl 0 rfl) ?_
            obtain ⟨M_11, e58, h⟩ := bo_use h
            refine gc_v (va_runV (As := []) (rest := []) hFx (tX2_skipBlanks l dC dI kI ad  M_10  e58) ⟨(gc_B hFx ck_yX2_skipBlanks lkM_X2_41 ⟨Nat.le_of_ble_eq_true rfl, Nat.le_of_ble_eq_true rfl⟩ rfl rfl), hg _ vi_yX2_skipBlanks, hg _ vs_yX2_skipBlanks⟩ (gp_V x_KnB (x_KnW hKn) hP (x_rc2 (c := 1) (by decide) hKn hP)) rfl rfl hl.1 rfl (lv_room (Nat.le_of_ble_eq_true rfl)) dX2_readInto_58 ⟨Nat.zero_le _, Nat.zero_le _⟩) hS (fun H locs hP hS => ?_)
            have hP : va_P (dC, dI) vwCl (x_w kI ad M_11) H := hP
            refine lv_iinc (v := (v2_4 + 1)) (lv' := [(2, .int ((v2_4 + 1))), (0, .ref (ad (1))), (1, .ref (ad (c1)))]) hx hb dX2_readInto_61 hl (k := 2) rfl rfl (Nat.le_of_ble_eq_true rfl) rfl (fun ls hl => ?_)
            refine lv_goto (tgt := 30) hx hb dX2_readInto_64 (by decide) ?_
            exact ih30 (v2_4 + 1) M_11 _ _ _ hP hS (lv_sub hl [1, 2, 0] rfl) h
  exact hL30 fuelN 0 M_2 _ _ _ hP hS (lv_sub hl [1, 2, 0] rfl) h
noncomputable def FX3_begin_L63 (c0 : Nat) (c1 : Nat) (K : (Nat → Nat → Int32) → Option (Nat → Nat → Int32)) (k : Nat) (v2_3 : Int32) (M_4 : (Nat → Nat → Int32)) : Option (Nat → Nat → Int32) := match k with
  | 0 => none
  | k + 1 => (if 8 ≤ v2_3 then K M_4 else bo (FX7_put (c0 + 2) v2_3 0 M_4) (fun (M_6 : (Nat → Nat → Int32)) => bo (FX1_hasFact c1 v2_3 M_6) (fun (r_7 : Int32) => jn (fun (s_8 : Int32) => FX3_begin_L63 c0 c1 K k (v2_3 + 1) (upd2 M_6 c0 2 ((M_6 c0 2) ||| s_8))) (fun J109 => jn (J109 0) (fun J108 => (if r_7 = 0 then J108 else bo (FX7_at (c1 + 6) v2_3 M_6) (fun (r_10 : Int32) => (if r_10 = 0 then J109 (1 <<< (v2_3 &&& 31)) else J108))))))))
noncomputable def FX3_begin_L22 (c0 : Nat) (c1 : Nat) (K : (Nat → Nat → Int32) → Option (Nat → Nat → Int32)) (k : Nat) (v2_12 : Int32) (M_13 : (Nat → Nat → Int32)) : Option (Nat → Nat → Int32) := match k with
  | 0 => none
  | k + 1 => (if 5 ≤ v2_12 then K M_13 else bo (FX1_hasOpinion c1 v2_12 M_13) (fun (r_15 : Int32) => jn (fun (s_16 : Int32) => bo (FX7_put (c0 + 1) v2_12 s_16 M_13) (fun (M_17 : (Nat → Nat → Int32)) => FX3_begin_L22 c0 c1 K k (v2_12 + 1) M_17)) (fun J52 => (if r_15 = 0 then J52 0 else bo (FX7_at (c1 + 1) v2_12 M_13) (fun (r_19 : Int32) => J52 r_19)))))
noncomputable def FX3_begin (c0 : Nat) (c1 : Nat) (M : (Nat → Nat → Int32)) : Option (Nat → Nat → Int32) :=
  FX3_begin_L22 c0 c1 (fun (M_1 : (Nat → Nat → Int32)) => FX3_begin_L63 c0 c1 (fun (M_2 : (Nat → Nat → Int32)) => some M_2) fuelN 0 M_1) fuelN 0 (upd2 (upd2 (upd2 (upd2 M c0 2 0) c0 3 0) c0 4 0) c0 5 (-1))
set_option maxHeartbeats 4000000 in
set_option maxRecDepth 100000 in
theorem tX3_begin (l : Launch) (dC : Nat → ClassId) (dI : Nat → Nat → Nat) (kI : ClassId) (ad : Nat → Nat) (c0 : Nat) (c1 : Nat) (M : (Nat → Nat → Int32)) (h0 : x_is3 c0) (h1 : x_is1 c1) {M0 : (Nat → Nat → Int32)} (h : FX3_begin c0 c1 M = some M0) : Met l yX3_begin (wsA yX3_begin cX3_begin 3 none) ({ frames := 1, cells := 0, slots := 0, locals := 22 } : Room) (va_Pc [.ref (ad (c0)), .ref (ad (c1))] (gI (x_Wd dC dI kI ad) (x_Kn dC dI kI ad) M)) (va_Qv (fun (u : (Nat → Nat → Int32)) => u = M0) (gI (x_Wd dC dI kI ad) (x_Kn dC dI kI ad)) (x_A ad)) 0 0 (x_A ad) := by
  refine Met.ofW (cc := cX3_begin) (maxL := 3) (ret := none) (by decide) rfl ?_
  intro p e s m args below meth c s₁ B hml hv
  obtain ⟨rfl, hP, hKn⟩ := hv
  have hx := B.exec
  have hb := B.bytes
  have hr := B.returns
  have hts := atoms_spec (ws := wsA yX3_begin cX3_begin 3 none) B.pre
  have hg : ∀ w ∈ lw_good, w.before _ s = true := fun w h => hts w (List.mem_cons_of_mem _ h)
  have hown : s.vm.findClass RX3 = some m.cls := findClass_of_methodNamed B.named
  have hlocks := B.notSynchronized
  have hS : va_S (x_A ad) s.heap s.heap [] := va_S.rf
  have hFx : gFix p c cX3_begin 3 s m _ RX3 := ⟨hx, hb, hml, hown, hg⟩
  have hP : va_P (dC, dI) vwCl (x_w kI ad M) s.heap := hP
  have hl := lv_entry ([.ref (ad (c0)), .ref (ad (c1))]) (n := 3) (Nat.le_of_ble_eq_true rfl)
  rw [lg_entry_eq]
  generalize (lg_sl ([.ref (ad (c0)), .ref (ad (c1))]) ++ List.replicate (3 - (lg_sl ([.ref (ad (c0)), .ref (ad (c1))])).length) Slot.unset).toArray = ls at hl ⊢
  have hl : lv_has ls 3 [(0, .ref (ad (c0))), (1, .ref (ad (c1)))] := hl
  unfold FX3_begin at h
  refine lv_aload_n hx hb dX3_begin_0 rfl (lv_at hl 0 rfl) ?_
  refine lv_iconst (v := 0) hx hb dX3_begin_1 (by decide) ?_
  refine va_put (D := (dC, dI)) (ci := 3) (v := .int (0)) (ty := .int) (C := RX3) (T := TX3) (N := 6) hx hb hg inX3 tyX3 tyX3_ok nmX3 hown hKn.1 hP (x_D hKn.2.1) hS (c0) (x_at3 (c := c0) h0) rfl 2 (Nat.le_of_ble_eq_true rfl) (hg _ lkF_X3_22) (fun _ h9 => h9) rfl (by decide +kernel) rfl rfl (Nat.le_of_ble_eq_true rfl) dX3_begin_2 (fun H locs hP _ hS => ?_)
  have hP : va_P (dC, dI) vwCl (x_w kI ad (upd2 M c0 2 0)) H := vp_eq (x_put3_2 h0 _) hP
  refine lv_aload_n hx hb dX3_begin_5 rfl (lv_at hl 0 rfl) ?_
  refine lv_iconst (v := 0) hx hb dX3_begin_6 (by decide) ?_
  refine va_put (D := (dC, dI)) (ci := 3) (v := .int (0)) (ty := .int) (C := RX3) (T := TX3) (N := 6) hx hb hg inX3 tyX3 tyX3_ok nmX3 hown hKn.1 hP (x_D hKn.2.1) hS (c0) (x_at3 (c := c0) h0) rfl 3 (Nat.le_of_ble_eq_true rfl) (hg _ lkF_X3_25) (fun _ h9 => h9) rfl (by decide +kernel) rfl rfl (Nat.le_of_ble_eq_true rfl) dX3_begin_7 (fun H locs hP _ hS => ?_)
  have hP : va_P (dC, dI) vwCl (x_w kI ad (upd2 (upd2 M c0 2 0) c0 3 0)) H := vp_eq (x_put3_3 h0 _) hP
  refine lv_aload_n hx hb dX3_begin_10 rfl (lv_at hl 0 rfl) ?_
  refine lv_iconst (v := 0) hx hb dX3_begin_11 (by decide) ?_
  refine va_put (D := (dC, dI)) (ci := 3) (v := .int (0)) (ty := .int) (C := RX3) (T := TX3) (N := 6) hx hb hg inX3 tyX3 tyX3_ok nmX3 hown hKn.1 hP (x_D hKn.2.1) hS (c0) (x_at3 (c := c0) h0) rfl 4 (Nat.le_of_ble_eq_true rfl) (hg _ lkF_X3_28) (fun _ h9 => h9) rfl (by decide +kernel) rfl rfl (Nat.le_of_ble_eq_true rfl) dX3_begin_12 (fun H locs hP _ hS => ?_)
  have hP : va_P (dC, dI) vwCl (x_w kI ad (upd2 (upd2 (upd2 M c0 2 0) c0 3 0) c0 4 0)) H := vp_eq (x_put3_4 h0 _) hP
  refine lv_aload_n hx hb dX3_begin_15 rfl (lv_at hl 0 rfl) ?_
  refine lv_iconst (v := -1) hx hb dX3_begin_16 (by decide) ?_
  refine va_put (D := (dC, dI)) (ci := 3) (v := .int ((-1))) (ty := .int) (C := RX3) (T := TX3) (N := 6) hx hb hg inX3 tyX3 tyX3_ok nmX3 hown hKn.1 hP (x_D hKn.2.1) hS (c0) (x_at3 (c := c0) h0) rfl 5 (Nat.le_of_ble_eq_true rfl) (hg _ lkF_X3_18) (fun _ h9 => h9) rfl (by decide +kernel) rfl rfl (Nat.le_of_ble_eq_true rfl) dX3_begin_17 (fun H locs hP _ hS => ?_)
  have hP : va_P (dC, dI) vwCl (x_w kI ad (upd2 (upd2 (upd2 (upd2 M c0 2 0) c0 3 0) c0 4 0) c0 5 (-1))) H := vp_eq (x_put3_5 h0 _) hP
  refine lv_iconst (v := 0) hx hb dX3_begin_20 (by decide) ?_
  refine lv_istore_n (lv' := [(2, .int (0)), (0, .ref (ad (c0))), (1, .ref (ad (c1)))]) hx hb dX3_begin_21 rfl hl (Nat.le_of_ble_eq_true rfl) rfl (fun ls hl => ?_)
  obtain ⟨K22, eK22, h⟩ := exK (Lp := fun K => FX3_begin_L22 c0 c1 K fuelN 0 (upd2 (upd2 (upd2 (upd2 M c0 2 0) c0 3 0) c0 4 0) c0 5 (-1))) h
  have hK22 : ∀ (M_1 : (Nat → Nat → Int32)) (H : Heap) (locs : List Loc) (ls : Array Slot), va_P (dC, dI) vwCl (x_w kI ad M_1) H → va_S (x_A ad) s.heap H locs → lv_has ls 3 [(0, .ref (ad (c0))), (1, .ref (ad (c1)))] → K22 M_1 = some M0 → W p l e (headSpec (wsA yX3_begin cX3_begin 3 none) ({ frames := 1, cells := 0, slots := 0, locals := 22 } : Room)).room s m (([.ref (ad (c0)), .ref (ad (c1))] : List Value).toArray) below meth c H locs 0 0 (MQ below (va_Qv (fun (u : (Nat → Nat → Int32)) => u = M0) (gI (x_Wd dC dI kI ad) (x_Kn dC dI kI ad)) (x_A ad)) (([.ref (ad (c0)), .ref (ad (c1))] : List Value).toArray) s 0 0 (x_A ad)) (F0 m 61 ls []) := by
    intro M_1 H locs ls hP hS hl h
    have h := useK1 eK22 h
    refine lv_iconst (v := 0) hx hb dX3_begin_61 (by decide) ?_
    refine lv_istore_n (lv' := [(2, .int (0)), (0, .ref (ad (c0))), (1, .ref (ad (c1)))]) hx hb dX3_begin_62 rfl hl (Nat.le_of_ble_eq_true rfl) rfl (fun ls hl => ?_)
    obtain ⟨K63, eK63, h⟩ := exK (Lp := fun K => FX3_begin_L63 c0 c1 K fuelN 0 M_1) h
    have hK63 : ∀ (M_2 : (Nat → Nat → Int32)) (H : Heap) (locs : List Loc) (ls : Array Slot), va_P (dC, dI) vwCl (x_w kI ad M_2) H → va_S (x_A ad) s.heap H locs → lv_has ls 3 [] → K63 M_2 = some M0 → W p l e (headSpec (wsA yX3_begin cX3_begin 3 none) ({ frames := 1, cells := 0, slots := 0, locals := 22 } : Room)).room s m (([.ref (ad (c0)), .ref (ad (c1))] : List Value).toArray) below meth c H locs 0 0 (MQ below (va_Qv (fun (u : (Nat → Nat → Int32)) => u = M0) (gI (x_Wd dC dI kI ad) (x_Kn dC dI kI ad)) (x_A ad)) (([.ref (ad (c0)), .ref (ad (c1))] : List Value).toArray) s 0 0 (x_A ad)) (F0 m 119 ls []) := by
      intro M_2 H locs ls hP hS hl h
      have h := useK1 eK63 h
      exact W.vret hx hb hr (fun t ht hW => ⟨⟨M_2, rfl, Option.some.inj h, by rw [ht]; exact hP, x_KnW hKn t hW⟩, hS.F ht⟩) hS.2.2 dX3_begin_119
    have hL63 : ∀ (k : Nat) (v2_3 : Int32) (M_4 : (Nat → Nat → Int32)) (H : Heap) (locs : List Loc) (ls : Array Slot), va_P (dC, dI) vwCl (x_w kI ad M_4) H → va_S (x_A ad) s.heap H locs → lv_has ls 3 [(0, .ref (ad (c0))), (1, .ref (ad (c1))), (2, .int (v2_3))] → FX3_begin_L63 c0 c1 K63 k v2_3 M_4 = some M0 → W p l e (headSpec (wsA yX3_begin cX3_begin 3 none) ({ frames := 1, cells := 0, slots := 0, locals := 22 } : Room)).room s m (([.ref (ad (c0)), .ref (ad (c1))] : List Value).toArray) below meth c H locs 0 0 (MQ below (va_Qv (fun (u : (Nat → Nat → Int32)) => u = M0) (gI (x_Wd dC dI kI ad) (x_Kn dC dI kI ad)) (x_A ad)) (([.ref (ad (c0)), .ref (ad (c1))] : List Value).toArray) s 0 0 (x_A ad)) (F0 m 63 ls []) := by
      intro k
      induction k with
      | zero => intro v2_3 M_4 H locs ls hP hS hl h; cases h
      | succ k ih63 =>
        intro v2_3 M_4 H locs ls hP hS hl h
        unfold FX3_begin_L63 at h
        refine lv_iload_n hx hb dX3_begin_63 rfl (lv_at hl 2 rfl) ?_
        refine lv_bipush (v := 8) hx hb dX3_begin_64 (by decide) ?_
        refine lv_icmp_ge (tgt := 119) hx hb dX3_begin_66 (by decide) (fun c_5 => ?_) (fun c_5 => ?_)
        · have h := ife_t c_5 h
          exact hK63 M_4 _ _ _ hP hS (lv_sub hl [] rfl) h
        · have h := ife_f c_5 h
          refine lv_aload_n hx hb dX3_begin_69 rfl (lv_at hl 0 rfl) ?_
          refine va_get (D := (dC, dI)) (ci := 3) (v := .ref (ad ((c0 + 2)))) (C := RX3) (T := TX3) (N := 6) hx hb hg inX3 hown hKn.1 hP (c0) (x_at3 (c := c0) h0) rfl 1 (Nat.le_of_ble_eq_true rfl) (hg _ lkF_X3_15) (fun _ h9 => h9) rfl dX3_begin_70 ?_
          refine lv_iload_n hx hb dX3_begin_73 rfl (lv_at hl 2 rfl) ?_
          refine lv_iconst (v := 0) hx hb dX3_begin_74 (by decide) ?_
          obtain ⟨M_6, e75, h⟩ := bo_use h
          refine gc_v (va_runSN (As := [.ref (ad ((c0 + 2))), .int (v2_3), .int (0)]) (rest := []) hFx (tX7_put l dC dI kI ad (c0 + 2) v2_3 0 M_4 (x_ar3_2 h0) e75) ⟨(gc_N hFx hKn.2.2 ck_yX7_put nkM_X3_44 ⟨Nat.le_of_ble_eq_true rfl, Nat.le_of_ble_eq_true rfl⟩ rfl rfl), hg _ st_yX7_put, trivial⟩ (gp_S x_KnB (x_KnW hKn) hP) rfl rfl hl.1 rfl (lv_room (Nat.le_of_ble_eq_true rfl)) dX3_begin_75 ⟨Nat.zero_le _, Nat.zero_le _⟩) hS (fun H locs hP hS => ?_)
          have hP : va_P (dC, dI) vwCl (x_w kI ad M_6) H := hP
          refine lv_aload_n hx hb dX3_begin_78 rfl (lv_at hl 0 rfl) ?_
          refine lv_dup hx hb dX3_begin_79 rfl ?_
          refine va_get (D := (dC, dI)) (ci := 3) (v := .int ((M_6 c0 2))) (C := RX3) (T := TX3) (N := 6) hx hb hg inX3 hown hKn.1 hP (c0) (x_at3 (c := c0) h0) rfl 2 (Nat.le_of_ble_eq_true rfl) (hg _ lkF_X3_22) (fun _ h9 => h9) rfl dX3_begin_80 ?_
          refine lv_aload_n hx hb dX3_begin_83 rfl (lv_at hl 1 rfl) ?_
          refine lv_iload_n hx hb dX3_begin_84 rfl (lv_at hl 2 rfl) ?_
          obtain ⟨r_7, e85, h⟩ := bo_use h
          refine gc_i (va_runVN (As := [.int (v2_3)]) (rest := [.int ((M_6 c0 2)), .ref (ad (c0))]) hFx (tX1_hasFact l dC dI kI ad c1 v2_3 M_6 h1 e85) ⟨(gc_N hFx hKn.2.2 ck_yX1_hasFact nkM_X3_48 ⟨Nat.le_of_ble_eq_true rfl, Nat.le_of_ble_eq_true rfl⟩ rfl rfl), hg _ vi_yX1_hasFact, hg _ vs_yX1_hasFact⟩ (gp_V x_KnB (x_KnW hKn) hP (x_rc1 (c := c1) h1 hKn hP)) rfl rfl hl.1 rfl (lv_room (Nat.le_of_ble_eq_true rfl)) dX3_begin_85 ⟨Nat.zero_le _, Nat.zero_le _⟩) hS (fun H locs hP hS => ?_)
          have hP : va_P (dC, dI) vwCl (x_w kI ad M_6) H := hP
          obtain ⟨J109, eJ109, h⟩ := jn_use h
          have hJ109 : ∀ (s_8 : Int32) (H : Heap) (locs : List Loc) (ls : Array Slot), va_P (dC, dI) vwCl (x_w kI ad M_6) H → va_S (x_A ad) s.heap H locs → lv_has ls 3 [(0, .ref (ad (c0))), (1, .ref (ad (c1))), (2, .int (v2_3))] → J109 s_8 = some M0 → W p l e (headSpec (wsA yX3_begin cX3_begin 3 none) ({ frames := 1, cells := 0, slots := 0, locals := 22 } : Room)).room s m (([.ref (ad (c0)), .ref (ad (c1))] : List Value).toArray) below meth c H locs 0 0 (MQ below (va_Qv (fun (u : (Nat → Nat → Int32)) => u = M0) (gI (x_Wd dC dI kI ad) (x_Kn dC dI kI ad)) (x_A ad)) (([.ref (ad (c0)), .ref (ad (c1))] : List Value).toArray) s 0 0 (x_A ad)) (F0 m 109 ls [.int (s_8), .int ((M_6 c0 2)), .ref (ad (c0))]) := by
            intro s_8 H locs ls hP hS hl h
            have h := useK1 eJ109 h
            refine lv_ior hx hb dX3_begin_109 ?_
            refine va_put (D := (dC, dI)) (ci := 3) (v := .int (((M_6 c0 2) ||| s_8))) (ty := .int) (C := RX3) (T := TX3) (N := 6) hx hb hg inX3 tyX3 tyX3_ok nmX3 hown hKn.1 hP (x_D hKn.2.1) hS (c0) (x_at3 (c := c0) h0) rfl 2 (Nat.le_of_ble_eq_true rfl) (hg _ lkF_X3_22) (fun _ h9 => h9) rfl (by decide +kernel) rfl rfl (Nat.le_of_ble_eq_true rfl) dX3_begin_110 (fun H locs hP _ hS => ?_)
            have hP : va_P (dC, dI) vwCl (x_w kI ad (upd2 M_6 c0 2 ((M_6 c0 2) ||| s_8))) H := vp_eq (x_put3_2 h0 _) hP
            refine lv_iinc (v := (v2_3 + 1)) (lv' := [(2, .int ((v2_3 + 1))), (0, .ref (ad (c0))), (1, .ref (ad (c1)))]) hx hb dX3_begin_113 hl (k := 2) rfl rfl (Nat.le_of_ble_eq_true rfl) rfl (fun ls hl => ?_)
            refine lv_goto (tgt := 63) hx hb dX3_begin_116 (by decide) ?_
            exact ih63 (v2_3 + 1) (upd2 M_6 c0 2 ((M_6 c0 2) ||| s_8)) _ _ _ hP hS (lv_sub hl [1, 2, 0] rfl) h
          obtain ⟨J108, eJ108, h⟩ := jn_use h
          have hJ108 : ∀  (H : Heap) (locs : List Loc) (ls : Array Slot), va_P (dC, dI) vwCl (x_w kI ad M_6) H → va_S (x_A ad) s.heap H locs → lv_has ls 3 [(0, .ref (ad (c0))), (1, .ref (ad (c1))), (2, .int (v2_3))] → J108  = some M0 → W p l e (headSpec (wsA yX3_begin cX3_begin 3 none) ({ frames := 1, cells := 0, slots := 0, locals := 22 } : Room)).room s m (([.ref (ad (c0)), .ref (ad (c1))] : List Value).toArray) below meth c H locs 0 0 (MQ below (va_Qv (fun (u : (Nat → Nat → Int32)) => u = M0) (gI (x_Wd dC dI kI ad) (x_Kn dC dI kI ad)) (x_A ad)) (([.ref (ad (c0)), .ref (ad (c1))] : List Value).toArray) s 0 0 (x_A ad)) (F0 m 108 ls [.int ((M_6 c0 2)), .ref (ad (c0))]) := by
            intro  H locs ls hP hS hl h
            have h := useK0 eJ108 h
            refine lv_iconst (v := 0) hx hb dX3_begin_108 (by decide) ?_
            exact hJ109 0 _ _ _ hP hS (lv_sub hl [0, 1, 2] rfl) h
          refine lv_if_eq (tgt := 108) hx hb dX3_begin_88 (by decide) (fun c_9 => ?_) (fun c_9 => ?_)
          · have h := ife_t c_9 h
            exact hJ108 _ _ _ hP hS (lv_sub hl [0, 1, 2] rfl) h
          · have h := ife_f c_9 h
            refine lv_aload_n hx hb dX3_begin_91 rfl (lv_at hl 1 rfl) ?_
            refine va_getN (D := (dC, dI)) (ci := 1) (v := .ref (ad ((c1 + 6)))) (C := RX1) (T := TX1) (N := 10) hx hb hg inX1 hown hKn.1 hP (c1) (x_at1 (c := c1) h1) rfl 9 (Nat.le_of_ble_eq_true rfl) (nest_use hKn.2.2 nkF_X3_51) (fun _ h9 => h9) rfl dX3_begin_92 ?_
            refine lv_iload_n hx hb dX3_begin_95 rfl (lv_at hl 2 rfl) ?_
            obtain ⟨r_10, e96, h⟩ := bo_use h
            refine gc_i (va_runSN (As := [.ref (ad ((c1 + 6))), .int (v2_3)]) (rest := [.int ((M_6 c0 2)), .ref (ad (c0))]) hFx (tX7_at l dC dI kI ad (c1 + 6) v2_3 M_6 (x_ar1_6 h1) e96) ⟨(gc_N hFx hKn.2.2 ck_yX7_at nkM_X3_40 ⟨Nat.le_of_ble_eq_true rfl, Nat.le_of_ble_eq_true rfl⟩ rfl rfl), hg _ st_yX7_at, trivial⟩ (gp_S x_KnB (x_KnW hKn) hP) rfl rfl hl.1 rfl (lv_room (Nat.le_of_ble_eq_true rfl)) dX3_begin_96 ⟨Nat.zero_le _, Nat.zero_le _⟩) hS (fun H locs hP hS => ?_)
            have hP : va_P (dC, dI) vwCl (x_w kI ad M_6) H := hP
            refine lv_if_ne (tgt := 108) hx hb dX3_begin_99 (by decide) (fun c_11 => ?_) (fun c_11 => ?_)
            · have h := ife_f c_11 h
              exact hJ108 _ _ _ hP hS (lv_sub hl [0, 1, 2] rfl) h
            · have h := ife_t c_11 h
              refine lv_iconst (v := 1) hx hb dX3_begin_102 (by decide) ?_
              refine lv_iload_n hx hb dX3_begin_103 rfl (lv_at hl 2 rfl) ?_
              refine lv_ishl hx hb dX3_begin_104 ?_
              refine lv_goto (tgt := 109) hx hb dX3_begin_105 (by decide) ?_
              exact hJ109 (1 <<< (v2_3 &&& 31)) _ _ _ hP hS (lv_sub hl [0, 1, 2] rfl) h
    exact hL63 fuelN 0 M_1 _ _ _ hP hS (lv_sub hl [1, 2, 0] rfl) h
  have hL22 : ∀ (k : Nat) (v2_12 : Int32) (M_13 : (Nat → Nat → Int32)) (H : Heap) (locs : List Loc) (ls : Array Slot), va_P (dC, dI) vwCl (x_w kI ad M_13) H → va_S (x_A ad) s.heap H locs → lv_has ls 3 [(0, .ref (ad (c0))), (1, .ref (ad (c1))), (2, .int (v2_12))] → FX3_begin_L22 c0 c1 K22 k v2_12 M_13 = some M0 → W p l e (headSpec (wsA yX3_begin cX3_begin 3 none) ({ frames := 1, cells := 0, slots := 0, locals := 22 } : Room)).room s m (([.ref (ad (c0)), .ref (ad (c1))] : List Value).toArray) below meth c H locs 0 0 (MQ below (va_Qv (fun (u : (Nat → Nat → Int32)) => u = M0) (gI (x_Wd dC dI kI ad) (x_Kn dC dI kI ad)) (x_A ad)) (([.ref (ad (c0)), .ref (ad (c1))] : List Value).toArray) s 0 0 (x_A ad)) (F0 m 22 ls []) := by
    intro k
    induction k with
    | zero => intro v2_12 M_13 H locs ls hP hS hl h; cases h
    | succ k ih22 =>
      intro v2_12 M_13 H locs ls hP hS hl h
      unfold FX3_begin_L22 at h
      refine lv_iload_n hx hb dX3_begin_22 rfl (lv_at hl 2 rfl) ?_
      refine lv_iconst (v := 5) hx hb dX3_begin_23 (by decide) ?_
      refine lv_icmp_ge (tgt := 61) hx hb dX3_begin_24 (by decide) (fun c_14 => ?_) (fun c_14 => ?_)
      · have h := ife_t c_14 h
        exact hK22 M_13 _ _ _ hP hS (lv_sub hl [0, 1] rfl) h
      · have h := ife_f c_14 h
        refine lv_aload_n hx hb dX3_begin_27 rfl (lv_at hl 0 rfl) ?_
        refine va_get (D := (dC, dI)) (ci := 3) (v := .ref (ad ((c0 + 1)))) (C := RX3) (T := TX3) (N := 6) hx hb hg inX3 hown hKn.1 hP (c0) (x_at3 (c := c0) h0) rfl 0 (Nat.le_of_ble_eq_true rfl) (hg _ lkF_X3_9) (fun _ h9 => h9) rfl dX3_begin_28 ?_
        refine lv_iload_n hx hb dX3_begin_31 rfl (lv_at hl 2 rfl) ?_
        refine lv_aload_n hx hb dX3_begin_32 rfl (lv_at hl 1 rfl) ?_
        refine lv_iload_n hx hb dX3_begin_33 rfl (lv_at hl 2 rfl) ?_
        obtain ⟨r_15, e34, h⟩ := bo_use h
        refine gc_i (va_runVN (As := [.int (v2_12)]) (rest := [.int (v2_12), .ref (ad ((c0 + 1)))]) hFx (tX1_hasOpinion l dC dI kI ad c1 v2_12 M_13 h1 e34) ⟨(gc_N hFx hKn.2.2 ck_yX1_hasOpinion nkM_X3_31 ⟨Nat.le_of_ble_eq_true rfl, Nat.le_of_ble_eq_true rfl⟩ rfl rfl), hg _ vi_yX1_hasOpinion, hg _ vs_yX1_hasOpinion⟩ (gp_V x_KnB (x_KnW hKn) hP (x_rc1 (c := c1) h1 hKn hP)) rfl rfl hl.1 rfl (lv_room (Nat.le_of_ble_eq_true rfl)) dX3_begin_34 ⟨Nat.zero_le _, Nat.zero_le _⟩) hS (fun H locs hP hS => ?_)
        have hP : va_P (dC, dI) vwCl (x_w kI ad M_13) H := hP
        obtain ⟨J52, eJ52, h⟩ := jn_use h
        have hJ52 : ∀ (s_16 : Int32) (H : Heap) (locs : List Loc) (ls : Array Slot), va_P (dC, dI) vwCl (x_w kI ad M_13) H → va_S (x_A ad) s.heap H locs → lv_has ls 3 [(0, .ref (ad (c0))), (1, .ref (ad (c1))), (2, .int (v2_12))] → J52 s_16 = some M0 → W p l e (headSpec (wsA yX3_begin cX3_begin 3 none) ({ frames := 1, cells := 0, slots := 0, locals := 22 } : Room)).room s m (([.ref (ad (c0)), .ref (ad (c1))] : List Value).toArray) below meth c H locs 0 0 (MQ below (va_Qv (fun (u : (Nat → Nat → Int32)) => u = M0) (gI (x_Wd dC dI kI ad) (x_Kn dC dI kI ad)) (x_A ad)) (([.ref (ad (c0)), .ref (ad (c1))] : List Value).toArray) s 0 0 (x_A ad)) (F0 m 52 ls [.int (s_16), .int (v2_12), .ref (ad ((c0 + 1)))]) := by
          intro s_16 H locs ls hP hS hl h
          have h := useK1 eJ52 h
          obtain ⟨M_17, e52, h⟩ := bo_use h
          refine gc_v (va_runSN (As := [.ref (ad ((c0 + 1))), .int (v2_12), .int (s_16)]) (rest := []) hFx (tX7_put l dC dI kI ad (c0 + 1) v2_12 s_16 M_13 (x_ar3_1 h0) e52) ⟨(gc_N hFx hKn.2.2 ck_yX7_put nkM_X3_44 ⟨Nat.le_of_ble_eq_true rfl, Nat.le_of_ble_eq_true rfl⟩ rfl rfl), hg _ st_yX7_put, trivial⟩ (gp_S x_KnB (x_KnW hKn) hP) rfl rfl hl.1 rfl (lv_room (Nat.le_of_ble_eq_true rfl)) dX3_begin_52 ⟨Nat.zero_le _, Nat.zero_le _⟩) hS (fun H locs hP hS => ?_)
          have hP : va_P (dC, dI) vwCl (x_w kI ad M_17) H := hP
          refine lv_iinc (v := (v2_12 + 1)) (lv' := [(2, .int ((v2_12 + 1))), (0, .ref (ad (c0))), (1, .ref (ad (c1)))]) hx hb dX3_begin_55 hl (k := 2) rfl rfl (Nat.le_of_ble_eq_true rfl) rfl (fun ls hl => ?_)
          refine lv_goto (tgt := 22) hx hb dX3_begin_58 (by decide) ?_
          exact ih22 (v2_12 + 1) M_17 _ _ _ hP hS (lv_sub hl [1, 2, 0] rfl) h
        refine lv_if_eq (tgt := 51) hx hb dX3_begin_37 (by decide) (fun c_18 => ?_) (fun c_18 => ?_)
        · have h := ife_t c_18 h
          refine lv_iconst (v := 0) hx hb dX3_begin_51 (by decide) ?_
          exact hJ52 0 _ _ _ hP hS (lv_sub hl [0, 1, 2] rfl) h
        · have h := ife_f c_18 h
          refine lv_aload_n hx hb dX3_begin_40 rfl (lv_at hl 1 rfl) ?_
          refine va_getN (D := (dC, dI)) (ci := 1) (v := .ref (ad ((c1 + 1)))) (C := RX1) (T := TX1) (N := 10) hx hb hg inX1 hown hKn.1 hP (c1) (x_at1 (c := c1) h1) rfl 4 (Nat.le_of_ble_eq_true rfl) (nest_use hKn.2.2 nkF_X3_37) (fun _ h9 => h9) rfl dX3_begin_41 ?_
          refine lv_iload_n hx hb dX3_begin_44 rfl (lv_at hl 2 rfl) ?_
          obtain ⟨r_19, e45, h⟩ := bo_use h
          refine gc_i (va_runSN (As := [.ref (ad ((c1 + 1))), .int (v2_12)]) (rest := [.int (v2_12), .ref (ad ((c0 + 1)))]) hFx (tX7_at l dC dI kI ad (c1 + 1) v2_12 M_13 (x_ar1_1 h1) e45) ⟨(gc_N hFx hKn.2.2 ck_yX7_at nkM_X3_40 ⟨Nat.le_of_ble_eq_true rfl, Nat.le_of_ble_eq_true rfl⟩ rfl rfl), hg _ st_yX7_at, trivial⟩ (gp_S x_KnB (x_KnW hKn) hP) rfl rfl hl.1 rfl (lv_room (Nat.le_of_ble_eq_true rfl)) dX3_begin_45 ⟨Nat.zero_le _, Nat.zero_le _⟩) hS (fun H locs hP hS => ?_)
          have hP : va_P (dC, dI) vwCl (x_w kI ad M_13) H := hP
          refine lv_goto (tgt := 52) hx hb dX3_begin_48 (by decide) ?_
          exact hJ52 r_19 _ _ _ hP hS (lv_sub hl [0, 1, 2] rfl) h
  exact hL22 fuelN 0 (upd2 (upd2 (upd2 (upd2 M c0 2 0) c0 3 0) c0 4 0) c0 5 (-1)) _ _ _ hP hS (lv_sub hl [1, 2, 0] rfl) h
noncomputable def FX3_convincedOf_L4 (c0 : Nat) (c1 : Nat) (M : (Nat → Nat → Int32)) (K : Int32 → Option Int32) (k : Nat) (v2_2 : Int32) (v3_3 : Int32) : Option Int32 := match k with
  | 0 => none
  | k + 1 => (if (M c1 1) ≤ v3_3 then K v2_2 else bo (FX7_at (c0 + 1) v3_3 M) (fun (r_5 : Int32) => jn (fun (s_6 : Int32) => FX3_convincedOf_L4 c0 c1 M K k (v2_2 ||| s_6) (v3_3 + 1)) (fun J35 => (if r_5 < (M c1 3) then J35 0 else J35 (1 <<< (v3_3 &&& 31))))))
noncomputable def FX3_convincedOf (c0 : Nat) (c1 : Nat) (M : (Nat → Nat → Int32)) : Option Int32 :=
  FX3_convincedOf_L4 c0 c1 M (fun (k2_1 : Int32) => some k2_1) fuelN 0 0
set_option maxHeartbeats 4000000 in
set_option maxRecDepth 100000 in
theorem tX3_convincedOf (l : Launch) (dC : Nat → ClassId) (dI : Nat → Nat → Nat) (kI : ClassId) (ad : Nat → Nat) (c0 : Nat) (c1 : Nat) (M : (Nat → Nat → Int32)) (h0 : x_is3 c0) (h1 : x_is1 c1) {r0 : Int32} (h : FX3_convincedOf c0 c1 M = some r0) : Met l yX3_convincedOf (wsA yX3_convincedOf cX3_convincedOf 4 (some .int)) ({ frames := 1, cells := 0, slots := 0, locals := 21 } : Room) (va_Pc [.ref (ad (c0)), .ref (ad (c1))] (gI (x_Wd dC dI kI ad) (x_Kn dC dI kI ad) M)) (va_Qi (fun (r : Int32) (u : (Nat → Nat → Int32)) => r = r0 ∧ u = M) (gI (x_Wd dC dI kI ad) (x_Kn dC dI kI ad)) (x_A ad)) 0 0 (x_A ad) := by
  refine Met.ofW (cc := cX3_convincedOf) (maxL := 4) (ret := (some .int)) (by decide) rfl ?_
  intro p e s m args below meth c s₁ B hml hv
  obtain ⟨rfl, hP, hKn⟩ := hv
  have hx := B.exec
  have hb := B.bytes
  have hr := B.returns
  have hts := atoms_spec (ws := wsA yX3_convincedOf cX3_convincedOf 4 (some .int)) B.pre
  have hg : ∀ w ∈ lw_good, w.before _ s = true := fun w h => hts w (List.mem_cons_of_mem _ h)
  have hown : s.vm.findClass RX3 = some m.cls := findClass_of_methodNamed B.named
  have hlocks := B.notSynchronized
  have hS : va_S (x_A ad) s.heap s.heap [] := va_S.rf
  have hFx : gFix p c cX3_convincedOf 4 s m _ RX3 := ⟨hx, hb, hml, hown, hg⟩
  have hP : va_P (dC, dI) vwCl (x_w kI ad M) s.heap := hP
  have hl := lv_entry ([.ref (ad (c0)), .ref (ad (c1))]) (n := 4) (Nat.le_of_ble_eq_true rfl)
  rw [lg_entry_eq]
  generalize (lg_sl ([.ref (ad (c0)), .ref (ad (c1))]) ++ List.replicate (4 - (lg_sl ([.ref (ad (c0)), .ref (ad (c1))])).length) Slot.unset).toArray = ls at hl ⊢
  have hl : lv_has ls 4 [(0, .ref (ad (c0))), (1, .ref (ad (c1)))] := hl
  unfold FX3_convincedOf at h
  refine lv_iconst (v := 0) hx hb dX3_convincedOf_0 (by decide) ?_
  refine lv_istore_n (lv' := [(2, .int (0)), (0, .ref (ad (c0))), (1, .ref (ad (c1)))]) hx hb dX3_convincedOf_1 rfl hl (Nat.le_of_ble_eq_true rfl) rfl (fun ls hl => ?_)
  refine lv_iconst (v := 0) hx hb dX3_convincedOf_2 (by decide) ?_
  refine lv_istore_n (lv' := [(3, .int (0)), (2, .int (0)), (0, .ref (ad (c0))), (1, .ref (ad (c1)))]) hx hb dX3_convincedOf_3 rfl hl (Nat.le_of_ble_eq_true rfl) rfl (fun ls hl => ?_)
  obtain ⟨K4, eK4, h⟩ := exK (Lp := fun K => FX3_convincedOf_L4 c0 c1 M K fuelN 0 0) h
  have hK4 : ∀ (k2_1 : Int32) (H : Heap) (locs : List Loc) (ls : Array Slot), va_P (dC, dI) vwCl (x_w kI ad M) H → va_S (x_A ad) s.heap H locs → lv_has ls 4 [(2, .int (k2_1))] → K4 k2_1 = some r0 → W p l e (headSpec (wsA yX3_convincedOf cX3_convincedOf 4 (some .int)) ({ frames := 1, cells := 0, slots := 0, locals := 21 } : Room)).room s m (([.ref (ad (c0)), .ref (ad (c1))] : List Value).toArray) below meth c H locs 0 0 (MQ below (va_Qi (fun (r : Int32) (u : (Nat → Nat → Int32)) => r = r0 ∧ u = M) (gI (x_Wd dC dI kI ad) (x_Kn dC dI kI ad)) (x_A ad)) (([.ref (ad (c0)), .ref (ad (c1))] : List Value).toArray) s 0 0 (x_A ad)) (F0 m 43 ls []) := by
    intro k2_1 H locs ls hP hS hl h
    have h := useK1 eK4 h
    refine lv_iload_n hx hb dX3_convincedOf_43 rfl (lv_at hl 0 rfl) ?_
    exact W.iret (v := k2_1) hx hb hr (fun t ht hW => ⟨⟨k2_1, M, rfl, ⟨Option.some.inj h, rfl⟩, by rw [ht]; exact hP, x_KnW hKn t hW⟩, hS.F ht⟩) hS.2.2 dX3_convincedOf_44
  have hL4 : ∀ (k : Nat) (v2_2 : Int32) (v3_3 : Int32) (H : Heap) (locs : List Loc) (ls : Array Slot), va_P (dC, dI) vwCl (x_w kI ad M) H → va_S (x_A ad) s.heap H locs → lv_has ls 4 [(0, .ref (ad (c0))), (1, .ref (ad (c1))), (2, .int (v2_2)), (3, .int (v3_3))] → FX3_convincedOf_L4 c0 c1 M K4 k v2_2 v3_3 = some r0 → W p l e (headSpec (wsA yX3_convincedOf cX3_convincedOf 4 (some .int)) ({ frames := 1, cells := 0, slots := 0, locals := 21 } : Room)).room s m (([.ref (ad (c0)), .ref (ad (c1))] : List Value).toArray) below meth c H locs 0 0 (MQ below (va_Qi (fun (r : Int32) (u : (Nat → Nat → Int32)) => r = r0 ∧ u = M) (gI (x_Wd dC dI kI ad) (x_Kn dC dI kI ad)) (x_A ad)) (([.ref (ad (c0)), .ref (ad (c1))] : List Value).toArray) s 0 0 (x_A ad)) (F0 m 4 ls []) := by
    intro k
    induction k with
    | zero => intro v2_2 v3_3 H locs ls hP hS hl h; cases h
    | succ k ih4 =>
      intro v2_2 v3_3 H locs ls hP hS hl h
      unfold FX3_convincedOf_L4 at h
      refine lv_iload_n hx hb dX3_convincedOf_4 rfl (lv_at hl 3 rfl) ?_
      refine lv_aload_n hx hb dX3_convincedOf_5 rfl (lv_at hl 1 rfl) ?_
      refine va_getN (D := (dC, dI)) (ci := 1) (v := .int ((M c1 1))) (C := RX1) (T := TX1) (N := 10) hx hb hg inX1 hown hKn.1 hP (c1) (x_at1 (c := c1) h1) rfl 1 (Nat.le_of_ble_eq_true rfl) (nest_use hKn.2.2 nkF_X3_54) (fun _ h9 => h9) rfl dX3_convincedOf_6 ?_
      refine lv_icmp_ge (tgt := 43) hx hb dX3_convincedOf_9 (by decide) (fun c_4 => ?_) (fun c_4 => ?_)
      · have h := ife_t c_4 h
        exact hK4 v2_2 _ _ _ hP hS (lv_sub hl [2] rfl) h
      · have h := ife_f c_4 h
        refine lv_iload_n hx hb dX3_convincedOf_12 rfl (lv_at hl 2 rfl) ?_
        refine lv_aload_n hx hb dX3_convincedOf_13 rfl (lv_at hl 0 rfl) ?_
        refine va_get (D := (dC, dI)) (ci := 3) (v := .ref (ad ((c0 + 1)))) (C := RX3) (T := TX3) (N := 6) hx hb hg inX3 hown hKn.1 hP (c0) (x_at3 (c := c0) h0) rfl 0 (Nat.le_of_ble_eq_true rfl) (hg _ lkF_X3_9) (fun _ h9 => h9) rfl dX3_convincedOf_14 ?_
        refine lv_iload_n hx hb dX3_convincedOf_17 rfl (lv_at hl 3 rfl) ?_
        obtain ⟨r_5, e18, h⟩ := bo_use h
        refine gc_i (va_runSN (As := [.ref (ad ((c0 + 1))), .int (v3_3)]) (rest := [.int (v2_2)]) hFx (tX7_at l dC dI kI ad (c0 + 1) v3_3 M (x_ar3_1 h0) e18) ⟨(gc_N hFx hKn.2.2 ck_yX7_at nkM_X3_40 ⟨Nat.le_of_ble_eq_true rfl, Nat.le_of_ble_eq_true rfl⟩ rfl rfl), hg _ st_yX7_at, trivial⟩ (gp_S x_KnB (x_KnW hKn) hP) rfl rfl hl.1 rfl (lv_room (Nat.le_of_ble_eq_true rfl)) dX3_convincedOf_18 ⟨Nat.zero_le _, Nat.zero_le _⟩) hS (fun H locs hP hS => ?_)
        have hP : va_P (dC, dI) vwCl (x_w kI ad M) H := hP
        refine lv_aload_n hx hb dX3_convincedOf_21 rfl (lv_at hl 1 rfl) ?_
        refine va_getN (D := (dC, dI)) (ci := 1) (v := .int ((M c1 3))) (C := RX1) (T := TX1) (N := 10) hx hb hg inX1 hown hKn.1 hP (c1) (x_at1 (c := c1) h1) rfl 3 (Nat.le_of_ble_eq_true rfl) (nest_use hKn.2.2 nkF_X3_57) (fun _ h9 => h9) rfl dX3_convincedOf_22 ?_
        obtain ⟨J35, eJ35, h⟩ := jn_use h
        have hJ35 : ∀ (s_6 : Int32) (H : Heap) (locs : List Loc) (ls : Array Slot), va_P (dC, dI) vwCl (x_w kI ad M) H → va_S (x_A ad) s.heap H locs → lv_has ls 4 [(0, .ref (ad (c0))), (1, .ref (ad (c1))), (3, .int (v3_3))] → J35 s_6 = some r0 → W p l e (headSpec (wsA yX3_convincedOf cX3_convincedOf 4 (some .int)) ({ frames := 1, cells := 0, slots := 0, locals := 21 } : Room)).room s m (([.ref (ad (c0)), .ref (ad (c1))] : List Value).toArray) below meth c H locs 0 0 (MQ below (va_Qi (fun (r : Int32) (u : (Nat → Nat → Int32)) => r = r0 ∧ u = M) (gI (x_Wd dC dI kI ad) (x_Kn dC dI kI ad)) (x_A ad)) (([.ref (ad (c0)), .ref (ad (c1))] : List Value).toArray) s 0 0 (x_A ad)) (F0 m 35 ls [.int (s_6), .int (v2_2)]) := by
          intro s_6 H locs ls hP hS hl h
          have h := useK1 eJ35 h
          refine lv_ior hx hb dX3_convincedOf_35 ?_
          refine lv_istore_n (lv' := [(2, .int ((v2_2 ||| s_6))), (0, .ref (ad (c0))), (1, .ref (ad (c1))), (3, .int (v3_3))]) hx hb dX3_convincedOf_36 rfl hl (Nat.le_of_ble_eq_true rfl) rfl (fun ls hl => ?_)
          refine lv_iinc (v := (v3_3 + 1)) (lv' := [(3, .int ((v3_3 + 1))), (2, .int ((v2_2 ||| s_6))), (0, .ref (ad (c0))), (1, .ref (ad (c1)))]) hx hb dX3_convincedOf_37 hl (k := 3) rfl rfl (Nat.le_of_ble_eq_true rfl) rfl (fun ls hl => ?_)
          refine lv_goto (tgt := 4) hx hb dX3_convincedOf_40 (by decide) ?_
          exact ih4 (v2_2 ||| s_6) (v3_3 + 1) _ _ _ hP hS (lv_sub hl [2, 3, 1, 0] rfl) h
        refine lv_icmp_lt (tgt := 34) hx hb dX3_convincedOf_25 (by decide) (fun c_7 => ?_) (fun c_7 => ?_)
        · have h := ife_t c_7 h
          refine lv_iconst (v := 0) hx hb dX3_convincedOf_34 (by decide) ?_
          exact hJ35 0 _ _ _ hP hS (lv_sub hl [0, 1, 3] rfl) h
        · have h := ife_f c_7 h
          refine lv_iconst (v := 1) hx hb dX3_convincedOf_28 (by decide) ?_
          refine lv_iload_n hx hb dX3_convincedOf_29 rfl (lv_at hl 3 rfl) ?_
          refine lv_ishl hx hb dX3_convincedOf_30 ?_
          refine lv_goto (tgt := 35) hx hb dX3_convincedOf_31 (by decide) ?_
          exact hJ35 (1 <<< (v3_3 &&& 31)) _ _ _ hP hS (lv_sub hl [0, 1, 3] rfl) h
  exact hL4 fuelN 0 0 _ _ _ hP hS (lv_sub hl [2, 3, 1, 0] rfl) h
noncomputable def FX3_copyFrom_L63 (c0 : Nat) (c1 : Nat) (K : (Nat → Nat → Int32) → Option (Nat → Nat → Int32)) (k : Nat) (v2_3 : Int32) (M_4 : (Nat → Nat → Int32)) : Option (Nat → Nat → Int32) := match k with
  | 0 => none
  | k + 1 => (if 8 ≤ v2_3 then K M_4 else bo (FX7_at (c1 + 2) v2_3 M_4) (fun (r_6 : Int32) => bo (FX7_put (c0 + 2) v2_3 r_6 M_4) (fun (M_7 : (Nat → Nat → Int32)) => FX3_copyFrom_L63 c0 c1 K k (v2_3 + 1) M_7)))
noncomputable def FX3_copyFrom_L34 (c0 : Nat) (c1 : Nat) (K : (Nat → Nat → Int32) → Option (Nat → Nat → Int32)) (k : Nat) (v2_8 : Int32) (M_9 : (Nat → Nat → Int32)) : Option (Nat → Nat → Int32) := match k with
  | 0 => none
  | k + 1 => (if 5 ≤ v2_8 then K M_9 else bo (FX7_at (c1 + 1) v2_8 M_9) (fun (r_11 : Int32) => bo (FX7_put (c0 + 1) v2_8 r_11 M_9) (fun (M_12 : (Nat → Nat → Int32)) => FX3_copyFrom_L34 c0 c1 K k (v2_8 + 1) M_12)))
noncomputable def FX3_copyFrom (c0 : Nat) (c1 : Nat) (M : (Nat → Nat → Int32)) : Option (Nat → Nat → Int32) :=
  FX3_copyFrom_L34 c0 c1 (fun (M_1 : (Nat → Nat → Int32)) => FX3_copyFrom_L63 c0 c1 (fun (M_2 : (Nat → Nat → Int32)) => some M_2) fuelN 0 M_1) fuelN 0 (upd2 (upd2 (upd2 (upd2 M c0 2 (M c1 2)) c0 3 (upd2 M c0 2 (M c1 2) c1 3)) c0 4 (upd2 (upd2 M c0 2 (M c1 2)) c0 3 (upd2 M c0 2 (M c1 2) c1 3) c1 4)) c0 5 (upd2 (upd2 (upd2 M c0 2 (M c1 2)) c0 3 (upd2 M c0 2 (M c1 2) c1 3)) c0 4 (upd2 (upd2 M c0 2 (M c1 2)) c0 3 (upd2 M c0 2 (M c1 2) c1 3) c1 4) c1 5))
set_option maxHeartbeats 4000000 in
set_option maxRecDepth 100000 in
theorem tX3_copyFrom (l : Launch) (dC : Nat → ClassId) (dI : Nat → Nat → Nat) (kI : ClassId) (ad : Nat → Nat) (c0 : Nat) (c1 : Nat) (M : (Nat → Nat → Int32)) (h0 : x_is3 c0) (h1 : x_is3 c1) {M0 : (Nat → Nat → Int32)} (h : FX3_copyFrom c0 c1 M = some M0) : Met l yX3_copyFrom (wsA yX3_copyFrom cX3_copyFrom 3 none) ({ frames := 1, cells := 0, slots := 0, locals := 22 } : Room) (va_Pc [.ref (ad (c0)), .ref (ad (c1))] (gI (x_Wd dC dI kI ad) (x_Kn dC dI kI ad) M)) (va_Qv (fun (u : (Nat → Nat → Int32)) => u = M0) (gI (x_Wd dC dI kI ad) (x_Kn dC dI kI ad)) (x_A ad)) 0 0 (x_A ad) := by
  refine Met.ofW (cc := cX3_copyFrom) (maxL := 3) (ret := none) (by decide) rfl ?_
  intro p e s m args below meth c s₁ B hml hv
  obtain ⟨rfl, hP, hKn⟩ := hv
  have hx := B.exec
  have hb := B.bytes
  have hr := B.returns
  have hts := atoms_spec (ws := wsA yX3_copyFrom cX3_copyFrom 3 none) B.pre
  have hg : ∀ w ∈ lw_good, w.before _ s = true := fun w h => hts w (List.mem_cons_of_mem _ h)
  have hown : s.vm.findClass RX3 = some m.cls := findClass_of_methodNamed B.named
  have hlocks := B.notSynchronized
  have hS : va_S (x_A ad) s.heap s.heap [] := va_S.rf
  have hFx : gFix p c cX3_copyFrom 3 s m _ RX3 := ⟨hx, hb, hml, hown, hg⟩
  have hP : va_P (dC, dI) vwCl (x_w kI ad M) s.heap := hP
  have hl := lv_entry ([.ref (ad (c0)), .ref (ad (c1))]) (n := 3) (Nat.le_of_ble_eq_true rfl)
  rw [lg_entry_eq]
  generalize (lg_sl ([.ref (ad (c0)), .ref (ad (c1))]) ++ List.replicate (3 - (lg_sl ([.ref (ad (c0)), .ref (ad (c1))])).length) Slot.unset).toArray = ls at hl ⊢
  have hl : lv_has ls 3 [(0, .ref (ad (c0))), (1, .ref (ad (c1)))] := hl
  unfold FX3_copyFrom at h
  refine lv_aload_n hx hb dX3_copyFrom_0 rfl (lv_at hl 0 rfl) ?_
  refine lv_aload_n hx hb dX3_copyFrom_1 rfl (lv_at hl 1 rfl) ?_
  refine va_get (D := (dC, dI)) (ci := 3) (v := .int ((M c1 2))) (C := RX3) (T := TX3) (N := 6) hx hb hg inX3 hown hKn.1 hP (c1) (x_at3 (c := c1) h1) rfl 2 (Nat.le_of_ble_eq_true rfl) (hg _ lkF_X3_22) (fun _ h9 => h9) rfl dX3_copyFrom_2 ?_
  refine va_put (D := (dC, dI)) (ci := 3) (v := .int ((M c1 2))) (ty := .int) (C := RX3) (T := TX3) (N := 6) hx hb hg inX3 tyX3 tyX3_ok nmX3 hown hKn.1 hP (x_D hKn.2.1) hS (c0) (x_at3 (c := c0) h0) rfl 2 (Nat.le_of_ble_eq_true rfl) (hg _ lkF_X3_22) (fun _ h9 => h9) rfl (by decide +kernel) rfl rfl (Nat.le_of_ble_eq_true rfl) dX3_copyFrom_5 (fun H locs hP _ hS => ?_)
  have hP : va_P (dC, dI) vwCl (x_w kI ad (upd2 M c0 2 (M c1 2))) H := vp_eq (x_put3_2 h0 _) hP
  refine lv_aload_n hx hb dX3_copyFrom_8 rfl (lv_at hl 0 rfl) ?_
  refine lv_aload_n hx hb dX3_copyFrom_9 rfl (lv_at hl 1 rfl) ?_
  refine va_get (D := (dC, dI)) (ci := 3) (v := .int ((upd2 M c0 2 (M c1 2) c1 3))) (C := RX3) (T := TX3) (N := 6) hx hb hg inX3 hown hKn.1 hP (c1) (x_at3 (c := c1) h1) rfl 3 (Nat.le_of_ble_eq_true rfl) (hg _ lkF_X3_25) (fun _ h9 => h9) rfl dX3_copyFrom_10 ?_
  refine va_put (D := (dC, dI)) (ci := 3) (v := .int ((upd2 M c0 2 (M c1 2) c1 3))) (ty := .int) (C := RX3) (T := TX3) (N := 6) hx hb hg inX3 tyX3 tyX3_ok nmX3 hown hKn.1 hP (x_D hKn.2.1) hS (c0) (x_at3 (c := c0) h0) rfl 3 (Nat.le_of_ble_eq_true rfl) (hg _ lkF_X3_25) (fun _ h9 => h9) rfl (by decide +kernel) rfl rfl (Nat.le_of_ble_eq_true rfl) dX3_copyFrom_13 (fun H locs hP _ hS => ?_)
  have hP : va_P (dC, dI) vwCl (x_w kI ad (upd2 (upd2 M c0 2 (M c1 2)) c0 3 (upd2 M c0 2 (M c1 2) c1 3))) H := vp_eq (x_put3_3 h0 _) hP
  refine lv_aload_n hx hb dX3_copyFrom_16 rfl (lv_at hl 0 rfl) ?_
  refine lv_aload_n hx hb dX3_copyFrom_17 rfl (lv_at hl 1 rfl) ?_
  refine va_get (D := (dC, dI)) (ci := 3) (v := .int ((upd2 (upd2 M c0 2 (M c1 2)) c0 3 (upd2 M c0 2 (M c1 2) c1 3) c1 4))) (C := RX3) (T := TX3) (N := 6) hx hb hg inX3 hown hKn.1 hP (c1) (x_at3 (c := c1) h1) rfl 4 (Nat.le_of_ble_eq_true rfl) (hg _ lkF_X3_28) (fun _ h9 => h9) rfl dX3_copyFrom_18 ?_
  refine va_put (D := (dC, dI)) (ci := 3) (v := .int ((upd2 (upd2 M c0 2 (M c1 2)) c0 3 (upd2 M c0 2 (M c1 2) c1 3) c1 4))) (ty := .int) (C := RX3) (T := TX3) (N := 6) hx hb hg inX3 tyX3 tyX3_ok nmX3 hown hKn.1 hP (x_D hKn.2.1) hS (c0) (x_at3 (c := c0) h0) rfl 4 (Nat.le_of_ble_eq_true rfl) (hg _ lkF_X3_28) (fun _ h9 => h9) rfl (by decide +kernel) rfl rfl (Nat.le_of_ble_eq_true rfl) dX3_copyFrom_21 (fun H locs hP _ hS => ?_)
  have hP : va_P (dC, dI) vwCl (x_w kI ad (upd2 (upd2 (upd2 M c0 2 (M c1 2)) c0 3 (upd2 M c0 2 (M c1 2) c1 3)) c0 4 (upd2 (upd2 M c0 2 (M c1 2)) c0 3 (upd2 M c0 2 (M c1 2) c1 3) c1 4))) H := vp_eq (x_put3_4 h0 _) hP
  refine lv_aload_n hx hb dX3_copyFrom_24 rfl (lv_at hl 0 rfl) ?_
  refine lv_aload_n hx hb dX3_copyFrom_25 rfl (lv_at hl 1 rfl) ?_
  refine va_get (D := (dC, dI)) (ci := 3) (v := .int ((upd2 (upd2 (upd2 M c0 2 (M c1 2)) c0 3 (upd2 M c0 2 (M c1 2) c1 3)) c0 4 (upd2 (upd2 M c0 2 (M c1 2)) c0 3 (upd2 M c0 2 (M c1 2) c1 3) c1 4) c1 5))) (C := RX3) (T := TX3) (N := 6) hx hb hg inX3 hown hKn.1 hP (c1) (x_at3 (c := c1) h1) rfl 5 (Nat.le_of_ble_eq_true rfl) (hg _ lkF_X3_18) (fun _ h9 => h9) rfl dX3_copyFrom_26 ?_
  refine va_put (D := (dC, dI)) (ci := 3) (v := .int ((upd2 (upd2 (upd2 M c0 2 (M c1 2)) c0 3 (upd2 M c0 2 (M c1 2) c1 3)) c0 4 (upd2 (upd2 M c0 2 (M c1 2)) c0 3 (upd2 M c0 2 (M c1 2) c1 3) c1 4) c1 5))) (ty := .int) (C := RX3) (T := TX3) (N := 6) hx hb hg inX3 tyX3 tyX3_ok nmX3 hown hKn.1 hP (x_D hKn.2.1) hS (c0) (x_at3 (c := c0) h0) rfl 5 (Nat.le_of_ble_eq_true rfl) (hg _ lkF_X3_18) (fun _ h9 => h9) rfl (by decide +kernel) rfl rfl (Nat.le_of_ble_eq_true rfl) dX3_copyFrom_29 (fun H locs hP _ hS => ?_)
  have hP : va_P (dC, dI) vwCl (x_w kI ad (upd2 (upd2 (upd2 (upd2 M c0 2 (M c1 2)) c0 3 (upd2 M c0 2 (M c1 2) c1 3)) c0 4 (upd2 (upd2 M c0 2 (M c1 2)) c0 3 (upd2 M c0 2 (M c1 2) c1 3) c1 4)) c0 5 (upd2 (upd2 (upd2 M c0 2 (M c1 2)) c0 3 (upd2 M c0 2 (M c1 2) c1 3)) c0 4 (upd2 (upd2 M c0 2 (M c1 2)) c0 3 (upd2 M c0 2 (M c1 2) c1 3) c1 4) c1 5))) H := vp_eq (x_put3_5 h0 _) hP
  refine lv_iconst (v := 0) hx hb dX3_copyFrom_32 (by decide) ?_
  refine lv_istore_n (lv' := [(2, .int (0)), (0, .ref (ad (c0))), (1, .ref (ad (c1)))]) hx hb dX3_copyFrom_33 rfl hl (Nat.le_of_ble_eq_true rfl) rfl (fun ls hl => ?_)
  obtain ⟨K34, eK34, h⟩ := exK (Lp := fun K => FX3_copyFrom_L34 c0 c1 K fuelN 0 (upd2 (upd2 (upd2 (upd2 M c0 2 (M c1 2)) c0 3 (upd2 M c0 2 (M c1 2) c1 3)) c0 4 (upd2 (upd2 M c0 2 (M c1 2)) c0 3 (upd2 M c0 2 (M c1 2) c1 3) c1 4)) c0 5 (upd2 (upd2 (upd2 M c0 2 (M c1 2)) c0 3 (upd2 M c0 2 (M c1 2) c1 3)) c0 4 (upd2 (upd2 M c0 2 (M c1 2)) c0 3 (upd2 M c0 2 (M c1 2) c1 3) c1 4) c1 5))) h
  have hK34 : ∀ (M_1 : (Nat → Nat → Int32)) (H : Heap) (locs : List Loc) (ls : Array Slot), va_P (dC, dI) vwCl (x_w kI ad M_1) H → va_S (x_A ad) s.heap H locs → lv_has ls 3 [(0, .ref (ad (c0))), (1, .ref (ad (c1)))] → K34 M_1 = some M0 → W p l e (headSpec (wsA yX3_copyFrom cX3_copyFrom 3 none) ({ frames := 1, cells := 0, slots := 0, locals := 22 } : Room)).room s m (([.ref (ad (c0)), .ref (ad (c1))] : List Value).toArray) below meth c H locs 0 0 (MQ below (va_Qv (fun (u : (Nat → Nat → Int32)) => u = M0) (gI (x_Wd dC dI kI ad) (x_Kn dC dI kI ad)) (x_A ad)) (([.ref (ad (c0)), .ref (ad (c1))] : List Value).toArray) s 0 0 (x_A ad)) (F0 m 61 ls []) := by
    intro M_1 H locs ls hP hS hl h
    have h := useK1 eK34 h
    refine lv_iconst (v := 0) hx hb dX3_copyFrom_61 (by decide) ?_
    refine lv_istore_n (lv' := [(2, .int (0)), (0, .ref (ad (c0))), (1, .ref (ad (c1)))]) hx hb dX3_copyFrom_62 rfl hl (Nat.le_of_ble_eq_true rfl) rfl (fun ls hl => ?_)
    obtain ⟨K63, eK63, h⟩ := exK (Lp := fun K => FX3_copyFrom_L63 c0 c1 K fuelN 0 M_1) h
    have hK63 : ∀ (M_2 : (Nat → Nat → Int32)) (H : Heap) (locs : List Loc) (ls : Array Slot), va_P (dC, dI) vwCl (x_w kI ad M_2) H → va_S (x_A ad) s.heap H locs → lv_has ls 3 [] → K63 M_2 = some M0 → W p l e (headSpec (wsA yX3_copyFrom cX3_copyFrom 3 none) ({ frames := 1, cells := 0, slots := 0, locals := 22 } : Room)).room s m (([.ref (ad (c0)), .ref (ad (c1))] : List Value).toArray) below meth c H locs 0 0 (MQ below (va_Qv (fun (u : (Nat → Nat → Int32)) => u = M0) (gI (x_Wd dC dI kI ad) (x_Kn dC dI kI ad)) (x_A ad)) (([.ref (ad (c0)), .ref (ad (c1))] : List Value).toArray) s 0 0 (x_A ad)) (F0 m 91 ls []) := by
      intro M_2 H locs ls hP hS hl h
      have h := useK1 eK63 h
      exact W.vret hx hb hr (fun t ht hW => ⟨⟨M_2, rfl, Option.some.inj h, by rw [ht]; exact hP, x_KnW hKn t hW⟩, hS.F ht⟩) hS.2.2 dX3_copyFrom_91
    have hL63 : ∀ (k : Nat) (v2_3 : Int32) (M_4 : (Nat → Nat → Int32)) (H : Heap) (locs : List Loc) (ls : Array Slot), va_P (dC, dI) vwCl (x_w kI ad M_4) H → va_S (x_A ad) s.heap H locs → lv_has ls 3 [(0, .ref (ad (c0))), (1, .ref (ad (c1))), (2, .int (v2_3))] → FX3_copyFrom_L63 c0 c1 K63 k v2_3 M_4 = some M0 → W p l e (headSpec (wsA yX3_copyFrom cX3_copyFrom 3 none) ({ frames := 1, cells := 0, slots := 0, locals := 22 } : Room)).room s m (([.ref (ad (c0)), .ref (ad (c1))] : List Value).toArray) below meth c H locs 0 0 (MQ below (va_Qv (fun (u : (Nat → Nat → Int32)) => u = M0) (gI (x_Wd dC dI kI ad) (x_Kn dC dI kI ad)) (x_A ad)) (([.ref (ad (c0)), .ref (ad (c1))] : List Value).toArray) s 0 0 (x_A ad)) (F0 m 63 ls []) := by
      intro k
      induction k with
      | zero => intro v2_3 M_4 H locs ls hP hS hl h; cases h
      | succ k ih63 =>
        intro v2_3 M_4 H locs ls hP hS hl h
        unfold FX3_copyFrom_L63 at h
        refine lv_iload_n hx hb dX3_copyFrom_63 rfl (lv_at hl 2 rfl) ?_
        refine lv_bipush (v := 8) hx hb dX3_copyFrom_64 (by decide) ?_
        refine lv_icmp_ge (tgt := 91) hx hb dX3_copyFrom_66 (by decide) (fun c_5 => ?_) (fun c_5 => ?_)
        · have h := ife_t c_5 h
          exact hK63 M_4 _ _ _ hP hS (lv_sub hl [] rfl) h
        · have h := ife_f c_5 h
          refine lv_aload_n hx hb dX3_copyFrom_69 rfl (lv_at hl 0 rfl) ?_
          refine va_get (D := (dC, dI)) (ci := 3) (v := .ref (ad ((c0 + 2)))) (C := RX3) (T := TX3) (N := 6) hx hb hg inX3 hown hKn.1 hP (c0) (x_at3 (c := c0) h0) rfl 1 (Nat.le_of_ble_eq_true rfl) (hg _ lkF_X3_15) (fun _ h9 => h9) rfl dX3_copyFrom_70 ?_
          refine lv_iload_n hx hb dX3_copyFrom_73 rfl (lv_at hl 2 rfl) ?_
          refine lv_aload_n hx hb dX3_copyFrom_74 rfl (lv_at hl 1 rfl) ?_
          refine va_get (D := (dC, dI)) (ci := 3) (v := .ref (ad ((c1 + 2)))) (C := RX3) (T := TX3) (N := 6) hx hb hg inX3 hown hKn.1 hP (c1) (x_at3 (c := c1) h1) rfl 1 (Nat.le_of_ble_eq_true rfl) (hg _ lkF_X3_15) (fun _ h9 => h9) rfl dX3_copyFrom_75 ?_
          refine lv_iload_n hx hb dX3_copyFrom_78 rfl (lv_at hl 2 rfl) ?_
          obtain ⟨r_6, e79, h⟩ := bo_use h
          refine gc_i (va_runSN (As := [.ref (ad ((c1 + 2))), .int (v2_3)]) (rest := [.int (v2_3), .ref (ad ((c0 + 2)))]) hFx (tX7_at l dC dI kI ad (c1 + 2) v2_3 M_4 (x_ar3_2 h1) e79) ⟨(gc_N hFx hKn.2.2 ck_yX7_at nkM_X3_40 ⟨Nat.le_of_ble_eq_true rfl, Nat.le_of_ble_eq_true rfl⟩ rfl rfl), hg _ st_yX7_at, trivial⟩ (gp_S x_KnB (x_KnW hKn) hP) rfl rfl hl.1 rfl (lv_room (Nat.le_of_ble_eq_true rfl)) dX3_copyFrom_79 ⟨Nat.zero_le _, Nat.zero_le _⟩) hS (fun H locs hP hS => ?_)
          have hP : va_P (dC, dI) vwCl (x_w kI ad M_4) H := hP
          obtain ⟨M_7, e82, h⟩ := bo_use h
          refine gc_v (va_runSN (As := [.ref (ad ((c0 + 2))), .int (v2_3), .int (r_6)]) (rest := []) hFx (tX7_put l dC dI kI ad (c0 + 2) v2_3 r_6 M_4 (x_ar3_2 h0) e82) ⟨(gc_N hFx hKn.2.2 ck_yX7_put nkM_X3_44 ⟨Nat.le_of_ble_eq_true rfl, Nat.le_of_ble_eq_true rfl⟩ rfl rfl), hg _ st_yX7_put, trivial⟩ (gp_S x_KnB (x_KnW hKn) hP) rfl rfl hl.1 rfl (lv_room (Nat.le_of_ble_eq_true rfl)) dX3_copyFrom_82 ⟨Nat.zero_le _, Nat.zero_le _⟩) hS (fun H locs hP hS => ?_)
          have hP : va_P (dC, dI) vwCl (x_w kI ad M_7) H := hP
          refine lv_iinc (v := (v2_3 + 1)) (lv' := [(2, .int ((v2_3 + 1))), (0, .ref (ad (c0))), (1, .ref (ad (c1)))]) hx hb dX3_copyFrom_85 hl (k := 2) rfl rfl (Nat.le_of_ble_eq_true rfl) rfl (fun ls hl => ?_)
          refine lv_goto (tgt := 63) hx hb dX3_copyFrom_88 (by decide) ?_
          exact ih63 (v2_3 + 1) M_7 _ _ _ hP hS (lv_sub hl [1, 2, 0] rfl) h
    exact hL63 fuelN 0 M_1 _ _ _ hP hS (lv_sub hl [1, 2, 0] rfl) h
  have hL34 : ∀ (k : Nat) (v2_8 : Int32) (M_9 : (Nat → Nat → Int32)) (H : Heap) (locs : List Loc) (ls : Array Slot), va_P (dC, dI) vwCl (x_w kI ad M_9) H → va_S (x_A ad) s.heap H locs → lv_has ls 3 [(0, .ref (ad (c0))), (1, .ref (ad (c1))), (2, .int (v2_8))] → FX3_copyFrom_L34 c0 c1 K34 k v2_8 M_9 = some M0 → W p l e (headSpec (wsA yX3_copyFrom cX3_copyFrom 3 none) ({ frames := 1, cells := 0, slots := 0, locals := 22 } : Room)).room s m (([.ref (ad (c0)), .ref (ad (c1))] : List Value).toArray) below meth c H locs 0 0 (MQ below (va_Qv (fun (u : (Nat → Nat → Int32)) => u = M0) (gI (x_Wd dC dI kI ad) (x_Kn dC dI kI ad)) (x_A ad)) (([.ref (ad (c0)), .ref (ad (c1))] : List Value).toArray) s 0 0 (x_A ad)) (F0 m 34 ls []) := by
    intro k
    induction k with
    | zero => intro v2_8 M_9 H locs ls hP hS hl h; cases h
    | succ k ih34 =>
      intro v2_8 M_9 H locs ls hP hS hl h
      unfold FX3_copyFrom_L34 at h
      refine lv_iload_n hx hb dX3_copyFrom_34 rfl (lv_at hl 2 rfl) ?_
      refine lv_iconst (v := 5) hx hb dX3_copyFrom_35 (by decide) ?_
      refine lv_icmp_ge (tgt := 61) hx hb dX3_copyFrom_36 (by decide) (fun c_10 => ?_) (fun c_10 => ?_)
      · have h := ife_t c_10 h
        exact hK34 M_9 _ _ _ hP hS (lv_sub hl [0, 1] rfl) h
      · have h := ife_f c_10 h
        refine lv_aload_n hx hb dX3_copyFrom_39 rfl (lv_at hl 0 rfl) ?_
        refine va_get (D := (dC, dI)) (ci := 3) (v := .ref (ad ((c0 + 1)))) (C := RX3) (T := TX3) (N := 6) hx hb hg inX3 hown hKn.1 hP (c0) (x_at3 (c := c0) h0) rfl 0 (Nat.le_of_ble_eq_true rfl) (hg _ lkF_X3_9) (fun _ h9 => h9) rfl dX3_copyFrom_40 ?_
        refine lv_iload_n hx hb dX3_copyFrom_43 rfl (lv_at hl 2 rfl) ?_
        refine lv_aload_n hx hb dX3_copyFrom_44 rfl (lv_at hl 1 rfl) ?_
        refine va_get (D := (dC, dI)) (ci := 3) (v := .ref (ad ((c1 + 1)))) (C := RX3) (T := TX3) (N := 6) hx hb hg inX3 hown hKn.1 hP (c1) (x_at3 (c := c1) h1) rfl 0 (Nat.le_of_ble_eq_true rfl) (hg _ lkF_X3_9) (fun _ h9 => h9) rfl dX3_copyFrom_45 ?_
        refine lv_iload_n hx hb dX3_copyFrom_48 rfl (lv_at hl 2 rfl) ?_
        obtain ⟨r_11, e49, h⟩ := bo_use h
        refine gc_i (va_runSN (As := [.ref (ad ((c1 + 1))), .int (v2_8)]) (rest := [.int (v2_8), .ref (ad ((c0 + 1)))]) hFx (tX7_at l dC dI kI ad (c1 + 1) v2_8 M_9 (x_ar3_1 h1) e49) ⟨(gc_N hFx hKn.2.2 ck_yX7_at nkM_X3_40 ⟨Nat.le_of_ble_eq_true rfl, Nat.le_of_ble_eq_true rfl⟩ rfl rfl), hg _ st_yX7_at, trivial⟩ (gp_S x_KnB (x_KnW hKn) hP) rfl rfl hl.1 rfl (lv_room (Nat.le_of_ble_eq_true rfl)) dX3_copyFrom_49 ⟨Nat.zero_le _, Nat.zero_le _⟩) hS (fun H locs hP hS => ?_)
        have hP : va_P (dC, dI) vwCl (x_w kI ad M_9) H := hP
        obtain ⟨M_12, e52, h⟩ := bo_use h
        refine gc_v (va_runSN (As := [.ref (ad ((c0 + 1))), .int (v2_8), .int (r_11)]) (rest := []) hFx (tX7_put l dC dI kI ad (c0 + 1) v2_8 r_11 M_9 (x_ar3_1 h0) e52) ⟨(gc_N hFx hKn.2.2 ck_yX7_put nkM_X3_44 ⟨Nat.le_of_ble_eq_true rfl, Nat.le_of_ble_eq_true rfl⟩ rfl rfl), hg _ st_yX7_put, trivial⟩ (gp_S x_KnB (x_KnW hKn) hP) rfl rfl hl.1 rfl (lv_room (Nat.le_of_ble_eq_true rfl)) dX3_copyFrom_52 ⟨Nat.zero_le _, Nat.zero_le _⟩) hS (fun H locs hP hS => ?_)
        have hP : va_P (dC, dI) vwCl (x_w kI ad M_12) H := hP
        refine lv_iinc (v := (v2_8 + 1)) (lv' := [(2, .int ((v2_8 + 1))), (0, .ref (ad (c0))), (1, .ref (ad (c1)))]) hx hb dX3_copyFrom_55 hl (k := 2) rfl rfl (Nat.le_of_ble_eq_true rfl) rfl (fun ls hl => ?_)
        refine lv_goto (tgt := 34) hx hb dX3_copyFrom_58 (by decide) ?_
        exact ih34 (v2_8 + 1) M_12 _ _ _ hP hS (lv_sub hl [1, 2, 0] rfl) h
  exact hL34 fuelN 0 (upd2 (upd2 (upd2 (upd2 M c0 2 (M c1 2)) c0 3 (upd2 M c0 2 (M c1 2) c1 3)) c0 4 (upd2 (upd2 M c0 2 (M c1 2)) c0 3 (upd2 M c0 2 (M c1 2) c1 3) c1 4)) c0 5 (upd2 (upd2 (upd2 M c0 2 (M c1 2)) c0 3 (upd2 M c0 2 (M c1 2) c1 3)) c0 4 (upd2 (upd2 M c0 2 (M c1 2)) c0 3 (upd2 M c0 2 (M c1 2) c1 3) c1 4) c1 5)) _ _ _ hP hS (lv_sub hl [1, 2, 0] rfl) h
noncomputable def FX3_isConvinced (c0 : Nat) (c1 : Nat) (a2 : Int32) (a3 : Int32) (M : (Nat → Nat → Int32)) : Option Int32 :=
  bo (FX3_convincedOf c0 c1 M) (fun (r_1 : Int32) => (if (r_1 &&& a2) = a2 then (if (r_1 &&& a3) = 0 then some 1 else some 0) else some 0))
set_option maxHeartbeats 4000000 in
set_option maxRecDepth 100000 in
theorem tX3_isConvinced (l : Launch) (dC : Nat → ClassId) (dI : Nat → Nat → Nat) (kI : ClassId) (ad : Nat → Nat) (c0 : Nat) (c1 : Nat) (a2 : Int32) (a3 : Int32) (M : (Nat → Nat → Int32)) (h0 : x_is3 c0) (h1 : x_is1 c1) {r0 : Int32} (h : FX3_isConvinced c0 c1 a2 a3 M = some r0) : Met l yX3_isConvinced (wsA yX3_isConvinced cX3_isConvinced 5 (some .boolean)) ({ frames := 2, cells := 0, slots := 0, locals := 44 } : Room) (va_Pc [.ref (ad (c0)), .ref (ad (c1)), .int (a2), .int (a3)] (gI (x_Wd dC dI kI ad) (x_Kn dC dI kI ad) M)) (va_Qi (fun (r : Int32) (u : (Nat → Nat → Int32)) => r = r0 ∧ u = M) (gI (x_Wd dC dI kI ad) (x_Kn dC dI kI ad)) (x_A ad)) 0 0 (x_A ad) := by
  refine Met.ofW (cc := cX3_isConvinced) (maxL := 5) (ret := (some .boolean)) (by decide) rfl ?_
  intro p e s m args below meth c s₁ B hml hv
  obtain ⟨rfl, hP, hKn⟩ := hv
  have hx := B.exec
  have hb := B.bytes
  have hr := B.returns
  have hts := atoms_spec (ws := wsA yX3_isConvinced cX3_isConvinced 5 (some .boolean)) B.pre
  have hg : ∀ w ∈ lw_good, w.before _ s = true := fun w h => hts w (List.mem_cons_of_mem _ h)
  have hown : s.vm.findClass RX3 = some m.cls := findClass_of_methodNamed B.named
  have hlocks := B.notSynchronized
  have hS : va_S (x_A ad) s.heap s.heap [] := va_S.rf
  have hFx : gFix p c cX3_isConvinced 5 s m _ RX3 := ⟨hx, hb, hml, hown, hg⟩
  have hP : va_P (dC, dI) vwCl (x_w kI ad M) s.heap := hP
  have hl := lv_entry ([.ref (ad (c0)), .ref (ad (c1)), .int (a2), .int (a3)]) (n := 5) (Nat.le_of_ble_eq_true rfl)
  rw [lg_entry_eq]
  generalize (lg_sl ([.ref (ad (c0)), .ref (ad (c1)), .int (a2), .int (a3)]) ++ List.replicate (5 - (lg_sl ([.ref (ad (c0)), .ref (ad (c1)), .int (a2), .int (a3)])).length) Slot.unset).toArray = ls at hl ⊢
  have hl : lv_has ls 5 [(0, .ref (ad (c0))), (1, .ref (ad (c1))), (2, .int (a2)), (3, .int (a3))] := hl
  unfold FX3_isConvinced at h
  refine lv_aload_n hx hb dX3_isConvinced_0 rfl (lv_at hl 0 rfl) ?_
  refine lv_aload_n hx hb dX3_isConvinced_1 rfl (lv_at hl 1 rfl) ?_
  obtain ⟨r_1, e2, h⟩ := bo_use h
  refine gc_i (va_runV (As := [.ref (ad (c1))]) (rest := []) hFx (tX3_convincedOf l dC dI kI ad c0 c1 M h0 h1 e2) ⟨(gc_B hFx ck_yX3_convincedOf lkM_X3_60 ⟨Nat.le_of_ble_eq_true rfl, Nat.le_of_ble_eq_true rfl⟩ rfl rfl), hg _ vi_yX3_convincedOf, hg _ vs_yX3_convincedOf⟩ (gp_V x_KnB (x_KnW hKn) hP (x_rc3 (c := c0) h0 hKn hP)) rfl rfl hl.1 rfl (lv_room (Nat.le_of_ble_eq_true rfl)) dX3_isConvinced_2 ⟨Nat.zero_le _, Nat.zero_le _⟩) hS (fun H locs hP hS => ?_)
  have hP : va_P (dC, dI) vwCl (x_w kI ad M) H := hP
  refine lv_istore (lv' := [(4, .int (r_1)), (0, .ref (ad (c0))), (1, .ref (ad (c1))), (2, .int (a2)), (3, .int (a3))]) hx hb dX3_isConvinced_5 hl (Nat.le_of_ble_eq_true rfl) rfl (fun ls hl => ?_)
  refine lv_iload hx hb dX3_isConvinced_7 (lv_at hl 0 rfl) ?_
  refine lv_iload_n hx hb dX3_isConvinced_9 rfl (lv_at hl 3 rfl) ?_
  refine lv_iand hx hb dX3_isConvinced_10 ?_
  refine lv_iload_n hx hb dX3_isConvinced_11 rfl (lv_at hl 3 rfl) ?_
  refine lv_icmp_ne (tgt := 26) hx hb dX3_isConvinced_12 (by decide) (fun c_2 => ?_) (fun c_2 => ?_)
  · have h := ife_f c_2 h
    refine lv_iconst (v := 0) hx hb dX3_isConvinced_26 (by decide) ?_
    exact W.zret (v := 0) hx hb hr rfl (fun t ht hW => ⟨⟨0, M, rfl, ⟨Option.some.inj h, rfl⟩, by rw [ht]; exact hP, x_KnW hKn t hW⟩, hS.F ht⟩) hS.2.2 dX3_isConvinced_27
  · have h := ife_t c_2 h
    refine lv_iload hx hb dX3_isConvinced_15 (lv_at hl 0 rfl) ?_
    refine lv_iload_n hx hb dX3_isConvinced_17 rfl (lv_at hl 4 rfl) ?_
    refine lv_iand hx hb dX3_isConvinced_18 ?_
    refine lv_if_ne (tgt := 26) hx hb dX3_isConvinced_19 (by decide) (fun c_3 => ?_) (fun c_3 => ?_)
    · have h := ife_f c_3 h
      refine lv_iconst (v := 0) hx hb dX3_isConvinced_26 (by decide) ?_
      exact W.zret (v := 0) hx hb hr rfl (fun t ht hW => ⟨⟨0, M, rfl, ⟨Option.some.inj h, rfl⟩, by rw [ht]; exact hP, x_KnW hKn t hW⟩, hS.F ht⟩) hS.2.2 dX3_isConvinced_27
    · have h := ife_t c_3 h
      refine lv_iconst (v := 1) hx hb dX3_isConvinced_22 (by decide) ?_
      refine lv_goto (tgt := 27) hx hb dX3_isConvinced_23 (by decide) ?_
      exact W.zret (v := 1) hx hb hr rfl (fun t ht hW => ⟨⟨1, M, rfl, ⟨Option.some.inj h, rfl⟩, by rw [ht]; exact hP, x_KnW hKn t hW⟩, hS.F ht⟩) hS.2.2 dX3_isConvinced_27
noncomputable def FX7_wornMove (a0 : Int32) (a1 : Int32) : Option Int32 :=
  (if (1 + a1) ≤ 0 then some 0 else (if (1 + a1) = 0 then none else some (a0 / (1 + a1))))
set_option maxHeartbeats 4000000 in
set_option maxRecDepth 100000 in
theorem tX7_wornMove (l : Launch) (dC : Nat → ClassId) (dI : Nat → Nat → Nat) (kI : ClassId) (ad : Nat → Nat) (a0 : Int32) (a1 : Int32) (M : (Nat → Nat → Int32))  {r0 : Int32} (h : FX7_wornMove a0 a1 = some r0) : Met l yX7_wornMove (wsA yX7_wornMove cX7_wornMove 3 (some .int)) ({ frames := 0, cells := 0, slots := 0, locals := 0 } : Room) (va_Pc [.int (a0), .int (a1)] (gI (x_Wd dC dI kI ad) (x_Kn dC dI kI ad) M)) (va_Qi (fun (r : Int32) (u : (Nat → Nat → Int32)) => r = r0 ∧ u = M) (gI (x_Wd dC dI kI ad) (x_Kn dC dI kI ad)) (x_A ad)) 0 0 (x_A ad) := by
  refine Met.ofW (cc := cX7_wornMove) (maxL := 3) (ret := (some .int)) (by decide) rfl ?_
  intro p e s m args below meth c s₁ B hml hv
  obtain ⟨rfl, hP, hKn⟩ := hv
  have hx := B.exec
  have hb := B.bytes
  have hr := B.returns
  have hts := atoms_spec (ws := wsA yX7_wornMove cX7_wornMove 3 (some .int)) B.pre
  have hg : ∀ w ∈ lw_good, w.before _ s = true := fun w h => hts w (List.mem_cons_of_mem _ h)
  have hown : s.vm.findClass RX7 = some m.cls := findClass_of_methodNamed B.named
  have hlocks := B.notSynchronized
  have hS : va_S (x_A ad) s.heap s.heap [] := va_S.rf
  have hFx : gFix p c cX7_wornMove 3 s m _ RX7 := ⟨hx, hb, hml, hown, hg⟩
  have hP : va_P (dC, dI) vwCl (x_w kI ad M) s.heap := hP
  have hl := lv_entry ([.int (a0), .int (a1)]) (n := 3) (Nat.le_of_ble_eq_true rfl)
  rw [lg_entry_eq]
  generalize (lg_sl ([.int (a0), .int (a1)]) ++ List.replicate (3 - (lg_sl ([.int (a0), .int (a1)])).length) Slot.unset).toArray = ls at hl ⊢
  have hl : lv_has ls 3 [(0, .int (a0)), (1, .int (a1))] := hl
  unfold FX7_wornMove at h
  refine lv_iconst (v := 1) hx hb dX7_wornMove_0 (by decide) ?_
  refine lv_iload_n hx hb dX7_wornMove_1 rfl (lv_at hl 1 rfl) ?_
  refine lv_iadd hx hb dX7_wornMove_2 ?_
  refine lv_istore_n (lv' := [(2, .int ((1 + a1))), (0, .int (a0)), (1, .int (a1))]) hx hb dX7_wornMove_3 rfl hl (Nat.le_of_ble_eq_true rfl) rfl (fun ls hl => ?_)
  refine lv_iload_n hx hb dX7_wornMove_4 rfl (lv_at hl 0 rfl) ?_
  refine lv_if_le (tgt := 14) hx hb dX7_wornMove_5 (by decide) (fun c_1 => ?_) (fun c_1 => ?_)
  · have h := ife_t c_1 h
    refine lv_iconst (v := 0) hx hb dX7_wornMove_14 (by decide) ?_
    exact W.iret (v := 0) hx hb hr (fun t ht hW => ⟨⟨0, M, rfl, ⟨Option.some.inj h, rfl⟩, by rw [ht]; exact hP, x_KnW hKn t hW⟩, hS.F ht⟩) hS.2.2 dX7_wornMove_15
  · have h := ife_f c_1 h
    refine lv_iload_n hx hb dX7_wornMove_8 rfl (lv_at hl 1 rfl) ?_
    refine lv_iload_n hx hb dX7_wornMove_9 rfl (lv_at hl 0 rfl) ?_
    obtain ⟨hd10, h⟩ := ifn_use h
    refine lv_idiv hx hb dX7_wornMove_10 hd10 ?_
    refine lv_goto (tgt := 15) hx hb dX7_wornMove_11 (by decide) ?_
    exact W.iret (v := (a0 / (1 + a1))) hx hb hr (fun t ht hW => ⟨⟨(a0 / (1 + a1)), M, rfl, ⟨Option.some.inj h, rfl⟩, by rw [ht]; exact hP, x_KnW hKn t hW⟩, hS.F ht⟩) hS.2.2 dX7_wornMove_15
noncomputable def FX3_readFact (c0 : Nat) (c1 : Nat) (a2 : Int32) (M : (Nat → Nat → Int32)) : Option (Int32 × (Nat → Nat → Int32)) :=
  bo (FX7_at (c1 + 2) a2 M) (fun (r_1 : Int32) => bo (FX7_at (c0 + 1) r_1 M) (fun (r_2 : Int32) => bo (FX7_at (c0 + 2) a2 M) (fun (r_3 : Int32) => bo (FX7_at (c1 + 4) a2 M) (fun (r_4 : Int32) => jn (fun (j5_5 : Int32) => bo (FX7_put (c0 + 1) r_1 j5_5 M) (fun (M_6 : (Nat → Nat → Int32)) => bo (FX7_put (c0 + 2) a2 (r_3 + 1) M_6) (fun (M_7 : (Nat → Nat → Int32)) => (if (M_7 c1 3) ≤ r_2 then some (0, M_7) else (if j5_5 < (M_7 c1 3) then some (0, M_7) else some (1, M_7)))))) (fun J96 => jn (bo (FX7_at (c1 + 3) a2 M) (fun (r_10 : Int32) => bo (FX7_wornMove r_10 r_3) (fun (r_11 : Int32) => lt ((if 0 < (if (r_2 + r_11) < 20 then (r_2 + r_11) else 20) then (if (r_2 + r_11) < 20 then (r_2 + r_11) else 20) else 0)) (fun (x5_12 : Int32) => J96 x5_12)))) (fun J69 => (if r_4 = (-1) then J69 else bo (FX7_at (c0 + 1) r_4 M) (fun (r_14 : Int32) => bo (FX7_at (c1 + 5) a2 M) (fun (r_15 : Int32) => (if r_14 < r_15 then J96 r_2 else J69))))))))))
set_option maxHeartbeats 4000000 in
set_option maxRecDepth 100000 in
theorem tX3_readFact (l : Launch) (dC : Nat → ClassId) (dI : Nat → Nat → Nat) (kI : ClassId) (ad : Nat → Nat) (c0 : Nat) (c1 : Nat) (a2 : Int32) (M : (Nat → Nat → Int32)) (h0 : x_is3 c0) (h1 : x_is1 c1) {r0 : Int32} {M0 : (Nat → Nat → Int32)} (h : FX3_readFact c0 c1 a2 M = some (r0, M0)) : Met l yX3_readFact (wsA yX3_readFact cX3_readFact 8 (some .boolean)) ({ frames := 1, cells := 0, slots := 0, locals := 22 } : Room) (va_Pc [.ref (ad (c0)), .ref (ad (c1)), .int (a2)] (gI (x_Wd dC dI kI ad) (x_Kn dC dI kI ad) M)) (va_Qi (fun (r : Int32) (u : (Nat → Nat → Int32)) => r = r0 ∧ u = M0) (gI (x_Wd dC dI kI ad) (x_Kn dC dI kI ad)) (x_A ad)) 0 0 (x_A ad) := by
  refine Met.ofW (cc := cX3_readFact) (maxL := 8) (ret := (some .boolean)) (by decide) rfl ?_
  intro p e s m args below meth c s₁ B hml hv
  obtain ⟨rfl, hP, hKn⟩ := hv
  have hx := B.exec
  have hb := B.bytes
  have hr := B.returns
  have hts := atoms_spec (ws := wsA yX3_readFact cX3_readFact 8 (some .boolean)) B.pre
  have hg : ∀ w ∈ lw_good, w.before _ s = true := fun w h => hts w (List.mem_cons_of_mem _ h)
  have hown : s.vm.findClass RX3 = some m.cls := findClass_of_methodNamed B.named
  have hlocks := B.notSynchronized
  have hS : va_S (x_A ad) s.heap s.heap [] := va_S.rf
  have hFx : gFix p c cX3_readFact 8 s m _ RX3 := ⟨hx, hb, hml, hown, hg⟩
  have hP : va_P (dC, dI) vwCl (x_w kI ad M) s.heap := hP
  have hl := lv_entry ([.ref (ad (c0)), .ref (ad (c1)), .int (a2)]) (n := 8) (Nat.le_of_ble_eq_true rfl)
  rw [lg_entry_eq]
  generalize (lg_sl ([.ref (ad (c0)), .ref (ad (c1)), .int (a2)]) ++ List.replicate (8 - (lg_sl ([.ref (ad (c0)), .ref (ad (c1)), .int (a2)])).length) Slot.unset).toArray = ls at hl ⊢
  have hl : lv_has ls 8 [(0, .ref (ad (c0))), (1, .ref (ad (c1))), (2, .int (a2))] := hl
  unfold FX3_readFact at h
  refine lv_aload_n hx hb dX3_readFact_0 rfl (lv_at hl 1 rfl) ?_
  refine va_getN (D := (dC, dI)) (ci := 1) (v := .ref (ad ((c1 + 2)))) (C := RX1) (T := TX1) (N := 10) hx hb hg inX1 hown hKn.1 hP (c1) (x_at1 (c := c1) h1) rfl 5 (Nat.le_of_ble_eq_true rfl) (nest_use hKn.2.2 nkF_X3_64) (fun _ h9 => h9) rfl dX3_readFact_1 ?_
  refine lv_iload_n hx hb dX3_readFact_4 rfl (lv_at hl 2 rfl) ?_
  obtain ⟨r_1, e5, h⟩ := bo_use h
  refine gc_i (va_runSN (As := [.ref (ad ((c1 + 2))), .int (a2)]) (rest := []) hFx (tX7_at l dC dI kI ad (c1 + 2) a2 M (x_ar1_2 h1) e5) ⟨(gc_N hFx hKn.2.2 ck_yX7_at nkM_X3_40 ⟨Nat.le_of_ble_eq_true rfl, Nat.le_of_ble_eq_true rfl⟩ rfl rfl), hg _ st_yX7_at, trivial⟩ (gp_S x_KnB (x_KnW hKn) hP) rfl rfl hl.1 rfl (lv_room (Nat.le_of_ble_eq_true rfl)) dX3_readFact_5 ⟨Nat.zero_le _, Nat.zero_le _⟩) hS (fun H locs hP hS => ?_)
  have hP : va_P (dC, dI) vwCl (x_w kI ad M) H := hP
  refine lv_istore_n (lv' := [(3, .int (r_1)), (0, .ref (ad (c0))), (1, .ref (ad (c1))), (2, .int (a2))]) hx hb dX3_readFact_8 rfl hl (Nat.le_of_ble_eq_true rfl) rfl (fun ls hl => ?_)
  refine lv_aload_n hx hb dX3_readFact_9 rfl (lv_at hl 1 rfl) ?_
  refine va_get (D := (dC, dI)) (ci := 3) (v := .ref (ad ((c0 + 1)))) (C := RX3) (T := TX3) (N := 6) hx hb hg inX3 hown hKn.1 hP (c0) (x_at3 (c := c0) h0) rfl 0 (Nat.le_of_ble_eq_true rfl) (hg _ lkF_X3_9) (fun _ h9 => h9) rfl dX3_readFact_10 ?_
  refine lv_iload_n hx hb dX3_readFact_13 rfl (lv_at hl 0 rfl) ?_
  obtain ⟨r_2, e14, h⟩ := bo_use h
  refine gc_i (va_runSN (As := [.ref (ad ((c0 + 1))), .int (r_1)]) (rest := []) hFx (tX7_at l dC dI kI ad (c0 + 1) r_1 M (x_ar3_1 h0) e14) ⟨(gc_N hFx hKn.2.2 ck_yX7_at nkM_X3_40 ⟨Nat.le_of_ble_eq_true rfl, Nat.le_of_ble_eq_true rfl⟩ rfl rfl), hg _ st_yX7_at, trivial⟩ (gp_S x_KnB (x_KnW hKn) hP) rfl rfl hl.1 rfl (lv_room (Nat.le_of_ble_eq_true rfl)) dX3_readFact_14 ⟨Nat.zero_le _, Nat.zero_le _⟩) hS (fun H locs hP hS => ?_)
  have hP : va_P (dC, dI) vwCl (x_w kI ad M) H := hP
  refine lv_istore (lv' := [(4, .int (r_2)), (3, .int (r_1)), (0, .ref (ad (c0))), (1, .ref (ad (c1))), (2, .int (a2))]) hx hb dX3_readFact_17 hl (Nat.le_of_ble_eq_true rfl) rfl (fun ls hl => ?_)
  refine lv_iload hx hb dX3_readFact_19 (lv_at hl 0 rfl) ?_
  refine lv_istore (lv' := [(5, .int (r_2)), (4, .int (r_2)), (3, .int (r_1)), (0, .ref (ad (c0))), (1, .ref (ad (c1))), (2, .int (a2))]) hx hb dX3_readFact_21 hl (Nat.le_of_ble_eq_true rfl) rfl (fun ls hl => ?_)
  refine lv_aload_n hx hb dX3_readFact_23 rfl (lv_at hl 3 rfl) ?_
  refine va_get (D := (dC, dI)) (ci := 3) (v := .ref (ad ((c0 + 2)))) (C := RX3) (T := TX3) (N := 6) hx hb hg inX3 hown hKn.1 hP (c0) (x_at3 (c := c0) h0) rfl 1 (Nat.le_of_ble_eq_true rfl) (hg _ lkF_X3_15) (fun _ h9 => h9) rfl dX3_readFact_24 ?_
  refine lv_iload_n hx hb dX3_readFact_27 rfl (lv_at hl 5 rfl) ?_
  obtain ⟨r_3, e28, h⟩ := bo_use h
  refine gc_i (va_runSN (As := [.ref (ad ((c0 + 2))), .int (a2)]) (rest := []) hFx (tX7_at l dC dI kI ad (c0 + 2) a2 M (x_ar3_2 h0) e28) ⟨(gc_N hFx hKn.2.2 ck_yX7_at nkM_X3_40 ⟨Nat.le_of_ble_eq_true rfl, Nat.le_of_ble_eq_true rfl⟩ rfl rfl), hg _ st_yX7_at, trivial⟩ (gp_S x_KnB (x_KnW hKn) hP) rfl rfl hl.1 rfl (lv_room (Nat.le_of_ble_eq_true rfl)) dX3_readFact_28 ⟨Nat.zero_le _, Nat.zero_le _⟩) hS (fun H locs hP hS => ?_)
  have hP : va_P (dC, dI) vwCl (x_w kI ad M) H := hP
  refine lv_istore (lv' := [(6, .int (r_3)), (5, .int (r_2)), (4, .int (r_2)), (3, .int (r_1)), (0, .ref (ad (c0))), (1, .ref (ad (c1))), (2, .int (a2))]) hx hb dX3_readFact_31 hl (Nat.le_of_ble_eq_true rfl) rfl (fun ls hl => ?_)
  refine lv_aload_n hx hb dX3_readFact_33 rfl (lv_at hl 5 rfl) ?_
  refine va_getN (D := (dC, dI)) (ci := 1) (v := .ref (ad ((c1 + 4)))) (C := RX1) (T := TX1) (N := 10) hx hb hg inX1 hown hKn.1 hP (c1) (x_at1 (c := c1) h1) rfl 7 (Nat.le_of_ble_eq_true rfl) (nest_use hKn.2.2 nkF_X3_67) (fun _ h9 => h9) rfl dX3_readFact_34 ?_
  refine lv_iload_n hx hb dX3_readFact_37 rfl (lv_at hl 6 rfl) ?_
  obtain ⟨r_4, e38, h⟩ := bo_use h
  refine gc_i (va_runSN (As := [.ref (ad ((c1 + 4))), .int (a2)]) (rest := []) hFx (tX7_at l dC dI kI ad (c1 + 4) a2 M (x_ar1_4 h1) e38) ⟨(gc_N hFx hKn.2.2 ck_yX7_at nkM_X3_40 ⟨Nat.le_of_ble_eq_true rfl, Nat.le_of_ble_eq_true rfl⟩ rfl rfl), hg _ st_yX7_at, trivial⟩ (gp_S x_KnB (x_KnW hKn) hP) rfl rfl hl.1 rfl (lv_room (Nat.le_of_ble_eq_true rfl)) dX3_readFact_38 ⟨Nat.zero_le _, Nat.zero_le _⟩) hS (fun H locs hP hS => ?_)
  have hP : va_P (dC, dI) vwCl (x_w kI ad M) H := hP
  refine lv_istore (lv' := [(7, .int (r_4)), (6, .int (r_3)), (5, .int (r_2)), (4, .int (r_2)), (3, .int (r_1)), (0, .ref (ad (c0))), (1, .ref (ad (c1))), (2, .int (a2))]) hx hb dX3_readFact_41 hl (Nat.le_of_ble_eq_true rfl) rfl (fun ls hl => ?_)
  refine lv_iload hx hb dX3_readFact_43 (lv_at hl 0 rfl) ?_
  refine lv_iconst (v := -1) hx hb dX3_readFact_45 (by decide) ?_
  obtain ⟨J96, eJ96, h⟩ := jn_use h
  have hJ96 : ∀ (j5_5 : Int32) (H : Heap) (locs : List Loc) (ls : Array Slot), va_P (dC, dI) vwCl (x_w kI ad M) H → va_S (x_A ad) s.heap H locs → lv_has ls 8 [(6, .int (r_3)), (4, .int (r_2)), (3, .int (r_1)), (0, .ref (ad (c0))), (1, .ref (ad (c1))), (2, .int (a2)), (5, .int (j5_5))] → J96 j5_5 = some (r0, M0) → W p l e (headSpec (wsA yX3_readFact cX3_readFact 8 (some .boolean)) ({ frames := 1, cells := 0, slots := 0, locals := 22 } : Room)).room s m (([.ref (ad (c0)), .ref (ad (c1)), .int (a2)] : List Value).toArray) below meth c H locs 0 0 (MQ below (va_Qi (fun (r : Int32) (u : (Nat → Nat → Int32)) => r = r0 ∧ u = M0) (gI (x_Wd dC dI kI ad) (x_Kn dC dI kI ad)) (x_A ad)) (([.ref (ad (c0)), .ref (ad (c1)), .int (a2)] : List Value).toArray) s 0 0 (x_A ad)) (F0 m 96 ls []) := by
    intro j5_5 H locs ls hP hS hl h
    have h := useK1 eJ96 h
    refine lv_aload_n hx hb dX3_readFact_96 rfl (lv_at hl 3 rfl) ?_
    refine va_get (D := (dC, dI)) (ci := 3) (v := .ref (ad ((c0 + 1)))) (C := RX3) (T := TX3) (N := 6) hx hb hg inX3 hown hKn.1 hP (c0) (x_at3 (c := c0) h0) rfl 0 (Nat.le_of_ble_eq_true rfl) (hg _ lkF_X3_9) (fun _ h9 => h9) rfl dX3_readFact_97 ?_
    refine lv_iload_n hx hb dX3_readFact_100 rfl (lv_at hl 2 rfl) ?_
    refine lv_iload hx hb dX3_readFact_101 (lv_at hl 6 rfl) ?_
    obtain ⟨M_6, e103, h⟩ := bo_use h
    refine gc_v (va_runSN (As := [.ref (ad ((c0 + 1))), .int (r_1), .int (j5_5)]) (rest := []) hFx (tX7_put l dC dI kI ad (c0 + 1) r_1 j5_5 M (x_ar3_1 h0) e103) ⟨(gc_N hFx hKn.2.2 ck_yX7_put nkM_X3_44 ⟨Nat.le_of_ble_eq_true rfl, Nat.le_of_ble_eq_true rfl⟩ rfl rfl), hg _ st_yX7_put, trivial⟩ (gp_S x_KnB (x_KnW hKn) hP) rfl rfl hl.1 rfl (lv_room (Nat.le_of_ble_eq_true rfl)) dX3_readFact_103 ⟨Nat.zero_le _, Nat.zero_le _⟩) hS (fun H locs hP hS => ?_)
    have hP : va_P (dC, dI) vwCl (x_w kI ad M_6) H := hP
    refine lv_aload_n hx hb dX3_readFact_106 rfl (lv_at hl 3 rfl) ?_
    refine va_get (D := (dC, dI)) (ci := 3) (v := .ref (ad ((c0 + 2)))) (C := RX3) (T := TX3) (N := 6) hx hb hg inX3 hown hKn.1 hP (c0) (x_at3 (c := c0) h0) rfl 1 (Nat.le_of_ble_eq_true rfl) (hg _ lkF_X3_15) (fun _ h9 => h9) rfl dX3_readFact_107 ?_
    refine lv_iload_n hx hb dX3_readFact_110 rfl (lv_at hl 5 rfl) ?_
    refine lv_iload hx hb dX3_readFact_111 (lv_at hl 0 rfl) ?_
    refine lv_iconst (v := 1) hx hb dX3_readFact_113 (by decide) ?_
    refine lv_iadd hx hb dX3_readFact_114 ?_
    obtain ⟨M_7, e115, h⟩ := bo_use h
    refine gc_v (va_runSN (As := [.ref (ad ((c0 + 2))), .int (a2), .int ((r_3 + 1))]) (rest := []) hFx (tX7_put l dC dI kI ad (c0 + 2) a2 (r_3 + 1) M_6 (x_ar3_2 h0) e115) ⟨(gc_N hFx hKn.2.2 ck_yX7_put nkM_X3_44 ⟨Nat.le_of_ble_eq_true rfl, Nat.le_of_ble_eq_true rfl⟩ rfl rfl), hg _ st_yX7_put, trivial⟩ (gp_S x_KnB (x_KnW hKn) hP) rfl rfl hl.1 rfl (lv_room (Nat.le_of_ble_eq_true rfl)) dX3_readFact_115 ⟨Nat.zero_le _, Nat.zero_le _⟩) hS (fun H locs hP hS => ?_)
    have hP : va_P (dC, dI) vwCl (x_w kI ad M_7) H := hP
    refine lv_iload hx hb dX3_readFact_118 (lv_at hl 1 rfl) ?_
    refine lv_aload_n hx hb dX3_readFact_120 rfl (lv_at hl 4 rfl) ?_
    refine va_getN (D := (dC, dI)) (ci := 1) (v := .int ((M_7 c1 3))) (C := RX1) (T := TX1) (N := 10) hx hb hg inX1 hown hKn.1 hP (c1) (x_at1 (c := c1) h1) rfl 3 (Nat.le_of_ble_eq_true rfl) (nest_use hKn.2.2 nkF_X3_57) (fun _ h9 => h9) rfl dX3_readFact_121 ?_
    refine lv_icmp_ge (tgt := 140) hx hb dX3_readFact_124 (by decide) (fun c_8 => ?_) (fun c_8 => ?_)
    · have h := ife_t c_8 h
      refine lv_iconst (v := 0) hx hb dX3_readFact_140 (by decide) ?_
      exact W.zret (v := 0) hx hb hr rfl (fun t ht hW => ⟨⟨0, M_7, rfl, ⟨congrArg Prod.fst (Option.some.inj h), congrArg Prod.snd (Option.some.inj h)⟩, by rw [ht]; exact hP, x_KnW hKn t hW⟩, hS.F ht⟩) hS.2.2 dX3_readFact_141
    · have h := ife_f c_8 h
      refine lv_iload hx hb dX3_readFact_127 (lv_at hl 6 rfl) ?_
      refine lv_aload_n hx hb dX3_readFact_129 rfl (lv_at hl 4 rfl) ?_
      refine va_getN (D := (dC, dI)) (ci := 1) (v := .int ((M_7 c1 3))) (C := RX1) (T := TX1) (N := 10) hx hb hg inX1 hown hKn.1 hP (c1) (x_at1 (c := c1) h1) rfl 3 (Nat.le_of_ble_eq_true rfl) (nest_use hKn.2.2 nkF_X3_57) (fun _ h9 => h9) rfl dX3_readFact_130 ?_
      refine lv_icmp_lt (tgt := 140) hx hb dX3_readFact_133 (by decide) (fun c_9 => ?_) (fun c_9 => ?_)
      · have h := ife_t c_9 h
        refine lv_iconst (v := 0) hx hb dX3_readFact_140 (by decide) ?_
        exact W.zret (v := 0) hx hb hr rfl (fun t ht hW => ⟨⟨0, M_7, rfl, ⟨congrArg Prod.fst (Option.some.inj h), congrArg Prod.snd (Option.some.inj h)⟩, by rw [ht]; exact hP, x_KnW hKn t hW⟩, hS.F ht⟩) hS.2.2 dX3_readFact_141
      · have h := ife_f c_9 h
        refine lv_iconst (v := 1) hx hb dX3_readFact_136 (by decide) ?_
        refine lv_goto (tgt := 141) hx hb dX3_readFact_137 (by decide) ?_
        exact W.zret (v := 1) hx hb hr rfl (fun t ht hW => ⟨⟨1, M_7, rfl, ⟨congrArg Prod.fst (Option.some.inj h), congrArg Prod.snd (Option.some.inj h)⟩, by rw [ht]; exact hP, x_KnW hKn t hW⟩, hS.F ht⟩) hS.2.2 dX3_readFact_141
  obtain ⟨J69, eJ69, h⟩ := jn_use h
  have hJ69 : ∀  (H : Heap) (locs : List Loc) (ls : Array Slot), va_P (dC, dI) vwCl (x_w kI ad M) H → va_S (x_A ad) s.heap H locs → lv_has ls 8 [(6, .int (r_3)), (4, .int (r_2)), (3, .int (r_1)), (0, .ref (ad (c0))), (1, .ref (ad (c1))), (2, .int (a2))] → J69  = some (r0, M0) → W p l e (headSpec (wsA yX3_readFact cX3_readFact 8 (some .boolean)) ({ frames := 1, cells := 0, slots := 0, locals := 22 } : Room)).room s m (([.ref (ad (c0)), .ref (ad (c1)), .int (a2)] : List Value).toArray) below meth c H locs 0 0 (MQ below (va_Qi (fun (r : Int32) (u : (Nat → Nat → Int32)) => r = r0 ∧ u = M0) (gI (x_Wd dC dI kI ad) (x_Kn dC dI kI ad)) (x_A ad)) (([.ref (ad (c0)), .ref (ad (c1)), .int (a2)] : List Value).toArray) s 0 0 (x_A ad)) (F0 m 69 ls []) := by
    intro  H locs ls hP hS hl h
    have h := useK0 eJ69 h
    refine lv_iconst (v := 0) hx hb dX3_readFact_69 (by decide) ?_
    refine lv_bipush (v := 20) hx hb dX3_readFact_70 (by decide) ?_
    refine lv_iload hx hb dX3_readFact_72 (lv_at hl 1 rfl) ?_
    refine lv_aload_n hx hb dX3_readFact_74 rfl (lv_at hl 4 rfl) ?_
    refine va_getN (D := (dC, dI)) (ci := 1) (v := .ref (ad ((c1 + 3)))) (C := RX1) (T := TX1) (N := 10) hx hb hg inX1 hown hKn.1 hP (c1) (x_at1 (c := c1) h1) rfl 6 (Nat.le_of_ble_eq_true rfl) (nest_use hKn.2.2 nkF_X3_73) (fun _ h9 => h9) rfl dX3_readFact_75 ?_
    refine lv_iload_n hx hb dX3_readFact_78 rfl (lv_at hl 5 rfl) ?_
    obtain ⟨r_10, e79, h⟩ := bo_use h
    refine gc_i (va_runSN (As := [.ref (ad ((c1 + 3))), .int (a2)]) (rest := [.int (r_2), .int (20), .int (0)]) hFx (tX7_at l dC dI kI ad (c1 + 3) a2 M (x_ar1_3 h1) e79) ⟨(gc_N hFx hKn.2.2 ck_yX7_at nkM_X3_40 ⟨Nat.le_of_ble_eq_true rfl, Nat.le_of_ble_eq_true rfl⟩ rfl rfl), hg _ st_yX7_at, trivial⟩ (gp_S x_KnB (x_KnW hKn) hP) rfl rfl hl.1 rfl (lv_room (Nat.le_of_ble_eq_true rfl)) dX3_readFact_79 ⟨Nat.zero_le _, Nat.zero_le _⟩) hS (fun H locs hP hS => ?_)
    have hP : va_P (dC, dI) vwCl (x_w kI ad M) H := hP
    refine lv_iload hx hb dX3_readFact_82 (lv_at hl 0 rfl) ?_
    obtain ⟨r_11, e84, h⟩ := bo_use h
    refine gc_i (va_runSN (As := [.int (r_10), .int (r_3)]) (rest := [.int (r_2), .int (20), .int (0)]) hFx (tX7_wornMove l dC dI kI ad r_10 r_3 M  e84) ⟨(gc_N hFx hKn.2.2 ck_yX7_wornMove nkM_X3_76 ⟨Nat.le_of_ble_eq_true rfl, Nat.le_of_ble_eq_true rfl⟩ rfl rfl), hg _ st_yX7_wornMove, trivial⟩ (gp_S x_KnB (x_KnW hKn) hP) rfl rfl hl.1 rfl (lv_room (Nat.le_of_ble_eq_true rfl)) dX3_readFact_84 ⟨Nat.zero_le _, Nat.zero_le _⟩) hS (fun H locs hP hS => ?_)
    have hP : va_P (dC, dI) vwCl (x_w kI ad M) H := hP
    refine lv_iadd hx hb dX3_readFact_87 ?_
    refine va_mmin hx hb (hml.trans hl.1.symm) hown (hg _ lkM_X3_80) (hg _ st_Lib_Math_min_name) (hg _ ini_J9) (hg _ co_math_min) (Nat.le_of_ble_eq_true rfl) (Nat.le_of_ble_eq_true rfl) (Nat.zero_le _) (Nat.zero_le _) dX3_readFact_88 ?_
    refine va_mmax hx hb (hml.trans hl.1.symm) hown (hg _ lkM_X3_85) (hg _ st_Lib_Math_max_name) (hg _ ini_J9) (hg _ co_math_max) (Nat.le_of_ble_eq_true rfl) (Nat.le_of_ble_eq_true rfl) (Nat.zero_le _) (Nat.zero_le _) dX3_readFact_91 ?_
    refine lv_topi (fun x5_12 ex5_12 => ?_)
    have h := lt_use ex5_12 h
    refine lv_istore (lv' := [(5, .int (x5_12)), (6, .int (r_3)), (4, .int (r_2)), (3, .int (r_1)), (0, .ref (ad (c0))), (1, .ref (ad (c1))), (2, .int (a2))]) hx hb dX3_readFact_94 hl (Nat.le_of_ble_eq_true rfl) rfl (fun ls hl => ?_)
    exact hJ96 x5_12 _ _ _ hP hS (lv_sub hl [1, 2, 3, 4, 5, 6, 0] rfl) h
  refine lv_icmp_eq (tgt := 69) hx hb dX3_readFact_46 (by decide) (fun c_13 => ?_) (fun c_13 => ?_)
  · have h := ife_t c_13 h
    exact hJ69 _ _ _ hP hS (lv_sub hl [1, 3, 4, 5, 6, 7] rfl) h
  · have h := ife_f c_13 h
    refine lv_aload_n hx hb dX3_readFact_49 rfl (lv_at hl 5 rfl) ?_
    refine va_get (D := (dC, dI)) (ci := 3) (v := .ref (ad ((c0 + 1)))) (C := RX3) (T := TX3) (N := 6) hx hb hg inX3 hown hKn.1 hP (c0) (x_at3 (c := c0) h0) rfl 0 (Nat.le_of_ble_eq_true rfl) (hg _ lkF_X3_9) (fun _ h9 => h9) rfl dX3_readFact_50 ?_
    refine lv_iload hx hb dX3_readFact_53 (lv_at hl 0 rfl) ?_
    obtain ⟨r_14, e55, h⟩ := bo_use h
    refine gc_i (va_runSN (As := [.ref (ad ((c0 + 1))), .int (r_4)]) (rest := []) hFx (tX7_at l dC dI kI ad (c0 + 1) r_4 M (x_ar3_1 h0) e55) ⟨(gc_N hFx hKn.2.2 ck_yX7_at nkM_X3_40 ⟨Nat.le_of_ble_eq_true rfl, Nat.le_of_ble_eq_true rfl⟩ rfl rfl), hg _ st_yX7_at, trivial⟩ (gp_S x_KnB (x_KnW hKn) hP) rfl rfl hl.1 rfl (lv_room (Nat.le_of_ble_eq_true rfl)) dX3_readFact_55 ⟨Nat.zero_le _, Nat.zero_le _⟩) hS (fun H locs hP hS => ?_)
    have hP : va_P (dC, dI) vwCl (x_w kI ad M) H := hP
    refine lv_aload_n hx hb dX3_readFact_58 rfl (lv_at hl 6 rfl) ?_
    refine va_getN (D := (dC, dI)) (ci := 1) (v := .ref (ad ((c1 + 5)))) (C := RX1) (T := TX1) (N := 10) hx hb hg inX1 hown hKn.1 hP (c1) (x_at1 (c := c1) h1) rfl 8 (Nat.le_of_ble_eq_true rfl) (nest_use hKn.2.2 nkF_X3_70) (fun _ h9 => h9) rfl dX3_readFact_59 ?_
    refine lv_iload_n hx hb dX3_readFact_62 rfl (lv_at hl 7 rfl) ?_
    obtain ⟨r_15, e63, h⟩ := bo_use h
    refine gc_i (va_runSN (As := [.ref (ad ((c1 + 5))), .int (a2)]) (rest := [.int (r_14)]) hFx (tX7_at l dC dI kI ad (c1 + 5) a2 M (x_ar1_5 h1) e63) ⟨(gc_N hFx hKn.2.2 ck_yX7_at nkM_X3_40 ⟨Nat.le_of_ble_eq_true rfl, Nat.le_of_ble_eq_true rfl⟩ rfl rfl), hg _ st_yX7_at, trivial⟩ (gp_S x_KnB (x_KnW hKn) hP) rfl rfl hl.1 rfl (lv_room (Nat.le_of_ble_eq_true rfl)) dX3_readFact_63 ⟨Nat.zero_le _, Nat.zero_le _⟩) hS (fun H locs hP hS => ?_)
    have hP : va_P (dC, dI) vwCl (x_w kI ad M) H := hP
    refine lv_icmp_lt (tgt := 96) hx hb dX3_readFact_66 (by decide) (fun c_16 => ?_) (fun c_16 => ?_)
    · have h := ife_t c_16 h
      exact hJ96 r_2 _ _ _ hP hS (lv_sub hl [1, 3, 4, 5, 6, 7, 2] rfl) h
    · have h := ife_f c_16 h
      exact hJ69 _ _ _ hP hS (lv_sub hl [1, 3, 4, 5, 6, 7] rfl) h
noncomputable def FX3_spendNight_L7 (c0 : Nat) (c1 : Nat) (b2 : Int32) (K : (Nat → Nat → Int32) → Option (Nat → Nat → Int32)) (k : Nat) (v3_2 : Int32) (M_3 : (Nat → Nat → Int32)) : Option (Nat → Nat → Int32) := match k with
  | 0 => none
  | k + 1 => (if (M_3 c1 2) ≤ v3_2 then K M_3 else bo (FX7_has b2 v3_2) (fun (r_5 : Int32) => jn (fun (M_6 : (Nat → Nat → Int32)) => FX3_spendNight_L7 c0 c1 b2 K k (v3_2 + 1) M_6) (fun J45 => (if r_5 = 0 then J45 M_3 else bd (FX3_readFact c0 c1 v3_2 M_3) (fun (r_8 : Int32) (M_9 : (Nat → Nat → Int32)) => (if r_8 = 0 then J45 M_9 else (if (M_9 c0 5) = (-1) then J45 (upd2 M_9 c0 5 v3_2) else J45 M_9)))))))
noncomputable def FX3_spendNight (c0 : Nat) (c1 : Nat) (a2 : Int32) (M : (Nat → Nat → Int32)) : Option (Nat → Nat → Int32) :=
  FX3_spendNight_L7 c0 c1 a2 (fun (M_1 : (Nat → Nat → Int32)) => some (upd2 M_1 c0 3 ((M_1 c0 3) + 1))) fuelN 0 (upd2 M c0 5 (-1))
set_option maxHeartbeats 4000000 in
set_option maxRecDepth 100000 in
theorem tX3_spendNight (l : Launch) (dC : Nat → ClassId) (dI : Nat → Nat → Nat) (kI : ClassId) (ad : Nat → Nat) (c0 : Nat) (c1 : Nat) (a2 : Int32) (M : (Nat → Nat → Int32)) (h0 : x_is3 c0) (h1 : x_is1 c1) {M0 : (Nat → Nat → Int32)} (h : FX3_spendNight c0 c1 a2 M = some M0) : Met l yX3_spendNight (wsA yX3_spendNight cX3_spendNight 4 none) ({ frames := 2, cells := 0, slots := 0, locals := 49 } : Room) (va_Pc [.ref (ad (c0)), .ref (ad (c1)), .int (a2)] (gI (x_Wd dC dI kI ad) (x_Kn dC dI kI ad) M)) (va_Qv (fun (u : (Nat → Nat → Int32)) => u = M0) (gI (x_Wd dC dI kI ad) (x_Kn dC dI kI ad)) (x_A ad)) 0 0 (x_A ad) := by
  refine Met.ofW (cc := cX3_spendNight) (maxL := 4) (ret := none) (by decide) rfl ?_
  intro p e s m args below meth c s₁ B hml hv
  obtain ⟨rfl, hP, hKn⟩ := hv
  have hx := B.exec
  have hb := B.bytes
  have hr := B.returns
  have hts := atoms_spec (ws := wsA yX3_spendNight cX3_spendNight 4 none) B.pre
  have hg : ∀ w ∈ lw_good, w.before _ s = true := fun w h => hts w (List.mem_cons_of_mem _ h)
  have hown : s.vm.findClass RX3 = some m.cls := findClass_of_methodNamed B.named
  have hlocks := B.notSynchronized
  have hS : va_S (x_A ad) s.heap s.heap [] := va_S.rf
  have hFx : gFix p c cX3_spendNight 4 s m _ RX3 := ⟨hx, hb, hml, hown, hg⟩
  have hP : va_P (dC, dI) vwCl (x_w kI ad M) s.heap := hP
  have hl := lv_entry ([.ref (ad (c0)), .ref (ad (c1)), .int (a2)]) (n := 4) (Nat.le_of_ble_eq_true rfl)
  rw [lg_entry_eq]
  generalize (lg_sl ([.ref (ad (c0)), .ref (ad (c1)), .int (a2)]) ++ List.replicate (4 - (lg_sl ([.ref (ad (c0)), .ref (ad (c1)), .int (a2)])).length) Slot.unset).toArray = ls at hl ⊢
  have hl : lv_has ls 4 [(0, .ref (ad (c0))), (1, .ref (ad (c1))), (2, .int (a2))] := hl
  unfold FX3_spendNight at h
  refine lv_aload_n hx hb dX3_spendNight_0 rfl (lv_at hl 0 rfl) ?_
  refine lv_iconst (v := -1) hx hb dX3_spendNight_1 (by decide) ?_
  refine va_put (D := (dC, dI)) (ci := 3) (v := .int ((-1))) (ty := .int) (C := RX3) (T := TX3) (N := 6) hx hb hg inX3 tyX3 tyX3_ok nmX3 hown hKn.1 hP (x_D hKn.2.1) hS (c0) (x_at3 (c := c0) h0) rfl 5 (Nat.le_of_ble_eq_true rfl) (hg _ lkF_X3_18) (fun _ h9 => h9) rfl (by decide +kernel) rfl rfl (Nat.le_of_ble_eq_true rfl) dX3_spendNight_2 (fun H locs hP _ hS => ?_)
  have hP : va_P (dC, dI) vwCl (x_w kI ad (upd2 M c0 5 (-1))) H := vp_eq (x_put3_5 h0 _) hP
  refine lv_iconst (v := 0) hx hb dX3_spendNight_5 (by decide) ?_
  refine lv_istore_n (lv' := [(3, .int (0)), (0, .ref (ad (c0))), (1, .ref (ad (c1))), (2, .int (a2))]) hx hb dX3_spendNight_6 rfl hl (Nat.le_of_ble_eq_true rfl) rfl (fun ls hl => ?_)
  obtain ⟨K7, eK7, h⟩ := exK (Lp := fun K => FX3_spendNight_L7 c0 c1 a2 K fuelN 0 (upd2 M c0 5 (-1))) h
  have hK7 : ∀ (M_1 : (Nat → Nat → Int32)) (H : Heap) (locs : List Loc) (ls : Array Slot), va_P (dC, dI) vwCl (x_w kI ad M_1) H → va_S (x_A ad) s.heap H locs → lv_has ls 4 [(0, .ref (ad (c0)))] → K7 M_1 = some M0 → W p l e (headSpec (wsA yX3_spendNight cX3_spendNight 4 none) ({ frames := 2, cells := 0, slots := 0, locals := 49 } : Room)).room s m (([.ref (ad (c0)), .ref (ad (c1)), .int (a2)] : List Value).toArray) below meth c H locs 0 0 (MQ below (va_Qv (fun (u : (Nat → Nat → Int32)) => u = M0) (gI (x_Wd dC dI kI ad) (x_Kn dC dI kI ad)) (x_A ad)) (([.ref (ad (c0)), .ref (ad (c1)), .int (a2)] : List Value).toArray) s 0 0 (x_A ad)) (F0 m 51 ls []) := by
    intro M_1 H locs ls hP hS hl h
    have h := useK1 eK7 h
    refine lv_aload_n hx hb dX3_spendNight_51 rfl (lv_at hl 0 rfl) ?_
    refine lv_dup hx hb dX3_spendNight_52 rfl ?_
    refine va_get (D := (dC, dI)) (ci := 3) (v := .int ((M_1 c0 3))) (C := RX3) (T := TX3) (N := 6) hx hb hg inX3 hown hKn.1 hP (c0) (x_at3 (c := c0) h0) rfl 3 (Nat.le_of_ble_eq_true rfl) (hg _ lkF_X3_25) (fun _ h9 => h9) rfl dX3_spendNight_53 ?_
    refine lv_iconst (v := 1) hx hb dX3_spendNight_56 (by decide) ?_
    refine lv_iadd hx hb dX3_spendNight_57 ?_
    refine va_put (D := (dC, dI)) (ci := 3) (v := .int (((M_1 c0 3) + 1))) (ty := .int) (C := RX3) (T := TX3) (N := 6) hx hb hg inX3 tyX3 tyX3_ok nmX3 hown hKn.1 hP (x_D hKn.2.1) hS (c0) (x_at3 (c := c0) h0) rfl 3 (Nat.le_of_ble_eq_true rfl) (hg _ lkF_X3_25) (fun _ h9 => h9) rfl (by decide +kernel) rfl rfl (Nat.le_of_ble_eq_true rfl) dX3_spendNight_58 (fun H locs hP _ hS => ?_)
    have hP : va_P (dC, dI) vwCl (x_w kI ad (upd2 M_1 c0 3 ((M_1 c0 3) + 1))) H := vp_eq (x_put3_3 h0 _) hP
    exact W.vret hx hb hr (fun t ht hW => ⟨⟨upd2 M_1 c0 3 ((M_1 c0 3) + 1), rfl, Option.some.inj h, by rw [ht]; exact hP, x_KnW hKn t hW⟩, hS.F ht⟩) hS.2.2 dX3_spendNight_61
  have hL7 : ∀ (k : Nat) (v3_2 : Int32) (M_3 : (Nat → Nat → Int32)) (H : Heap) (locs : List Loc) (ls : Array Slot), va_P (dC, dI) vwCl (x_w kI ad M_3) H → va_S (x_A ad) s.heap H locs → lv_has ls 4 [(0, .ref (ad (c0))), (1, .ref (ad (c1))), (2, .int (a2)), (3, .int (v3_2))] → FX3_spendNight_L7 c0 c1 a2 K7 k v3_2 M_3 = some M0 → W p l e (headSpec (wsA yX3_spendNight cX3_spendNight 4 none) ({ frames := 2, cells := 0, slots := 0, locals := 49 } : Room)).room s m (([.ref (ad (c0)), .ref (ad (c1)), .int (a2)] : List Value).toArray) below meth c H locs 0 0 (MQ below (va_Qv (fun (u : (Nat → Nat → Int32)) => u = M0) (gI (x_Wd dC dI kI ad) (x_Kn dC dI kI ad)) (x_A ad)) (([.ref (ad (c0)), .ref (ad (c1)), .int (a2)] : List Value).toArray) s 0 0 (x_A ad)) (F0 m 7 ls []) := by
    intro k
    induction k with
    | zero => intro v3_2 M_3 H locs ls hP hS hl h; cases h
    | succ k ih7 =>
      intro v3_2 M_3 H locs ls hP hS hl h
      unfold FX3_spendNight_L7 at h
      refine lv_iload_n hx hb dX3_spendNight_7 rfl (lv_at hl 3 rfl) ?_
      refine lv_aload_n hx hb dX3_spendNight_8 rfl (lv_at hl 1 rfl) ?_
      refine va_getN (D := (dC, dI)) (ci := 1) (v := .int ((M_3 c1 2))) (C := RX1) (T := TX1) (N := 10) hx hb hg inX1 hown hKn.1 hP (c1) (x_at1 (c := c1) h1) rfl 2 (Nat.le_of_ble_eq_true rfl) (nest_use hKn.2.2 nkF_X3_88) (fun _ h9 => h9) rfl dX3_spendNight_9 ?_
      refine lv_icmp_ge (tgt := 51) hx hb dX3_spendNight_12 (by decide) (fun c_4 => ?_) (fun c_4 => ?_)
      · have h := ife_t c_4 h
        exact hK7 M_3 _ _ _ hP hS (lv_sub hl [0] rfl) h
      · have h := ife_f c_4 h
        refine lv_iload_n hx hb dX3_spendNight_15 rfl (lv_at hl 2 rfl) ?_
        refine lv_iload_n hx hb dX3_spendNight_16 rfl (lv_at hl 3 rfl) ?_
        obtain ⟨r_5, e17, h⟩ := bo_use h
        refine gc_i (va_runSN (As := [.int (a2), .int (v3_2)]) (rest := []) hFx (tX7_has l dC dI kI ad a2 v3_2 M_3  e17) ⟨(gc_N hFx hKn.2.2 ck_yX7_has nkM_X3_91 ⟨Nat.le_of_ble_eq_true rfl, Nat.le_of_ble_eq_true rfl⟩ rfl rfl), hg _ st_yX7_has, trivial⟩ (gp_S x_KnB (x_KnW hKn) hP) rfl rfl hl.1 rfl (lv_room (Nat.le_of_ble_eq_true rfl)) dX3_spendNight_17 ⟨Nat.zero_le _, Nat.zero_le _⟩) hS (fun H locs hP hS => ?_)
        have hP : va_P (dC, dI) vwCl (x_w kI ad M_3) H := hP
        obtain ⟨J45, eJ45, h⟩ := jn_use h
        have hJ45 : ∀ (M_6 : (Nat → Nat → Int32)) (H : Heap) (locs : List Loc) (ls : Array Slot), va_P (dC, dI) vwCl (x_w kI ad M_6) H → va_S (x_A ad) s.heap H locs → lv_has ls 4 [(0, .ref (ad (c0))), (1, .ref (ad (c1))), (2, .int (a2)), (3, .int (v3_2))] → J45 M_6 = some M0 → W p l e (headSpec (wsA yX3_spendNight cX3_spendNight 4 none) ({ frames := 2, cells := 0, slots := 0, locals := 49 } : Room)).room s m (([.ref (ad (c0)), .ref (ad (c1)), .int (a2)] : List Value).toArray) below meth c H locs 0 0 (MQ below (va_Qv (fun (u : (Nat → Nat → Int32)) => u = M0) (gI (x_Wd dC dI kI ad) (x_Kn dC dI kI ad)) (x_A ad)) (([.ref (ad (c0)), .ref (ad (c1)), .int (a2)] : List Value).toArray) s 0 0 (x_A ad)) (F0 m 45 ls []) := by
          intro M_6 H locs ls hP hS hl h
          have h := useK1 eJ45 h
          refine lv_iinc (v := (v3_2 + 1)) (lv' := [(3, .int ((v3_2 + 1))), (0, .ref (ad (c0))), (1, .ref (ad (c1))), (2, .int (a2))]) hx hb dX3_spendNight_45 hl (k := 3) rfl rfl (Nat.le_of_ble_eq_true rfl) rfl (fun ls hl => ?_)
          refine lv_goto (tgt := 7) hx hb dX3_spendNight_48 (by decide) ?_
          exact ih7 (v3_2 + 1) M_6 _ _ _ hP hS (lv_sub hl [1, 2, 3, 0] rfl) h
        refine lv_if_eq (tgt := 45) hx hb dX3_spendNight_20 (by decide) (fun c_7 => ?_) (fun c_7 => ?_)
        · have h := ife_t c_7 h
          exact hJ45 M_3 _ _ _ hP hS (lv_sub hl [0, 1, 2, 3] rfl) h
        · have h := ife_f c_7 h
          refine lv_aload_n hx hb dX3_spendNight_23 rfl (lv_at hl 0 rfl) ?_
          refine lv_aload_n hx hb dX3_spendNight_24 rfl (lv_at hl 1 rfl) ?_
          refine lv_iload_n hx hb dX3_spendNight_25 rfl (lv_at hl 3 rfl) ?_
          obtain ⟨r_8, M_9, e26, h⟩ := bd_use h
          refine gc_i (va_runV (As := [.ref (ad (c1)), .int (v3_2)]) (rest := []) hFx (tX3_readFact l dC dI kI ad c0 c1 v3_2 M_3 h0 h1 e26) ⟨(gc_B hFx ck_yX3_readFact lkM_X3_95 ⟨Nat.le_of_ble_eq_true rfl, Nat.le_of_ble_eq_true rfl⟩ rfl rfl), hg _ vi_yX3_readFact, hg _ vs_yX3_readFact⟩ (gp_V x_KnB (x_KnW hKn) hP (x_rc3 (c := c0) h0 hKn hP)) rfl rfl hl.1 rfl (lv_room (Nat.le_of_ble_eq_true rfl)) dX3_spendNight_26 ⟨Nat.zero_le _, Nat.zero_le _⟩) hS (fun H locs hP hS => ?_)
          have hP : va_P (dC, dI) vwCl (x_w kI ad M_9) H := hP
          refine lv_if_eq (tgt := 45) hx hb dX3_spendNight_29 (by decide) (fun c_10 => ?_) (fun c_10 => ?_)
          · have h := ife_t c_10 h
            exact hJ45 M_9 _ _ _ hP hS (lv_sub hl [0, 1, 2, 3] rfl) h
          · have h := ife_f c_10 h
            refine lv_aload_n hx hb dX3_spendNight_32 rfl (lv_at hl 0 rfl) ?_
            refine va_get (D := (dC, dI)) (ci := 3) (v := .int ((M_9 c0 5))) (C := RX3) (T := TX3) (N := 6) hx hb hg inX3 hown hKn.1 hP (c0) (x_at3 (c := c0) h0) rfl 5 (Nat.le_of_ble_eq_true rfl) (hg _ lkF_X3_18) (fun _ h9 => h9) rfl dX3_spendNight_33 ?_
            refine lv_iconst (v := -1) hx hb dX3_spendNight_36 (by decide) ?_
            refine lv_icmp_ne (tgt := 45) hx hb dX3_spendNight_37 (by decide) (fun c_11 => ?_) (fun c_11 => ?_)
            · have h := ife_f c_11 h
              exact hJ45 M_9 _ _ _ hP hS (lv_sub hl [0, 1, 2, 3] rfl) h
            · have h := ife_t c_11 h
              refine lv_aload_n hx hb dX3_spendNight_40 rfl (lv_at hl 0 rfl) ?_
              refine lv_iload_n hx hb dX3_spendNight_41 rfl (lv_at hl 3 rfl) ?_
              refine va_put (D := (dC, dI)) (ci := 3) (v := .int (v3_2)) (ty := .int) (C := RX3) (T := TX3) (N := 6) hx hb hg inX3 tyX3 tyX3_ok nmX3 hown hKn.1 hP (x_D hKn.2.1) hS (c0) (x_at3 (c := c0) h0) rfl 5 (Nat.le_of_ble_eq_true rfl) (hg _ lkF_X3_18) (fun _ h9 => h9) rfl (by decide +kernel) rfl rfl (Nat.le_of_ble_eq_true rfl) dX3_spendNight_42 (fun H locs hP _ hS => ?_)
              have hP : va_P (dC, dI) vwCl (x_w kI ad (upd2 M_9 c0 5 v3_2)) H := vp_eq (x_put3_5 h0 _) hP
              exact hJ45 (upd2 M_9 c0 5 v3_2) _ _ _ hP hS (lv_sub hl [0, 1, 2, 3] rfl) h
  exact hL7 fuelN 0 (upd2 M c0 5 (-1)) _ _ _ hP hS (lv_sub hl [1, 2, 3, 0] rfl) h
noncomputable def FX3_unread (c0 : Nat) (a1 : Int32) (a2 : Int32) (a3 : Int32) (M : (Nat → Nat → Int32)) : Option (Nat → Nat → Int32) :=
  bo (FX7_put (c0 + 1) a2 a3 M) (fun (M_1 : (Nat → Nat → Int32)) => bo (FX7_at (c0 + 2) a1 M_1) (fun (r_2 : Int32) => bo (FX7_put (c0 + 2) a1 (r_2 - 1) M_1) (fun (M_3 : (Nat → Nat → Int32)) => some M_3)))
set_option maxHeartbeats 4000000 in
set_option maxRecDepth 100000 in
theorem tX3_unread (l : Launch) (dC : Nat → ClassId) (dI : Nat → Nat → Nat) (kI : ClassId) (ad : Nat → Nat) (c0 : Nat) (a1 : Int32) (a2 : Int32) (a3 : Int32) (M : (Nat → Nat → Int32)) (h0 : x_is3 c0) {M0 : (Nat → Nat → Int32)} (h : FX3_unread c0 a1 a2 a3 M = some M0) : Met l yX3_unread (wsA yX3_unread cX3_unread 4 none) ({ frames := 1, cells := 0, slots := 0, locals := 22 } : Room) (va_Pc [.ref (ad (c0)), .int (a1), .int (a2), .int (a3)] (gI (x_Wd dC dI kI ad) (x_Kn dC dI kI ad) M)) (va_Qv (fun (u : (Nat → Nat → Int32)) => u = M0) (gI (x_Wd dC dI kI ad) (x_Kn dC dI kI ad)) (x_A ad)) 0 0 (x_A ad) := by
  refine Met.ofW (cc := cX3_unread) (maxL := 4) (ret := none) (by decide) rfl ?_
  intro p e s m args below meth c s₁ B hml hv
  obtain ⟨rfl, hP, hKn⟩ := hv
  have hx := B.exec
  have hb := B.bytes
  have hr := B.returns
  have hts := atoms_spec (ws := wsA yX3_unread cX3_unread 4 none) B.pre
  have hg : ∀ w ∈ lw_good, w.before _ s = true := fun w h => hts w (List.mem_cons_of_mem _ h)
  have hown : s.vm.findClass RX3 = some m.cls := findClass_of_methodNamed B.named
  have hlocks := B.notSynchronized
  have hS : va_S (x_A ad) s.heap s.heap [] := va_S.rf
  have hFx : gFix p c cX3_unread 4 s m _ RX3 := ⟨hx, hb, hml, hown, hg⟩
  have hP : va_P (dC, dI) vwCl (x_w kI ad M) s.heap := hP
  have hl := lv_entry ([.ref (ad (c0)), .int (a1), .int (a2), .int (a3)]) (n := 4) (Nat.le_of_ble_eq_true rfl)
  rw [lg_entry_eq]
  generalize (lg_sl ([.ref (ad (c0)), .int (a1), .int (a2), .int (a3)]) ++ List.replicate (4 - (lg_sl ([.ref (ad (c0)), .int (a1), .int (a2), .int (a3)])).length) Slot.unset).toArray = ls at hl ⊢
  have hl : lv_has ls 4 [(0, .ref (ad (c0))), (1, .int (a1)), (2, .int (a2)), (3, .int (a3))] := hl
  unfold FX3_unread at h
  refine lv_aload_n hx hb dX3_unread_0 rfl (lv_at hl 0 rfl) ?_
  refine va_get (D := (dC, dI)) (ci := 3) (v := .ref (ad ((c0 + 1)))) (C := RX3) (T := TX3) (N := 6) hx hb hg inX3 hown hKn.1 hP (c0) (x_at3 (c := c0) h0) rfl 0 (Nat.le_of_ble_eq_true rfl) (hg _ lkF_X3_9) (fun _ h9 => h9) rfl dX3_unread_1 ?_
  refine lv_iload_n hx hb dX3_unread_4 rfl (lv_at hl 2 rfl) ?_
  refine lv_iload_n hx hb dX3_unread_5 rfl (lv_at hl 3 rfl) ?_
  obtain ⟨M_1, e6, h⟩ := bo_use h
  refine gc_v (va_runSN (As := [.ref (ad ((c0 + 1))), .int (a2), .int (a3)]) (rest := []) hFx (tX7_put l dC dI kI ad (c0 + 1) a2 a3 M (x_ar3_1 h0) e6) ⟨(gc_N hFx hKn.2.2 ck_yX7_put nkM_X3_44 ⟨Nat.le_of_ble_eq_true rfl, Nat.le_of_ble_eq_true rfl⟩ rfl rfl), hg _ st_yX7_put, trivial⟩ (gp_S x_KnB (x_KnW hKn) hP) rfl rfl hl.1 rfl (lv_room (Nat.le_of_ble_eq_true rfl)) dX3_unread_6 ⟨Nat.zero_le _, Nat.zero_le _⟩) hS (fun H locs hP hS => ?_)
  have hP : va_P (dC, dI) vwCl (x_w kI ad M_1) H := hP
  refine lv_aload_n hx hb dX3_unread_9 rfl (lv_at hl 0 rfl) ?_
  refine va_get (D := (dC, dI)) (ci := 3) (v := .ref (ad ((c0 + 2)))) (C := RX3) (T := TX3) (N := 6) hx hb hg inX3 hown hKn.1 hP (c0) (x_at3 (c := c0) h0) rfl 1 (Nat.le_of_ble_eq_true rfl) (hg _ lkF_X3_15) (fun _ h9 => h9) rfl dX3_unread_10 ?_
  refine lv_iload_n hx hb dX3_unread_13 rfl (lv_at hl 1 rfl) ?_
  refine lv_aload_n hx hb dX3_unread_14 rfl (lv_at hl 0 rfl) ?_
  refine va_get (D := (dC, dI)) (ci := 3) (v := .ref (ad ((c0 + 2)))) (C := RX3) (T := TX3) (N := 6) hx hb hg inX3 hown hKn.1 hP (c0) (x_at3 (c := c0) h0) rfl 1 (Nat.le_of_ble_eq_true rfl) (hg _ lkF_X3_15) (fun _ h9 => h9) rfl dX3_unread_15 ?_
  refine lv_iload_n hx hb dX3_unread_18 rfl (lv_at hl 1 rfl) ?_
  obtain ⟨r_2, e19, h⟩ := bo_use h
  refine gc_i (va_runSN (As := [.ref (ad ((c0 + 2))), .int (a1)]) (rest := [.int (a1), .ref (ad ((c0 + 2)))]) hFx (tX7_at l dC dI kI ad (c0 + 2) a1 M_1 (x_ar3_2 h0) e19) ⟨(gc_N hFx hKn.2.2 ck_yX7_at nkM_X3_40 ⟨Nat.le_of_ble_eq_true rfl, Nat.le_of_ble_eq_true rfl⟩ rfl rfl), hg _ st_yX7_at, trivial⟩ (gp_S x_KnB (x_KnW hKn) hP) rfl rfl hl.1 rfl (lv_room (Nat.le_of_ble_eq_true rfl)) dX3_unread_19 ⟨Nat.zero_le _, Nat.zero_le _⟩) hS (fun H locs hP hS => ?_)
  have hP : va_P (dC, dI) vwCl (x_w kI ad M_1) H := hP
  refine lv_iconst (v := 1) hx hb dX3_unread_22 (by decide) ?_
  refine lv_isub hx hb dX3_unread_23 ?_
  obtain ⟨M_3, e24, h⟩ := bo_use h
  refine gc_v (va_runSN (As := [.ref (ad ((c0 + 2))), .int (a1), .int ((r_2 - 1))]) (rest := []) hFx (tX7_put l dC dI kI ad (c0 + 2) a1 (r_2 - 1) M_1 (x_ar3_2 h0) e24) ⟨(gc_N hFx hKn.2.2 ck_yX7_put nkM_X3_44 ⟨Nat.le_of_ble_eq_true rfl, Nat.le_of_ble_eq_true rfl⟩ rfl rfl), hg _ st_yX7_put, trivial⟩ (gp_S x_KnB (x_KnW hKn) hP) rfl rfl hl.1 rfl (lv_room (Nat.le_of_ble_eq_true rfl)) dX3_unread_24 ⟨Nat.zero_le _, Nat.zero_le _⟩) hS (fun H locs hP hS => ?_)
  have hP : va_P (dC, dI) vwCl (x_w kI ad M_3) H := hP
  exact W.vret hx hb hr (fun t ht hW => ⟨⟨M_3, rfl, Option.some.inj h, by rw [ht]; exact hP, x_KnW hKn t hW⟩, hS.F ht⟩) hS.2.2 dX3_unread_27
noncomputable def FX4_clear  (M : (Nat → Nat → Int32)) : Option (Nat → Nat → Int32) :=
  some (upd2 M 27 2 0)
set_option maxHeartbeats 4000000 in
set_option maxRecDepth 100000 in
theorem tX4_clear (l : Launch) (dC : Nat → ClassId) (dI : Nat → Nat → Nat) (kI : ClassId) (ad : Nat → Nat)  (M : (Nat → Nat → Int32))  {M0 : (Nat → Nat → Int32)} (h : FX4_clear  M = some M0) : Met l yX4_clear (wsA yX4_clear cX4_clear 1 none) ({ frames := 0, cells := 0, slots := 0, locals := 0 } : Room) (va_Pc [.ref (ad (27))] (gI (x_Wd dC dI kI ad) (x_Kn dC dI kI ad) M)) (va_Qv (fun (u : (Nat → Nat → Int32)) => u = M0) (gI (x_Wd dC dI kI ad) (x_Kn dC dI kI ad)) (x_A ad)) 0 0 (x_A ad) := by
  refine Met.ofW (cc := cX4_clear) (maxL := 1) (ret := none) (by decide) rfl ?_
  intro p e s m args below meth c s₁ B hml hv
  obtain ⟨rfl, hP, hKn⟩ := hv
  have hx := B.exec
  have hb := B.bytes
  have hr := B.returns
  have hts := atoms_spec (ws := wsA yX4_clear cX4_clear 1 none) B.pre
  have hg : ∀ w ∈ lw_good, w.before _ s = true := fun w h => hts w (List.mem_cons_of_mem _ h)
  have hown : s.vm.findClass RX4 = some m.cls := findClass_of_methodNamed B.named
  have hlocks := B.notSynchronized
  have hS : va_S (x_A ad) s.heap s.heap [] := va_S.rf
  have hFx : gFix p c cX4_clear 1 s m _ RX4 := ⟨hx, hb, hml, hown, hg⟩
  have hP : va_P (dC, dI) vwCl (x_w kI ad M) s.heap := hP
  have hl := lv_entry ([.ref (ad (27))]) (n := 1) (Nat.le_of_ble_eq_true rfl)
  rw [lg_entry_eq]
  generalize (lg_sl ([.ref (ad (27))]) ++ List.replicate (1 - (lg_sl ([.ref (ad (27))])).length) Slot.unset).toArray = ls at hl ⊢
  have hl : lv_has ls 1 [(0, .ref (ad (27)))] := hl
  unfold FX4_clear at h
  refine lv_aload_n hx hb dX4_clear_0 rfl (lv_at hl 0 rfl) ?_
  refine lv_iconst (v := 0) hx hb dX4_clear_1 (by decide) ?_
  refine va_put (D := (dC, dI)) (ci := 4) (v := .int (0)) (ty := .int) (C := RX4) (T := TX4) (N := 3) hx hb hg inX4 tyX4 tyX4_ok nmX4 hown hKn.1 hP (x_D hKn.2.1) hS (27) (x_at4 (c := 27) (by decide)) rfl 2 (Nat.le_of_ble_eq_true rfl) (hg _ lkF_X4_24) (fun _ h9 => h9) rfl (by decide +kernel) rfl rfl (Nat.le_of_ble_eq_true rfl) dX4_clear_2 (fun H locs hP _ hS => ?_)
  have hP : va_P (dC, dI) vwCl (x_w kI ad (upd2 M 27 2 0)) H := vp_eq (x_put4_2 (by decide) _) hP
  exact W.vret hx hb hr (fun t ht hW => ⟨⟨upd2 M 27 2 0, rfl, Option.some.inj h, by rw [ht]; exact hP, x_KnW hKn t hW⟩, hS.F ht⟩) hS.2.2 dX4_clear_5
noncomputable def FX6_fetch_L43 (c0 : Nat) (c2 : Nat) (b3 : Int32) (K : (Nat → Nat → Int32) → Option (Nat → Nat → Int32)) (k : Nat) (v4_7 : Int32) (M_8 : (Nat → Nat → Int32)) : Option (Nat → Nat → Int32) := match k with
  | 0 => none
  | k + 1 => (if 8 ≤ v4_7 then K M_8 else bo (FX7_at (c0 + 1) ((b3 + 5) + v4_7) M_8) (fun (r_10 : Int32) => bo (FX7_put (c2 + 2) v4_7 r_10 M_8) (fun (M_11 : (Nat → Nat → Int32)) => FX6_fetch_L43 c0 c2 b3 K k (v4_7 + 1) M_11)))
noncomputable def FX6_fetch_L8 (c0 : Nat) (c2 : Nat) (b3 : Int32) (K : (Nat → Nat → Int32) → Option (Nat → Nat → Int32)) (k : Nat) (v4_12 : Int32) (M_13 : (Nat → Nat → Int32)) : Option (Nat → Nat → Int32) := match k with
  | 0 => none
  | k + 1 => (if 5 ≤ v4_12 then K M_13 else bo (FX7_at (c0 + 1) (b3 + v4_12) M_13) (fun (r_15 : Int32) => bo (FX7_put (c2 + 1) v4_12 r_15 M_13) (fun (M_16 : (Nat → Nat → Int32)) => FX6_fetch_L8 c0 c2 b3 K k (v4_12 + 1) M_16)))
noncomputable def FX6_fetch (c0 : Nat) (a1 : Int32) (c2 : Nat) (M : (Nat → Nat → Int32)) : Option (Nat → Nat → Int32) :=
  FX6_fetch_L8 c0 c2 (a1 * 17) (fun (M_1 : (Nat → Nat → Int32)) => FX6_fetch_L43 c0 c2 (a1 * 17) (fun (M_2 : (Nat → Nat → Int32)) => bo (FX7_at (c0 + 1) ((a1 * 17) + 13) M_2) (fun (r_3 : Int32) => bo (FX7_at (c0 + 1) ((a1 * 17) + 14) (upd2 M_2 c2 2 r_3)) (fun (r_4 : Int32) => bo (FX7_at (c0 + 1) ((a1 * 17) + 15) (upd2 (upd2 M_2 c2 2 r_3) c2 3 r_4)) (fun (r_5 : Int32) => bo (FX7_at (c0 + 1) ((a1 * 17) + 16) (upd2 (upd2 (upd2 M_2 c2 2 r_3) c2 3 r_4) c2 4 r_5)) (fun (r_6 : Int32) => some (upd2 (upd2 (upd2 (upd2 M_2 c2 2 r_3) c2 3 r_4) c2 4 r_5) c2 5 r_6)))))) fuelN 0 M_1) fuelN 0 M
set_option maxHeartbeats 4000000 in
set_option maxRecDepth 100000 in
theorem tX6_fetch (l : Launch) (dC : Nat → ClassId) (dI : Nat → Nat → Nat) (kI : ClassId) (ad : Nat → Nat) (c0 : Nat) (a1 : Int32) (c2 : Nat) (M : (Nat → Nat → Int32)) (h0 : x_is6 c0) (h2 : x_is3 c2) {M0 : (Nat → Nat → Int32)} (h : FX6_fetch c0 a1 c2 M = some M0) : Met l yX6_fetch (wsA yX6_fetch cX6_fetch 5 none) ({ frames := 1, cells := 0, slots := 0, locals := 22 } : Room) (va_Pc [.ref (ad (c0)), .int (a1), .ref (ad (c2))] (gI (x_Wd dC dI kI ad) (x_Kn dC dI kI ad) M)) (va_Qv (fun (u : (Nat → Nat → Int32)) => u = M0) (gI (x_Wd dC dI kI ad) (x_Kn dC dI kI ad)) (x_A ad)) 0 0 (x_A ad) := by
  refine Met.ofW (cc := cX6_fetch) (maxL := 5) (ret := none) (by decide) rfl ?_
  intro p e s m args below meth c s₁ B hml hv
  obtain ⟨rfl, hP, hKn⟩ := hv
  have hx := B.exec
  have hb := B.bytes
  have hr := B.returns
  have hts := atoms_spec (ws := wsA yX6_fetch cX6_fetch 5 none) B.pre
  have hg : ∀ w ∈ lw_good, w.before _ s = true := fun w h => hts w (List.mem_cons_of_mem _ h)
  have hown : s.vm.findClass RX6 = some m.cls := findClass_of_methodNamed B.named
  have hlocks := B.notSynchronized
  have hS : va_S (x_A ad) s.heap s.heap [] := va_S.rf
  have hFx : gFix p c cX6_fetch 5 s m _ RX6 := ⟨hx, hb, hml, hown, hg⟩
  have hP : va_P (dC, dI) vwCl (x_w kI ad M) s.heap := hP
  have hl := lv_entry ([.ref (ad (c0)), .int (a1), .ref (ad (c2))]) (n := 5) (Nat.le_of_ble_eq_true rfl)
  rw [lg_entry_eq]
  generalize (lg_sl ([.ref (ad (c0)), .int (a1), .ref (ad (c2))]) ++ List.replicate (5 - (lg_sl ([.ref (ad (c0)), .int (a1), .ref (ad (c2))])).length) Slot.unset).toArray = ls at hl ⊢
  have hl : lv_has ls 5 [(0, .ref (ad (c0))), (1, .int (a1)), (2, .ref (ad (c2)))] := hl
  unfold FX6_fetch at h
  refine lv_iload_n hx hb dX6_fetch_0 rfl (lv_at hl 1 rfl) ?_
  refine lv_bipush (v := 17) hx hb dX6_fetch_1 (by decide) ?_
  refine lv_imul hx hb dX6_fetch_3 ?_
  refine lv_istore_n (lv' := [(3, .int ((a1 * 17))), (0, .ref (ad (c0))), (1, .int (a1)), (2, .ref (ad (c2)))]) hx hb dX6_fetch_4 rfl hl (Nat.le_of_ble_eq_true rfl) rfl (fun ls hl => ?_)
  refine lv_iconst (v := 0) hx hb dX6_fetch_5 (by decide) ?_
  refine lv_istore (lv' := [(4, .int (0)), (3, .int ((a1 * 17))), (0, .ref (ad (c0))), (1, .int (a1)), (2, .ref (ad (c2)))]) hx hb dX6_fetch_6 hl (Nat.le_of_ble_eq_true rfl) rfl (fun ls hl => ?_)
  obtain ⟨K8, eK8, h⟩ := exK (Lp := fun K => FX6_fetch_L8 c0 c2 (a1 * 17) K fuelN 0 M) h
  have hK8 : ∀ (M_1 : (Nat → Nat → Int32)) (H : Heap) (locs : List Loc) (ls : Array Slot), va_P (dC, dI) vwCl (x_w kI ad M_1) H → va_S (x_A ad) s.heap H locs → lv_has ls 5 [(0, .ref (ad (c0))), (2, .ref (ad (c2))), (3, .int ((a1 * 17)))] → K8 M_1 = some M0 → W p l e (headSpec (wsA yX6_fetch cX6_fetch 5 none) ({ frames := 1, cells := 0, slots := 0, locals := 22 } : Room)).room s m (([.ref (ad (c0)), .int (a1), .ref (ad (c2))] : List Value).toArray) below meth c H locs 0 0 (MQ below (va_Qv (fun (u : (Nat → Nat → Int32)) => u = M0) (gI (x_Wd dC dI kI ad) (x_Kn dC dI kI ad)) (x_A ad)) (([.ref (ad (c0)), .int (a1), .ref (ad (c2))] : List Value).toArray) s 0 0 (x_A ad)) (F0 m 40 ls []) := by
    intro M_1 H locs ls hP hS hl h
    have h := useK1 eK8 h
    refine lv_iconst (v := 0) hx hb dX6_fetch_40 (by decide) ?_
    refine lv_istore (lv' := [(4, .int (0)), (0, .ref (ad (c0))), (2, .ref (ad (c2))), (3, .int ((a1 * 17)))]) hx hb dX6_fetch_41 hl (Nat.le_of_ble_eq_true rfl) rfl (fun ls hl => ?_)
    obtain ⟨K43, eK43, h⟩ := exK (Lp := fun K => FX6_fetch_L43 c0 c2 (a1 * 17) K fuelN 0 M_1) h
    have hK43 : ∀ (M_2 : (Nat → Nat → Int32)) (H : Heap) (locs : List Loc) (ls : Array Slot), va_P (dC, dI) vwCl (x_w kI ad M_2) H → va_S (x_A ad) s.heap H locs → lv_has ls 5 [(0, .ref (ad (c0))), (2, .ref (ad (c2))), (3, .int ((a1 * 17)))] → K43 M_2 = some M0 → W p l e (headSpec (wsA yX6_fetch cX6_fetch 5 none) ({ frames := 1, cells := 0, slots := 0, locals := 22 } : Room)).room s m (([.ref (ad (c0)), .int (a1), .ref (ad (c2))] : List Value).toArray) below meth c H locs 0 0 (MQ below (va_Qv (fun (u : (Nat → Nat → Int32)) => u = M0) (gI (x_Wd dC dI kI ad) (x_Kn dC dI kI ad)) (x_A ad)) (([.ref (ad (c0)), .int (a1), .ref (ad (c2))] : List Value).toArray) s 0 0 (x_A ad)) (F0 m 78 ls []) := by
      intro M_2 H locs ls hP hS hl h
      have h := useK1 eK43 h
      refine lv_aload_n hx hb dX6_fetch_78 rfl (lv_at hl 1 rfl) ?_
      refine lv_aload_n hx hb dX6_fetch_79 rfl (lv_at hl 0 rfl) ?_
      refine va_get (D := (dC, dI)) (ci := 6) (v := .ref (ad ((c0 + 1)))) (C := RX6) (T := TX6) (N := 1) hx hb hg inX6 hown hKn.1 hP (c0) (x_at6 (c := c0) h0) rfl 0 (Nat.le_of_ble_eq_true rfl) (hg _ lkF_X6_20) (fun _ h9 => h9) rfl dX6_fetch_80 ?_
      refine lv_iload_n hx hb dX6_fetch_83 rfl (lv_at hl 2 rfl) ?_
      refine lv_bipush (v := 13) hx hb dX6_fetch_84 (by decide) ?_
      refine lv_iadd hx hb dX6_fetch_86 ?_
      obtain ⟨r_3, e87, h⟩ := bo_use h
      refine gc_i (va_runSN (As := [.ref (ad ((c0 + 1))), .int (((a1 * 17) + 13))]) (rest := [.ref (ad (c2))]) hFx (tX7_at l dC dI kI ad (c0 + 1) ((a1 * 17) + 13) M_2 (x_ar6_1 h0) e87) ⟨(gc_N hFx hKn.2.2 ck_yX7_at nkM_X6_29 ⟨Nat.le_of_ble_eq_true rfl, Nat.le_of_ble_eq_true rfl⟩ rfl rfl), hg _ st_yX7_at, trivial⟩ (gp_S x_KnB (x_KnW hKn) hP) rfl rfl hl.1 rfl (lv_room (Nat.le_of_ble_eq_true rfl)) dX6_fetch_87 ⟨Nat.zero_le _, Nat.zero_le _⟩) hS (fun H locs hP hS => ?_)
      have hP : va_P (dC, dI) vwCl (x_w kI ad M_2) H := hP
      refine va_putN (D := (dC, dI)) (ci := 3) (v := .int (r_3)) (ty := .int) (C := RX3) (T := TX3) (N := 6) hx hb hg inX3 tyX3 tyX3_ok nmX3 hown hKn.1 hP (x_D hKn.2.1) hS (c2) (x_at3 (c := c2) h2) rfl 2 (Nat.le_of_ble_eq_true rfl) (nest_use hKn.2.2 nkF_X6_40) (fun _ h9 => h9) rfl (by decide +kernel) rfl rfl (Nat.le_of_ble_eq_true rfl) dX6_fetch_90 (fun H locs hP _ hS => ?_)
      have hP : va_P (dC, dI) vwCl (x_w kI ad (upd2 M_2 c2 2 r_3)) H := vp_eq (x_put3_2 h2 _) hP
      refine lv_aload_n hx hb dX6_fetch_93 rfl (lv_at hl 1 rfl) ?_
      refine lv_aload_n hx hb dX6_fetch_94 rfl (lv_at hl 0 rfl) ?_
      refine va_get (D := (dC, dI)) (ci := 6) (v := .ref (ad ((c0 + 1)))) (C := RX6) (T := TX6) (N := 1) hx hb hg inX6 hown hKn.1 hP (c0) (x_at6 (c := c0) h0) rfl 0 (Nat.le_of_ble_eq_true rfl) (hg _ lkF_X6_20) (fun _ h9 => h9) rfl dX6_fetch_95 ?_
      refine lv_iload_n hx hb dX6_fetch_98 rfl (lv_at hl 2 rfl) ?_
      refine lv_bipush (v := 14) hx hb dX6_fetch_99 (by decide) ?_
      refine lv_iadd hx hb dX6_fetch_101 ?_
      obtain ⟨r_4, e102, h⟩ := bo_use h
      refine gc_i (va_runSN (As := [.ref (ad ((c0 + 1))), .int (((a1 * 17) + 14))]) (rest := [.ref (ad (c2))]) hFx (tX7_at l dC dI kI ad (c0 + 1) ((a1 * 17) + 14) (upd2 M_2 c2 2 r_3) (x_ar6_1 h0) e102) ⟨(gc_N hFx hKn.2.2 ck_yX7_at nkM_X6_29 ⟨Nat.le_of_ble_eq_true rfl, Nat.le_of_ble_eq_true rfl⟩ rfl rfl), hg _ st_yX7_at, trivial⟩ (gp_S x_KnB (x_KnW hKn) hP) rfl rfl hl.1 rfl (lv_room (Nat.le_of_ble_eq_true rfl)) dX6_fetch_102 ⟨Nat.zero_le _, Nat.zero_le _⟩) hS (fun H locs hP hS => ?_)
      have hP : va_P (dC, dI) vwCl (x_w kI ad (upd2 M_2 c2 2 r_3)) H := hP
      refine va_putN (D := (dC, dI)) (ci := 3) (v := .int (r_4)) (ty := .int) (C := RX3) (T := TX3) (N := 6) hx hb hg inX3 tyX3 tyX3_ok nmX3 hown hKn.1 hP (x_D hKn.2.1) hS (c2) (x_at3 (c := c2) h2) rfl 3 (Nat.le_of_ble_eq_true rfl) (nest_use hKn.2.2 nkF_X6_44) (fun _ h9 => h9) rfl (by decide +kernel) rfl rfl (Nat.le_of_ble_eq_true rfl) dX6_fetch_105 (fun H locs hP _ hS => ?_)
      have hP : va_P (dC, dI) vwCl (x_w kI ad (upd2 (upd2 M_2 c2 2 r_3) c2 3 r_4)) H := vp_eq (x_put3_3 h2 _) hP
      refine lv_aload_n hx hb dX6_fetch_108 rfl (lv_at hl 1 rfl) ?_
      refine lv_aload_n hx hb dX6_fetch_109 rfl (lv_at hl 0 rfl) ?_
      refine va_get (D := (dC, dI)) (ci := 6) (v := .ref (ad ((c0 + 1)))) (C := RX6) (T := TX6) (N := 1) hx hb hg inX6 hown hKn.1 hP (c0) (x_at6 (c := c0) h0) rfl 0 (Nat.le_of_ble_eq_true rfl) (hg _ lkF_X6_20) (fun _ h9 => h9) rfl dX6_fetch_110 ?_
      refine lv_iload_n hx hb dX6_fetch_113 rfl (lv_at hl 2 rfl) ?_
      refine lv_bipush (v := 15) hx hb dX6_fetch_114 (by decide) ?_
      refine lv_iadd hx hb dX6_fetch_116 ?_
      obtain ⟨r_5, e117, h⟩ := bo_use h
      refine gc_i (va_runSN (As := [.ref (ad ((c0 + 1))), .int (((a1 * 17) + 15))]) (rest := [.ref (ad (c2))]) hFx (tX7_at l dC dI kI ad (c0 + 1) ((a1 * 17) + 15) (upd2 (upd2 M_2 c2 2 r_3) c2 3 r_4) (x_ar6_1 h0) e117) ⟨(gc_N hFx hKn.2.2 ck_yX7_at nkM_X6_29 ⟨Nat.le_of_ble_eq_true rfl, Nat.le_of_ble_eq_true rfl⟩ rfl rfl), hg _ st_yX7_at, trivial⟩ (gp_S x_KnB (x_KnW hKn) hP) rfl rfl hl.1 rfl (lv_room (Nat.le_of_ble_eq_true rfl)) dX6_fetch_117 ⟨Nat.zero_le _, Nat.zero_le _⟩) hS (fun H locs hP hS => ?_)
      have hP : va_P (dC, dI) vwCl (x_w kI ad (upd2 (upd2 M_2 c2 2 r_3) c2 3 r_4)) H := hP
      refine va_putN (D := (dC, dI)) (ci := 3) (v := .int (r_5)) (ty := .int) (C := RX3) (T := TX3) (N := 6) hx hb hg inX3 tyX3 tyX3_ok nmX3 hown hKn.1 hP (x_D hKn.2.1) hS (c2) (x_at3 (c := c2) h2) rfl 4 (Nat.le_of_ble_eq_true rfl) (nest_use hKn.2.2 nkF_X6_47) (fun _ h9 => h9) rfl (by decide +kernel) rfl rfl (Nat.le_of_ble_eq_true rfl) dX6_fetch_120 (fun H locs hP _ hS => ?_)
      have hP : va_P (dC, dI) vwCl (x_w kI ad (upd2 (upd2 (upd2 M_2 c2 2 r_3) c2 3 r_4) c2 4 r_5)) H := vp_eq (x_put3_4 h2 _) hP
      refine lv_aload_n hx hb dX6_fetch_123 rfl (lv_at hl 1 rfl) ?_
      refine lv_aload_n hx hb dX6_fetch_124 rfl (lv_at hl 0 rfl) ?_
      refine va_get (D := (dC, dI)) (ci := 6) (v := .ref (ad ((c0 + 1)))) (C := RX6) (T := TX6) (N := 1) hx hb hg inX6 hown hKn.1 hP (c0) (x_at6 (c := c0) h0) rfl 0 (Nat.le_of_ble_eq_true rfl) (hg _ lkF_X6_20) (fun _ h9 => h9) rfl dX6_fetch_125 ?_
      refine lv_iload_n hx hb dX6_fetch_128 rfl (lv_at hl 2 rfl) ?_
      refine lv_bipush (v := 16) hx hb dX6_fetch_129 (by decide) ?_
      refine lv_iadd hx hb dX6_fetch_131 ?_
      obtain ⟨r_6, e132, h⟩ := bo_use h
      refine gc_i (va_runSN (As := [.ref (ad ((c0 + 1))), .int (((a1 * 17) + 16))]) (rest := [.ref (ad (c2))]) hFx (tX7_at l dC dI kI ad (c0 + 1) ((a1 * 17) + 16) (upd2 (upd2 (upd2 M_2 c2 2 r_3) c2 3 r_4) c2 4 r_5) (x_ar6_1 h0) e132) ⟨(gc_N hFx hKn.2.2 ck_yX7_at nkM_X6_29 ⟨Nat.le_of_ble_eq_true rfl, Nat.le_of_ble_eq_true rfl⟩ rfl rfl), hg _ st_yX7_at, trivial⟩ (gp_S x_KnB (x_KnW hKn) hP) rfl rfl hl.1 rfl (lv_room (Nat.le_of_ble_eq_true rfl)) dX6_fetch_132 ⟨Nat.zero_le _, Nat.zero_le _⟩) hS (fun H locs hP hS => ?_)
      have hP : va_P (dC, dI) vwCl (x_w kI ad (upd2 (upd2 (upd2 M_2 c2 2 r_3) c2 3 r_4) c2 4 r_5)) H := hP
      refine va_putN (D := (dC, dI)) (ci := 3) (v := .int (r_6)) (ty := .int) (C := RX3) (T := TX3) (N := 6) hx hb hg inX3 tyX3 tyX3_ok nmX3 hown hKn.1 hP (x_D hKn.2.1) hS (c2) (x_at3 (c := c2) h2) rfl 5 (Nat.le_of_ble_eq_true rfl) (nest_use hKn.2.2 nkF_X6_50) (fun _ h9 => h9) rfl (by decide +kernel) rfl rfl (Nat.le_of_ble_eq_true rfl) dX6_fetch_135 (fun H locs hP _ hS => ?_)
      have hP : va_P (dC, dI) vwCl (x_w kI ad (upd2 (upd2 (upd2 (upd2 M_2 c2 2 r_3) c2 3 r_4) c2 4 r_5) c2 5 r_6)) H := vp_eq (x_put3_5 h2 _) hP
      exact W.vret hx hb hr (fun t ht hW => ⟨⟨upd2 (upd2 (upd2 (upd2 M_2 c2 2 r_3) c2 3 r_4) c2 4 r_5) c2 5 r_6, rfl, Option.some.inj h, by rw [ht]; exact hP, x_KnW hKn t hW⟩, hS.F ht⟩) hS.2.2 dX6_fetch_138
    have hL43 : ∀ (k : Nat) (v4_7 : Int32) (M_8 : (Nat → Nat → Int32)) (H : Heap) (locs : List Loc) (ls : Array Slot), va_P (dC, dI) vwCl (x_w kI ad M_8) H → va_S (x_A ad) s.heap H locs → lv_has ls 5 [(0, .ref (ad (c0))), (2, .ref (ad (c2))), (3, .int ((a1 * 17))), (4, .int (v4_7))] → FX6_fetch_L43 c0 c2 (a1 * 17) K43 k v4_7 M_8 = some M0 → W p l e (headSpec (wsA yX6_fetch cX6_fetch 5 none) ({ frames := 1, cells := 0, slots := 0, locals := 22 } : Room)).room s m (([.ref (ad (c0)), .int (a1), .ref (ad (c2))] : List Value).toArray) below meth c H locs 0 0 (MQ below (va_Qv (fun (u : (Nat → Nat → Int32)) => u = M0) (gI (x_Wd dC dI kI ad) (x_Kn dC dI kI ad)) (x_A ad)) (([.ref (ad (c0)), .int (a1), .ref (ad (c2))] : List Value).toArray) s 0 0 (x_A ad)) (F0 m 43 ls []) := by
      intro k
      induction k with
      | zero => intro v4_7 M_8 H locs ls hP hS hl h; cases h
      | succ k ih43 =>
        intro v4_7 M_8 H locs ls hP hS hl h
        unfold FX6_fetch_L43 at h
        refine lv_iload hx hb dX6_fetch_43 (lv_at hl 3 rfl) ?_
        refine lv_bipush (v := 8) hx hb dX6_fetch_45 (by decide) ?_
        refine lv_icmp_ge (tgt := 78) hx hb dX6_fetch_47 (by decide) (fun c_9 => ?_) (fun c_9 => ?_)
        · have h := ife_t c_9 h
          exact hK43 M_8 _ _ _ hP hS (lv_sub hl [0, 1, 2] rfl) h
        · have h := ife_f c_9 h
          refine lv_aload_n hx hb dX6_fetch_50 rfl (lv_at hl 1 rfl) ?_
          refine va_getN (D := (dC, dI)) (ci := 3) (v := .ref (ad ((c2 + 2)))) (C := RX3) (T := TX3) (N := 6) hx hb hg inX3 hown hKn.1 hP (c2) (x_at3 (c := c2) h2) rfl 1 (Nat.le_of_ble_eq_true rfl) (nest_use hKn.2.2 nkF_X6_37) (fun _ h9 => h9) rfl dX6_fetch_51 ?_
          refine lv_iload hx hb dX6_fetch_54 (lv_at hl 3 rfl) ?_
          refine lv_aload_n hx hb dX6_fetch_56 rfl (lv_at hl 0 rfl) ?_
          refine va_get (D := (dC, dI)) (ci := 6) (v := .ref (ad ((c0 + 1)))) (C := RX6) (T := TX6) (N := 1) hx hb hg inX6 hown hKn.1 hP (c0) (x_at6 (c := c0) h0) rfl 0 (Nat.le_of_ble_eq_true rfl) (hg _ lkF_X6_20) (fun _ h9 => h9) rfl dX6_fetch_57 ?_
          refine lv_iload_n hx hb dX6_fetch_60 rfl (lv_at hl 2 rfl) ?_
          refine lv_iconst (v := 5) hx hb dX6_fetch_61 (by decide) ?_
          refine lv_iadd hx hb dX6_fetch_62 ?_
          refine lv_iload hx hb dX6_fetch_63 (lv_at hl 3 rfl) ?_
          refine lv_iadd hx hb dX6_fetch_65 ?_
          obtain ⟨r_10, e66, h⟩ := bo_use h
          refine gc_i (va_runSN (As := [.ref (ad ((c0 + 1))), .int ((((a1 * 17) + 5) + v4_7))]) (rest := [.int (v4_7), .ref (ad ((c2 + 2)))]) hFx (tX7_at l dC dI kI ad (c0 + 1) (((a1 * 17) + 5) + v4_7) M_8 (x_ar6_1 h0) e66) ⟨(gc_N hFx hKn.2.2 ck_yX7_at nkM_X6_29 ⟨Nat.le_of_ble_eq_true rfl, Nat.le_of_ble_eq_true rfl⟩ rfl rfl), hg _ st_yX7_at, trivial⟩ (gp_S x_KnB (x_KnW hKn) hP) rfl rfl hl.1 rfl (lv_room (Nat.le_of_ble_eq_true rfl)) dX6_fetch_66 ⟨Nat.zero_le _, Nat.zero_le _⟩) hS (fun H locs hP hS => ?_)
          have hP : va_P (dC, dI) vwCl (x_w kI ad M_8) H := hP
          obtain ⟨M_11, e69, h⟩ := bo_use h
          refine gc_v (va_runSN (As := [.ref (ad ((c2 + 2))), .int (v4_7), .int (r_10)]) (rest := []) hFx (tX7_put l dC dI kI ad (c2 + 2) v4_7 r_10 M_8 (x_ar3_2 h2) e69) ⟨(gc_N hFx hKn.2.2 ck_yX7_put nkM_X6_33 ⟨Nat.le_of_ble_eq_true rfl, Nat.le_of_ble_eq_true rfl⟩ rfl rfl), hg _ st_yX7_put, trivial⟩ (gp_S x_KnB (x_KnW hKn) hP) rfl rfl hl.1 rfl (lv_room (Nat.le_of_ble_eq_true rfl)) dX6_fetch_69 ⟨Nat.zero_le _, Nat.zero_le _⟩) hS (fun H locs hP hS => ?_)
          have hP : va_P (dC, dI) vwCl (x_w kI ad M_11) H := hP
          refine lv_iinc (v := (v4_7 + 1)) (lv' := [(4, .int ((v4_7 + 1))), (0, .ref (ad (c0))), (2, .ref (ad (c2))), (3, .int ((a1 * 17)))]) hx hb dX6_fetch_72 hl (k := 3) rfl rfl (Nat.le_of_ble_eq_true rfl) rfl (fun ls hl => ?_)
          refine lv_goto (tgt := 43) hx hb dX6_fetch_75 (by decide) ?_
          exact ih43 (v4_7 + 1) M_11 _ _ _ hP hS (lv_sub hl [1, 2, 3, 0] rfl) h
    exact hL43 fuelN 0 M_1 _ _ _ hP hS (lv_sub hl [1, 2, 3, 0] rfl) h
  have hL8 : ∀ (k : Nat) (v4_12 : Int32) (M_13 : (Nat → Nat → Int32)) (H : Heap) (locs : List Loc) (ls : Array Slot), va_P (dC, dI) vwCl (x_w kI ad M_13) H → va_S (x_A ad) s.heap H locs → lv_has ls 5 [(0, .ref (ad (c0))), (2, .ref (ad (c2))), (3, .int ((a1 * 17))), (4, .int (v4_12))] → FX6_fetch_L8 c0 c2 (a1 * 17) K8 k v4_12 M_13 = some M0 → W p l e (headSpec (wsA yX6_fetch cX6_fetch 5 none) ({ frames := 1, cells := 0, slots := 0, locals := 22 } : Room)).room s m (([.ref (ad (c0)), .int (a1), .ref (ad (c2))] : List Value).toArray) below meth c H locs 0 0 (MQ below (va_Qv (fun (u : (Nat → Nat → Int32)) => u = M0) (gI (x_Wd dC dI kI ad) (x_Kn dC dI kI ad)) (x_A ad)) (([.ref (ad (c0)), .int (a1), .ref (ad (c2))] : List Value).toArray) s 0 0 (x_A ad)) (F0 m 8 ls []) := by
    intro k
    induction k with
    | zero => intro v4_12 M_13 H locs ls hP hS hl h; cases h
    | succ k ih8 =>
      intro v4_12 M_13 H locs ls hP hS hl h
      unfold FX6_fetch_L8 at h
      refine lv_iload hx hb dX6_fetch_8 (lv_at hl 3 rfl) ?_
      refine lv_iconst (v := 5) hx hb dX6_fetch_10 (by decide) ?_
      refine lv_icmp_ge (tgt := 40) hx hb dX6_fetch_11 (by decide) (fun c_14 => ?_) (fun c_14 => ?_)
      · have h := ife_t c_14 h
        exact hK8 M_13 _ _ _ hP hS (lv_sub hl [0, 1, 2] rfl) h
      · have h := ife_f c_14 h
        refine lv_aload_n hx hb dX6_fetch_14 rfl (lv_at hl 1 rfl) ?_
        refine va_getN (D := (dC, dI)) (ci := 3) (v := .ref (ad ((c2 + 1)))) (C := RX3) (T := TX3) (N := 6) hx hb hg inX3 hown hKn.1 hP (c2) (x_at3 (c := c2) h2) rfl 0 (Nat.le_of_ble_eq_true rfl) (nest_use hKn.2.2 nkF_X6_24) (fun _ h9 => h9) rfl dX6_fetch_15 ?_
        refine lv_iload hx hb dX6_fetch_18 (lv_at hl 3 rfl) ?_
        refine lv_aload_n hx hb dX6_fetch_20 rfl (lv_at hl 0 rfl) ?_
        refine va_get (D := (dC, dI)) (ci := 6) (v := .ref (ad ((c0 + 1)))) (C := RX6) (T := TX6) (N := 1) hx hb hg inX6 hown hKn.1 hP (c0) (x_at6 (c := c0) h0) rfl 0 (Nat.le_of_ble_eq_true rfl) (hg _ lkF_X6_20) (fun _ h9 => h9) rfl dX6_fetch_21 ?_
        refine lv_iload_n hx hb dX6_fetch_24 rfl (lv_at hl 2 rfl) ?_
        refine lv_iload hx hb dX6_fetch_25 (lv_at hl 3 rfl) ?_
        refine lv_iadd hx hb dX6_fetch_27 ?_
        obtain ⟨r_15, e28, h⟩ := bo_use h
        refine gc_i (va_runSN (As := [.ref (ad ((c0 + 1))), .int (((a1 * 17) + v4_12))]) (rest := [.int (v4_12), .ref (ad ((c2 + 1)))]) hFx (tX7_at l dC dI kI ad (c0 + 1) ((a1 * 17) + v4_12) M_13 (x_ar6_1 h0) e28) ⟨(gc_N hFx hKn.2.2 ck_yX7_at nkM_X6_29 ⟨Nat.le_of_ble_eq_true rfl, Nat.le_of_ble_eq_true rfl⟩ rfl rfl), hg _ st_yX7_at, trivial⟩ (gp_S x_KnB (x_KnW hKn) hP) rfl rfl hl.1 rfl (lv_room (Nat.le_of_ble_eq_true rfl)) dX6_fetch_28 ⟨Nat.zero_le _, Nat.zero_le _⟩) hS (fun H locs hP hS => ?_)
        have hP : va_P (dC, dI) vwCl (x_w kI ad M_13) H := hP
        obtain ⟨M_16, e31, h⟩ := bo_use h
        refine gc_v (va_runSN (As := [.ref (ad ((c2 + 1))), .int (v4_12), .int (r_15)]) (rest := []) hFx (tX7_put l dC dI kI ad (c2 + 1) v4_12 r_15 M_13 (x_ar3_1 h2) e31) ⟨(gc_N hFx hKn.2.2 ck_yX7_put nkM_X6_33 ⟨Nat.le_of_ble_eq_true rfl, Nat.le_of_ble_eq_true rfl⟩ rfl rfl), hg _ st_yX7_put, trivial⟩ (gp_S x_KnB (x_KnW hKn) hP) rfl rfl hl.1 rfl (lv_room (Nat.le_of_ble_eq_true rfl)) dX6_fetch_31 ⟨Nat.zero_le _, Nat.zero_le _⟩) hS (fun H locs hP hS => ?_)
        have hP : va_P (dC, dI) vwCl (x_w kI ad M_16) H := hP
        refine lv_iinc (v := (v4_12 + 1)) (lv' := [(4, .int ((v4_12 + 1))), (0, .ref (ad (c0))), (2, .ref (ad (c2))), (3, .int ((a1 * 17)))]) hx hb dX6_fetch_34 hl (k := 3) rfl rfl (Nat.le_of_ble_eq_true rfl) rfl (fun ls hl => ?_)
        refine lv_goto (tgt := 8) hx hb dX6_fetch_37 (by decide) ?_
        exact ih8 (v4_12 + 1) M_16 _ _ _ hP hS (lv_sub hl [1, 2, 3, 0] rfl) h
  exact hL8 fuelN 0 M _ _ _ hP hS (lv_sub hl [2, 4, 1, 0] rfl) h
noncomputable def FX4_pop (c1 : Nat) (M : (Nat → Nat → Int32)) : Option (Int32 × (Nat → Nat → Int32)) :=
  (if (M 27 2) = 0 then some (0, M) else bo (FX6_fetch 28 (upd2 (upd2 M 27 1 ((((M 27 1) + 20) - 1) - (((M 27 1) + 20) - 1) / 20 * 20)) 27 2 ((upd2 M 27 1 ((((M 27 1) + 20) - 1) - (((M 27 1) + 20) - 1) / 20 * 20) 27 2) - 1) 27 1) c1 (upd2 (upd2 M 27 1 ((((M 27 1) + 20) - 1) - (((M 27 1) + 20) - 1) / 20 * 20)) 27 2 ((upd2 M 27 1 ((((M 27 1) + 20) - 1) - (((M 27 1) + 20) - 1) / 20 * 20) 27 2) - 1))) (fun (M_2 : (Nat → Nat → Int32)) => some (1, M_2)))
set_option maxHeartbeats 4000000 in
set_option maxRecDepth 100000 in
theorem tX4_pop (l : Launch) (dC : Nat → ClassId) (dI : Nat → Nat → Nat) (kI : ClassId) (ad : Nat → Nat) (c1 : Nat) (M : (Nat → Nat → Int32)) (h1 : x_is3 c1) {r0 : Int32} {M0 : (Nat → Nat → Int32)} (h : FX4_pop c1 M = some (r0, M0)) : Met l yX4_pop (wsA yX4_pop cX4_pop 2 (some .boolean)) ({ frames := 2, cells := 0, slots := 0, locals := 46 } : Room) (va_Pc [.ref (ad (27)), .ref (ad (c1))] (gI (x_Wd dC dI kI ad) (x_Kn dC dI kI ad) M)) (va_Qi (fun (r : Int32) (u : (Nat → Nat → Int32)) => r = r0 ∧ u = M0) (gI (x_Wd dC dI kI ad) (x_Kn dC dI kI ad)) (x_A ad)) 0 0 (x_A ad) := by
  refine Met.ofW (cc := cX4_pop) (maxL := 2) (ret := (some .boolean)) (by decide) rfl ?_
  intro p e s m args below meth c s₁ B hml hv
  obtain ⟨rfl, hP, hKn⟩ := hv
  have hx := B.exec
  have hb := B.bytes
  have hr := B.returns
  have hts := atoms_spec (ws := wsA yX4_pop cX4_pop 2 (some .boolean)) B.pre
  have hg : ∀ w ∈ lw_good, w.before _ s = true := fun w h => hts w (List.mem_cons_of_mem _ h)
  have hown : s.vm.findClass RX4 = some m.cls := findClass_of_methodNamed B.named
  have hlocks := B.notSynchronized
  have hS : va_S (x_A ad) s.heap s.heap [] := va_S.rf
  have hFx : gFix p c cX4_pop 2 s m _ RX4 := ⟨hx, hb, hml, hown, hg⟩
  have hP : va_P (dC, dI) vwCl (x_w kI ad M) s.heap := hP
  have hl := lv_entry ([.ref (ad (27)), .ref (ad (c1))]) (n := 2) (Nat.le_of_ble_eq_true rfl)
  rw [lg_entry_eq]
  generalize (lg_sl ([.ref (ad (27)), .ref (ad (c1))]) ++ List.replicate (2 - (lg_sl ([.ref (ad (27)), .ref (ad (c1))])).length) Slot.unset).toArray = ls at hl ⊢
  have hl : lv_has ls 2 [(0, .ref (ad (27))), (1, .ref (ad (c1)))] := hl
  unfold FX4_pop at h
  refine lv_aload_n hx hb dX4_pop_0 rfl (lv_at hl 0 rfl) ?_
  refine va_get (D := (dC, dI)) (ci := 4) (v := .int ((M 27 2))) (C := RX4) (T := TX4) (N := 3) hx hb hg inX4 hown hKn.1 hP (27) (x_at4 (c := 27) (by decide)) rfl 2 (Nat.le_of_ble_eq_true rfl) (hg _ lkF_X4_24) (fun _ h9 => h9) rfl dX4_pop_1 ?_
  refine lv_if_ne (tgt := 9) hx hb dX4_pop_4 (by decide) (fun c_1 => ?_) (fun c_1 => ?_)
  · have h := ife_f c_1 h
    refine lv_aload_n hx hb dX4_pop_9 rfl (lv_at hl 0 rfl) ?_
    refine lv_aload_n hx hb dX4_pop_10 rfl (lv_at hl 0 rfl) ?_
    refine va_get (D := (dC, dI)) (ci := 4) (v := .int ((M 27 1))) (C := RX4) (T := TX4) (N := 3) hx hb hg inX4 hown hKn.1 hP (27) (x_at4 (c := 27) (by decide)) rfl 1 (Nat.le_of_ble_eq_true rfl) (hg _ lkF_X4_20) (fun _ h9 => h9) rfl dX4_pop_11 ?_
    refine lv_bipush (v := 20) hx hb dX4_pop_14 (by decide) ?_
    refine lv_iadd hx hb dX4_pop_16 ?_
    refine lv_iconst (v := 1) hx hb dX4_pop_17 (by decide) ?_
    refine lv_isub hx hb dX4_pop_18 ?_
    refine lv_bipush (v := 20) hx hb dX4_pop_19 (by decide) ?_
    refine lv_irem hx hb dX4_pop_21 (by decide) ?_
    refine va_put (D := (dC, dI)) (ci := 4) (v := .int (((((M 27 1) + 20) - 1) - (((M 27 1) + 20) - 1) / 20 * 20))) (ty := .int) (C := RX4) (T := TX4) (N := 3) hx hb hg inX4 tyX4 tyX4_ok nmX4 hown hKn.1 hP (x_D hKn.2.1) hS (27) (x_at4 (c := 27) (by decide)) rfl 1 (Nat.le_of_ble_eq_true rfl) (hg _ lkF_X4_20) (fun _ h9 => h9) rfl (by decide +kernel) rfl rfl (Nat.le_of_ble_eq_true rfl) dX4_pop_22 (fun H locs hP _ hS => ?_)
    have hP : va_P (dC, dI) vwCl (x_w kI ad (upd2 M 27 1 ((((M 27 1) + 20) - 1) - (((M 27 1) + 20) - 1) / 20 * 20))) H := vp_eq (x_put4_1 (by decide) _) hP
    refine lv_aload_n hx hb dX4_pop_25 rfl (lv_at hl 0 rfl) ?_
    refine lv_dup hx hb dX4_pop_26 rfl ?_
    refine va_get (D := (dC, dI)) (ci := 4) (v := .int ((upd2 M 27 1 ((((M 27 1) + 20) - 1) - (((M 27 1) + 20) - 1) / 20 * 20) 27 2))) (C := RX4) (T := TX4) (N := 3) hx hb hg inX4 hown hKn.1 hP (27) (x_at4 (c := 27) (by decide)) rfl 2 (Nat.le_of_ble_eq_true rfl) (hg _ lkF_X4_24) (fun _ h9 => h9) rfl dX4_pop_27 ?_
    refine lv_iconst (v := 1) hx hb dX4_pop_30 (by decide) ?_
    refine lv_isub hx hb dX4_pop_31 ?_
    refine va_put (D := (dC, dI)) (ci := 4) (v := .int (((upd2 M 27 1 ((((M 27 1) + 20) - 1) - (((M 27 1) + 20) - 1) / 20 * 20) 27 2) - 1))) (ty := .int) (C := RX4) (T := TX4) (N := 3) hx hb hg inX4 tyX4 tyX4_ok nmX4 hown hKn.1 hP (x_D hKn.2.1) hS (27) (x_at4 (c := 27) (by decide)) rfl 2 (Nat.le_of_ble_eq_true rfl) (hg _ lkF_X4_24) (fun _ h9 => h9) rfl (by decide +kernel) rfl rfl (Nat.le_of_ble_eq_true rfl) dX4_pop_32 (fun H locs hP _ hS => ?_)
    have hP : va_P (dC, dI) vwCl (x_w kI ad (upd2 (upd2 M 27 1 ((((M 27 1) + 20) - 1) - (((M 27 1) + 20) - 1) / 20 * 20)) 27 2 ((upd2 M 27 1 ((((M 27 1) + 20) - 1) - (((M 27 1) + 20) - 1) / 20 * 20) 27 2) - 1))) H := vp_eq (x_put4_2 (by decide) _) hP
    refine lv_aload_n hx hb dX4_pop_35 rfl (lv_at hl 0 rfl) ?_
    refine va_get (D := (dC, dI)) (ci := 4) (v := .ref (ad (28))) (C := RX4) (T := TX4) (N := 3) hx hb hg inX4 hown hKn.1 hP (27) (x_at4 (c := 27) (by decide)) rfl 0 (Nat.le_of_ble_eq_true rfl) (hg _ lkF_X4_14) (fun _ h9 => h9) rfl dX4_pop_36 ?_
    refine lv_aload_n hx hb dX4_pop_39 rfl (lv_at hl 0 rfl) ?_
    refine va_get (D := (dC, dI)) (ci := 4) (v := .int ((upd2 (upd2 M 27 1 ((((M 27 1) + 20) - 1) - (((M 27 1) + 20) - 1) / 20 * 20)) 27 2 ((upd2 M 27 1 ((((M 27 1) + 20) - 1) - (((M 27 1) + 20) - 1) / 20 * 20) 27 2) - 1) 27 1))) (C := RX4) (T := TX4) (N := 3) hx hb hg inX4 hown hKn.1 hP (27) (x_at4 (c := 27) (by decide)) rfl 1 (Nat.le_of_ble_eq_true rfl) (hg _ lkF_X4_20) (fun _ h9 => h9) rfl dX4_pop_40 ?_
    refine lv_aload_n hx hb dX4_pop_43 rfl (lv_at hl 1 rfl) ?_
    obtain ⟨M_2, e44, h⟩ := bo_use h
    refine gc_v (va_runVN (As := [.int ((upd2 (upd2 M 27 1 ((((M 27 1) + 20) - 1) - (((M 27 1) + 20) - 1) / 20 * 20)) 27 2 ((upd2 M 27 1 ((((M 27 1) + 20) - 1) - (((M 27 1) + 20) - 1) / 20 * 20) 27 2) - 1) 27 1)), .ref (ad (c1))]) (rest := []) hFx (tX6_fetch l dC dI kI ad 28 (upd2 (upd2 M 27 1 ((((M 27 1) + 20) - 1) - (((M 27 1) + 20) - 1) / 20 * 20)) 27 2 ((upd2 M 27 1 ((((M 27 1) + 20) - 1) - (((M 27 1) + 20) - 1) / 20 * 20) 27 2) - 1) 27 1) c1 (upd2 (upd2 M 27 1 ((((M 27 1) + 20) - 1) - (((M 27 1) + 20) - 1) / 20 * 20)) 27 2 ((upd2 M 27 1 ((((M 27 1) + 20) - 1) - (((M 27 1) + 20) - 1) / 20 * 20) 27 2) - 1)) (by decide) h1 e44) ⟨(gc_N hFx hKn.2.2 ck_yX6_fetch nkM_X4_37 ⟨Nat.le_of_ble_eq_true rfl, Nat.le_of_ble_eq_true rfl⟩ rfl rfl), hg _ vi_yX6_fetch, hg _ vs_yX6_fetch⟩ (gp_V x_KnB (x_KnW hKn) hP (x_rc6 (c := 28) (by decide) hKn hP)) rfl rfl hl.1 rfl (lv_room (Nat.le_of_ble_eq_true rfl)) dX4_pop_44 ⟨Nat.zero_le _, Nat.zero_le _⟩) hS (fun H locs hP hS => ?_)
    have hP : va_P (dC, dI) vwCl (x_w kI ad M_2) H := hP
    refine lv_iconst (v := 1) hx hb dX4_pop_47 (by decide) ?_
    exact W.zret (v := 1) hx hb hr rfl (fun t ht hW => ⟨⟨1, M_2, rfl, ⟨congrArg Prod.fst (Option.some.inj h), congrArg Prod.snd (Option.some.inj h)⟩, by rw [ht]; exact hP, x_KnW hKn t hW⟩, hS.F ht⟩) hS.2.2 dX4_pop_48
  · have h := ife_t c_1 h
    refine lv_iconst (v := 0) hx hb dX4_pop_7 (by decide) ?_
    exact W.zret (v := 0) hx hb hr rfl (fun t ht hW => ⟨⟨0, M, rfl, ⟨congrArg Prod.fst (Option.some.inj h), congrArg Prod.snd (Option.some.inj h)⟩, by rw [ht]; exact hP, x_KnW hKn t hW⟩, hS.F ht⟩) hS.2.2 dX4_pop_8
noncomputable def FX6_store_L43 (c0 : Nat) (c2 : Nat) (b3 : Int32) (K : (Nat → Nat → Int32) → Option (Nat → Nat → Int32)) (k : Nat) (v4_7 : Int32) (M_8 : (Nat → Nat → Int32)) : Option (Nat → Nat → Int32) := match k with
  | 0 => none
  | k + 1 => (if 8 ≤ v4_7 then K M_8 else bo (FX7_at (c2 + 2) v4_7 M_8) (fun (r_10 : Int32) => bo (FX7_put (c0 + 1) ((b3 + 5) + v4_7) r_10 M_8) (fun (M_11 : (Nat → Nat → Int32)) => FX6_store_L43 c0 c2 b3 K k (v4_7 + 1) M_11)))
noncomputable def FX6_store_L8 (c0 : Nat) (c2 : Nat) (b3 : Int32) (K : (Nat → Nat → Int32) → Option (Nat → Nat → Int32)) (k : Nat) (v4_12 : Int32) (M_13 : (Nat → Nat → Int32)) : Option (Nat → Nat → Int32) := match k with
  | 0 => none
  | k + 1 => (if 5 ≤ v4_12 then K M_13 else bo (FX7_at (c2 + 1) v4_12 M_13) (fun (r_15 : Int32) => bo (FX7_put (c0 + 1) (b3 + v4_12) r_15 M_13) (fun (M_16 : (Nat → Nat → Int32)) => FX6_store_L8 c0 c2 b3 K k (v4_12 + 1) M_16)))
noncomputable def FX6_store (c0 : Nat) (a1 : Int32) (c2 : Nat) (M : (Nat → Nat → Int32)) : Option (Nat → Nat → Int32) :=
  FX6_store_L8 c0 c2 (a1 * 17) (fun (M_1 : (Nat → Nat → Int32)) => FX6_store_L43 c0 c2 (a1 * 17) (fun (M_2 : (Nat → Nat → Int32)) => bo (FX7_put (c0 + 1) ((a1 * 17) + 13) (M_2 c2 2) M_2) (fun (M_3 : (Nat → Nat → Int32)) => bo (FX7_put (c0 + 1) ((a1 * 17) + 14) (M_3 c2 3) M_3) (fun (M_4 : (Nat → Nat → Int32)) => bo (FX7_put (c0 + 1) ((a1 * 17) + 15) (M_4 c2 4) M_4) (fun (M_5 : (Nat → Nat → Int32)) => bo (FX7_put (c0 + 1) ((a1 * 17) + 16) (M_5 c2 5) M_5) (fun (M_6 : (Nat → Nat → Int32)) => some M_6))))) fuelN 0 M_1) fuelN 0 M
set_option maxHeartbeats 4000000 in
set_option maxRecDepth 100000 in
theorem tX6_store (l : Launch) (dC : Nat → ClassId) (dI : Nat → Nat → Nat) (kI : ClassId) (ad : Nat → Nat) (c0 : Nat) (a1 : Int32) (c2 : Nat) (M : (Nat → Nat → Int32)) (h0 : x_is6 c0) (h2 : x_is3 c2) {M0 : (Nat → Nat → Int32)} (h : FX6_store c0 a1 c2 M = some M0) : Met l yX6_store (wsA yX6_store cX6_store 5 none) ({ frames := 1, cells := 0, slots := 0, locals := 22 } : Room) (va_Pc [.ref (ad (c0)), .int (a1), .ref (ad (c2))] (gI (x_Wd dC dI kI ad) (x_Kn dC dI kI ad) M)) (va_Qv (fun (u : (Nat → Nat → Int32)) => u = M0) (gI (x_Wd dC dI kI ad) (x_Kn dC dI kI ad)) (x_A ad)) 0 0 (x_A ad) := by
  refine Met.ofW (cc := cX6_store) (maxL := 5) (ret := none) (by decide) rfl ?_
  intro p e s m args below meth c s₁ B hml hv
  obtain ⟨rfl, hP, hKn⟩ := hv
  have hx := B.exec
  have hb := B.bytes
  have hr := B.returns
  have hts := atoms_spec (ws := wsA yX6_store cX6_store 5 none) B.pre
  have hg : ∀ w ∈ lw_good, w.before _ s = true := fun w h => hts w (List.mem_cons_of_mem _ h)
  have hown : s.vm.findClass RX6 = some m.cls := findClass_of_methodNamed B.named
  have hlocks := B.notSynchronized
  have hS : va_S (x_A ad) s.heap s.heap [] := va_S.rf
  have hFx : gFix p c cX6_store 5 s m _ RX6 := ⟨hx, hb, hml, hown, hg⟩
  have hP : va_P (dC, dI) vwCl (x_w kI ad M) s.heap := hP
  have hl := lv_entry ([.ref (ad (c0)), .int (a1), .ref (ad (c2))]) (n := 5) (Nat.le_of_ble_eq_true rfl)
  rw [lg_entry_eq]
  generalize (lg_sl ([.ref (ad (c0)), .int (a1), .ref (ad (c2))]) ++ List.replicate (5 - (lg_sl ([.ref (ad (c0)), .int (a1), .ref (ad (c2))])).length) Slot.unset).toArray = ls at hl ⊢
  have hl : lv_has ls 5 [(0, .ref (ad (c0))), (1, .int (a1)), (2, .ref (ad (c2)))] := hl
  unfold FX6_store at h
  refine lv_iload_n hx hb dX6_store_0 rfl (lv_at hl 1 rfl) ?_
  refine lv_bipush (v := 17) hx hb dX6_store_1 (by decide) ?_
  refine lv_imul hx hb dX6_store_3 ?_
  refine lv_istore_n (lv' := [(3, .int ((a1 * 17))), (0, .ref (ad (c0))), (1, .int (a1)), (2, .ref (ad (c2)))]) hx hb dX6_store_4 rfl hl (Nat.le_of_ble_eq_true rfl) rfl (fun ls hl => ?_)
  refine lv_iconst (v := 0) hx hb dX6_store_5 (by decide) ?_
  refine lv_istore (lv' := [(4, .int (0)), (3, .int ((a1 * 17))), (0, .ref (ad (c0))), (1, .int (a1)), (2, .ref (ad (c2)))]) hx hb dX6_store_6 hl (Nat.le_of_ble_eq_true rfl) rfl (fun ls hl => ?_)
  obtain ⟨K8, eK8, h⟩ := exK (Lp := fun K => FX6_store_L8 c0 c2 (a1 * 17) K fuelN 0 M) h
  have hK8 : ∀ (M_1 : (Nat → Nat → Int32)) (H : Heap) (locs : List Loc) (ls : Array Slot), va_P (dC, dI) vwCl (x_w kI ad M_1) H → va_S (x_A ad) s.heap H locs → lv_has ls 5 [(0, .ref (ad (c0))), (2, .ref (ad (c2))), (3, .int ((a1 * 17)))] → K8 M_1 = some M0 → W p l e (headSpec (wsA yX6_store cX6_store 5 none) ({ frames := 1, cells := 0, slots := 0, locals := 22 } : Room)).room s m (([.ref (ad (c0)), .int (a1), .ref (ad (c2))] : List Value).toArray) below meth c H locs 0 0 (MQ below (va_Qv (fun (u : (Nat → Nat → Int32)) => u = M0) (gI (x_Wd dC dI kI ad) (x_Kn dC dI kI ad)) (x_A ad)) (([.ref (ad (c0)), .int (a1), .ref (ad (c2))] : List Value).toArray) s 0 0 (x_A ad)) (F0 m 40 ls []) := by
    intro M_1 H locs ls hP hS hl h
    have h := useK1 eK8 h
    refine lv_iconst (v := 0) hx hb dX6_store_40 (by decide) ?_
    refine lv_istore (lv' := [(4, .int (0)), (0, .ref (ad (c0))), (2, .ref (ad (c2))), (3, .int ((a1 * 17)))]) hx hb dX6_store_41 hl (Nat.le_of_ble_eq_true rfl) rfl (fun ls hl => ?_)
    obtain ⟨K43, eK43, h⟩ := exK (Lp := fun K => FX6_store_L43 c0 c2 (a1 * 17) K fuelN 0 M_1) h
    have hK43 : ∀ (M_2 : (Nat → Nat → Int32)) (H : Heap) (locs : List Loc) (ls : Array Slot), va_P (dC, dI) vwCl (x_w kI ad M_2) H → va_S (x_A ad) s.heap H locs → lv_has ls 5 [(0, .ref (ad (c0))), (2, .ref (ad (c2))), (3, .int ((a1 * 17)))] → K43 M_2 = some M0 → W p l e (headSpec (wsA yX6_store cX6_store 5 none) ({ frames := 1, cells := 0, slots := 0, locals := 22 } : Room)).room s m (([.ref (ad (c0)), .int (a1), .ref (ad (c2))] : List Value).toArray) below meth c H locs 0 0 (MQ below (va_Qv (fun (u : (Nat → Nat → Int32)) => u = M0) (gI (x_Wd dC dI kI ad) (x_Kn dC dI kI ad)) (x_A ad)) (([.ref (ad (c0)), .int (a1), .ref (ad (c2))] : List Value).toArray) s 0 0 (x_A ad)) (F0 m 78 ls []) := by
      intro M_2 H locs ls hP hS hl h
      have h := useK1 eK43 h
      refine lv_aload_n hx hb dX6_store_78 rfl (lv_at hl 0 rfl) ?_
      refine va_get (D := (dC, dI)) (ci := 6) (v := .ref (ad ((c0 + 1)))) (C := RX6) (T := TX6) (N := 1) hx hb hg inX6 hown hKn.1 hP (c0) (x_at6 (c := c0) h0) rfl 0 (Nat.le_of_ble_eq_true rfl) (hg _ lkF_X6_20) (fun _ h9 => h9) rfl dX6_store_79 ?_
      refine lv_iload_n hx hb dX6_store_82 rfl (lv_at hl 2 rfl) ?_
      refine lv_bipush (v := 13) hx hb dX6_store_83 (by decide) ?_
      refine lv_iadd hx hb dX6_store_85 ?_
      refine lv_aload_n hx hb dX6_store_86 rfl (lv_at hl 1 rfl) ?_
      refine va_getN (D := (dC, dI)) (ci := 3) (v := .int ((M_2 c2 2))) (C := RX3) (T := TX3) (N := 6) hx hb hg inX3 hown hKn.1 hP (c2) (x_at3 (c := c2) h2) rfl 2 (Nat.le_of_ble_eq_true rfl) (nest_use hKn.2.2 nkF_X6_40) (fun _ h9 => h9) rfl dX6_store_87 ?_
      obtain ⟨M_3, e90, h⟩ := bo_use h
      refine gc_v (va_runSN (As := [.ref (ad ((c0 + 1))), .int (((a1 * 17) + 13)), .int ((M_2 c2 2))]) (rest := []) hFx (tX7_put l dC dI kI ad (c0 + 1) ((a1 * 17) + 13) (M_2 c2 2) M_2 (x_ar6_1 h0) e90) ⟨(gc_N hFx hKn.2.2 ck_yX7_put nkM_X6_33 ⟨Nat.le_of_ble_eq_true rfl, Nat.le_of_ble_eq_true rfl⟩ rfl rfl), hg _ st_yX7_put, trivial⟩ (gp_S x_KnB (x_KnW hKn) hP) rfl rfl hl.1 rfl (lv_room (Nat.le_of_ble_eq_true rfl)) dX6_store_90 ⟨Nat.zero_le _, Nat.zero_le _⟩) hS (fun H locs hP hS => ?_)
      have hP : va_P (dC, dI) vwCl (x_w kI ad M_3) H := hP
      refine lv_aload_n hx hb dX6_store_93 rfl (lv_at hl 0 rfl) ?_
      refine va_get (D := (dC, dI)) (ci := 6) (v := .ref (ad ((c0 + 1)))) (C := RX6) (T := TX6) (N := 1) hx hb hg inX6 hown hKn.1 hP (c0) (x_at6 (c := c0) h0) rfl 0 (Nat.le_of_ble_eq_true rfl) (hg _ lkF_X6_20) (fun _ h9 => h9) rfl dX6_store_94 ?_
      refine lv_iload_n hx hb dX6_store_97 rfl (lv_at hl 2 rfl) ?_
      refine lv_bipush (v := 14) hx hb dX6_store_98 (by decide) ?_
      refine lv_iadd hx hb dX6_store_100 ?_
      refine lv_aload_n hx hb dX6_store_101 rfl (lv_at hl 1 rfl) ?_
      refine va_getN (D := (dC, dI)) (ci := 3) (v := .int ((M_3 c2 3))) (C := RX3) (T := TX3) (N := 6) hx hb hg inX3 hown hKn.1 hP (c2) (x_at3 (c := c2) h2) rfl 3 (Nat.le_of_ble_eq_true rfl) (nest_use hKn.2.2 nkF_X6_44) (fun _ h9 => h9) rfl dX6_store_102 ?_
      obtain ⟨M_4, e105, h⟩ := bo_use h
      refine gc_v (va_runSN (As := [.ref (ad ((c0 + 1))), .int (((a1 * 17) + 14)), .int ((M_3 c2 3))]) (rest := []) hFx (tX7_put l dC dI kI ad (c0 + 1) ((a1 * 17) + 14) (M_3 c2 3) M_3 (x_ar6_1 h0) e105) ⟨(gc_N hFx hKn.2.2 ck_yX7_put nkM_X6_33 ⟨Nat.le_of_ble_eq_true rfl, Nat.le_of_ble_eq_true rfl⟩ rfl rfl), hg _ st_yX7_put, trivial⟩ (gp_S x_KnB (x_KnW hKn) hP) rfl rfl hl.1 rfl (lv_room (Nat.le_of_ble_eq_true rfl)) dX6_store_105 ⟨Nat.zero_le _, Nat.zero_le _⟩) hS (fun H locs hP hS => ?_)
      have hP : va_P (dC, dI) vwCl (x_w kI ad M_4) H := hP
      refine lv_aload_n hx hb dX6_store_108 rfl (lv_at hl 0 rfl) ?_
      refine va_get (D := (dC, dI)) (ci := 6) (v := .ref (ad ((c0 + 1)))) (C := RX6) (T := TX6) (N := 1) hx hb hg inX6 hown hKn.1 hP (c0) (x_at6 (c := c0) h0) rfl 0 (Nat.le_of_ble_eq_true rfl) (hg _ lkF_X6_20) (fun _ h9 => h9) rfl dX6_store_109 ?_
      refine lv_iload_n hx hb dX6_store_112 rfl (lv_at hl 2 rfl) ?_
      refine lv_bipush (v := 15) hx hb dX6_store_113 (by decide) ?_
      refine lv_iadd hx hb dX6_store_115 ?_
      refine lv_aload_n hx hb dX6_store_116 rfl (lv_at hl 1 rfl) ?_
      refine va_getN (D := (dC, dI)) (ci := 3) (v := .int ((M_4 c2 4))) (C := RX3) (T := TX3) (N := 6) hx hb hg inX3 hown hKn.1 hP (c2) (x_at3 (c := c2) h2) rfl 4 (Nat.le_of_ble_eq_true rfl) (nest_use hKn.2.2 nkF_X6_47) (fun _ h9 => h9) rfl dX6_store_117 ?_
      obtain ⟨M_5, e120, h⟩ := bo_use h
      refine gc_v (va_runSN (As := [.ref (ad ((c0 + 1))), .int (((a1 * 17) + 15)), .int ((M_4 c2 4))]) (rest := []) hFx (tX7_put l dC dI kI ad (c0 + 1) ((a1 * 17) + 15) (M_4 c2 4) M_4 (x_ar6_1 h0) e120) ⟨(gc_N hFx hKn.2.2 ck_yX7_put nkM_X6_33 ⟨Nat.le_of_ble_eq_true rfl, Nat.le_of_ble_eq_true rfl⟩ rfl rfl), hg _ st_yX7_put, trivial⟩ (gp_S x_KnB (x_KnW hKn) hP) rfl rfl hl.1 rfl (lv_room (Nat.le_of_ble_eq_true rfl)) dX6_store_120 ⟨Nat.zero_le _, Nat.zero_le _⟩) hS (fun H locs hP hS => ?_)
      have hP : va_P (dC, dI) vwCl (x_w kI ad M_5) H := hP
      refine lv_aload_n hx hb dX6_store_123 rfl (lv_at hl 0 rfl) ?_
      refine va_get (D := (dC, dI)) (ci := 6) (v := .ref (ad ((c0 + 1)))) (C := RX6) (T := TX6) (N := 1) hx hb hg inX6 hown hKn.1 hP (c0) (x_at6 (c := c0) h0) rfl 0 (Nat.le_of_ble_eq_true rfl) (hg _ lkF_X6_20) (fun _ h9 => h9) rfl dX6_store_124 ?_
      refine lv_iload_n hx hb dX6_store_127 rfl (lv_at hl 2 rfl) ?_
      refine lv_bipush (v := 16) hx hb dX6_store_128 (by decide) ?_
      refine lv_iadd hx hb dX6_store_130 ?_
      refine lv_aload_n hx hb dX6_store_131 rfl (lv_at hl 1 rfl) ?_
      refine va_getN (D := (dC, dI)) (ci := 3) (v := .int ((M_5 c2 5))) (C := RX3) (T := TX3) (N := 6) hx hb hg inX3 hown hKn.1 hP (c2) (x_at3 (c := c2) h2) rfl 5 (Nat.le_of_ble_eq_true rfl) (nest_use hKn.2.2 nkF_X6_50) (fun _ h9 => h9) rfl dX6_store_132 ?_
      obtain ⟨M_6, e135, h⟩ := bo_use h
      refine gc_v (va_runSN (As := [.ref (ad ((c0 + 1))), .int (((a1 * 17) + 16)), .int ((M_5 c2 5))]) (rest := []) hFx (tX7_put l dC dI kI ad (c0 + 1) ((a1 * 17) + 16) (M_5 c2 5) M_5 (x_ar6_1 h0) e135) ⟨(gc_N hFx hKn.2.2 ck_yX7_put nkM_X6_33 ⟨Nat.le_of_ble_eq_true rfl, Nat.le_of_ble_eq_true rfl⟩ rfl rfl), hg _ st_yX7_put, trivial⟩ (gp_S x_KnB (x_KnW hKn) hP) rfl rfl hl.1 rfl (lv_room (Nat.le_of_ble_eq_true rfl)) dX6_store_135 ⟨Nat.zero_le _, Nat.zero_le _⟩) hS (fun H locs hP hS => ?_)
      have hP : va_P (dC, dI) vwCl (x_w kI ad M_6) H := hP
      exact W.vret hx hb hr (fun t ht hW => ⟨⟨M_6, rfl, Option.some.inj h, by rw [ht]; exact hP, x_KnW hKn t hW⟩, hS.F ht⟩) hS.2.2 dX6_store_138
    have hL43 : ∀ (k : Nat) (v4_7 : Int32) (M_8 : (Nat → Nat → Int32)) (H : Heap) (locs : List Loc) (ls : Array Slot), va_P (dC, dI) vwCl (x_w kI ad M_8) H → va_S (x_A ad) s.heap H locs → lv_has ls 5 [(0, .ref (ad (c0))), (2, .ref (ad (c2))), (3, .int ((a1 * 17))), (4, .int (v4_7))] → FX6_store_L43 c0 c2 (a1 * 17) K43 k v4_7 M_8 = some M0 → W p l e (headSpec (wsA yX6_store cX6_store 5 none) ({ frames := 1, cells := 0, slots := 0, locals := 22 } : Room)).room s m (([.ref (ad (c0)), .int (a1), .ref (ad (c2))] : List Value).toArray) below meth c H locs 0 0 (MQ below (va_Qv (fun (u : (Nat → Nat → Int32)) => u = M0) (gI (x_Wd dC dI kI ad) (x_Kn dC dI kI ad)) (x_A ad)) (([.ref (ad (c0)), .int (a1), .ref (ad (c2))] : List Value).toArray) s 0 0 (x_A ad)) (F0 m 43 ls []) := by
      intro k
      induction k with
      | zero => intro v4_7 M_8 H locs ls hP hS hl h; cases h
      | succ k ih43 =>
        intro v4_7 M_8 H locs ls hP hS hl h
        unfold FX6_store_L43 at h
        refine lv_iload hx hb dX6_store_43 (lv_at hl 3 rfl) ?_
        refine lv_bipush (v := 8) hx hb dX6_store_45 (by decide) ?_
        refine lv_icmp_ge (tgt := 78) hx hb dX6_store_47 (by decide) (fun c_9 => ?_) (fun c_9 => ?_)
        · have h := ife_t c_9 h
          exact hK43 M_8 _ _ _ hP hS (lv_sub hl [0, 1, 2] rfl) h
        · have h := ife_f c_9 h
          refine lv_aload_n hx hb dX6_store_50 rfl (lv_at hl 0 rfl) ?_
          refine va_get (D := (dC, dI)) (ci := 6) (v := .ref (ad ((c0 + 1)))) (C := RX6) (T := TX6) (N := 1) hx hb hg inX6 hown hKn.1 hP (c0) (x_at6 (c := c0) h0) rfl 0 (Nat.le_of_ble_eq_true rfl) (hg _ lkF_X6_20) (fun _ h9 => h9) rfl dX6_store_51 ?_
          refine lv_iload_n hx hb dX6_store_54 rfl (lv_at hl 2 rfl) ?_
          refine lv_iconst (v := 5) hx hb dX6_store_55 (by decide) ?_
          refine lv_iadd hx hb dX6_store_56 ?_
          refine lv_iload hx hb dX6_store_57 (lv_at hl 3 rfl) ?_
          refine lv_iadd hx hb dX6_store_59 ?_
          refine lv_aload_n hx hb dX6_store_60 rfl (lv_at hl 1 rfl) ?_
          refine va_getN (D := (dC, dI)) (ci := 3) (v := .ref (ad ((c2 + 2)))) (C := RX3) (T := TX3) (N := 6) hx hb hg inX3 hown hKn.1 hP (c2) (x_at3 (c := c2) h2) rfl 1 (Nat.le_of_ble_eq_true rfl) (nest_use hKn.2.2 nkF_X6_37) (fun _ h9 => h9) rfl dX6_store_61 ?_
          refine lv_iload hx hb dX6_store_64 (lv_at hl 3 rfl) ?_
          obtain ⟨r_10, e66, h⟩ := bo_use h
          refine gc_i (va_runSN (As := [.ref (ad ((c2 + 2))), .int (v4_7)]) (rest := [.int ((((a1 * 17) + 5) + v4_7)), .ref (ad ((c0 + 1)))]) hFx (tX7_at l dC dI kI ad (c2 + 2) v4_7 M_8 (x_ar3_2 h2) e66) ⟨(gc_N hFx hKn.2.2 ck_yX7_at nkM_X6_29 ⟨Nat.le_of_ble_eq_true rfl, Nat.le_of_ble_eq_true rfl⟩ rfl rfl), hg _ st_yX7_at, trivial⟩ (gp_S x_KnB (x_KnW hKn) hP) rfl rfl hl.1 rfl (lv_room (Nat.le_of_ble_eq_true rfl)) dX6_store_66 ⟨Nat.zero_le _, Nat.zero_le _⟩) hS (fun H locs hP hS => ?_)
          have hP : va_P (dC, dI) vwCl (x_w kI ad M_8) H := hP
          obtain ⟨M_11, e69, h⟩ := bo_use h
          refine gc_v (va_runSN (As := [.ref (ad ((c0 + 1))), .int ((((a1 * 17) + 5) + v4_7)), .int (r_10)]) (rest := []) hFx (tX7_put l dC dI kI ad (c0 + 1) (((a1 * 17) + 5) + v4_7) r_10 M_8 (x_ar6_1 h0) e69) ⟨(gc_N hFx hKn.2.2 ck_yX7_put nkM_X6_33 ⟨Nat.le_of_ble_eq_true rfl, Nat.le_of_ble_eq_true rfl⟩ rfl rfl), hg _ st_yX7_put, trivial⟩ (gp_S x_KnB (x_KnW hKn) hP) rfl rfl hl.1 rfl (lv_room (Nat.le_of_ble_eq_true rfl)) dX6_store_69 ⟨Nat.zero_le _, Nat.zero_le _⟩) hS (fun H locs hP hS => ?_)
          have hP : va_P (dC, dI) vwCl (x_w kI ad M_11) H := hP
          refine lv_iinc (v := (v4_7 + 1)) (lv' := [(4, .int ((v4_7 + 1))), (0, .ref (ad (c0))), (2, .ref (ad (c2))), (3, .int ((a1 * 17)))]) hx hb dX6_store_72 hl (k := 3) rfl rfl (Nat.le_of_ble_eq_true rfl) rfl (fun ls hl => ?_)
          refine lv_goto (tgt := 43) hx hb dX6_store_75 (by decide) ?_
          exact ih43 (v4_7 + 1) M_11 _ _ _ hP hS (lv_sub hl [1, 2, 3, 0] rfl) h
    exact hL43 fuelN 0 M_1 _ _ _ hP hS (lv_sub hl [1, 2, 3, 0] rfl) h
  have hL8 : ∀ (k : Nat) (v4_12 : Int32) (M_13 : (Nat → Nat → Int32)) (H : Heap) (locs : List Loc) (ls : Array Slot), va_P (dC, dI) vwCl (x_w kI ad M_13) H → va_S (x_A ad) s.heap H locs → lv_has ls 5 [(0, .ref (ad (c0))), (2, .ref (ad (c2))), (3, .int ((a1 * 17))), (4, .int (v4_12))] → FX6_store_L8 c0 c2 (a1 * 17) K8 k v4_12 M_13 = some M0 → W p l e (headSpec (wsA yX6_store cX6_store 5 none) ({ frames := 1, cells := 0, slots := 0, locals := 22 } : Room)).room s m (([.ref (ad (c0)), .int (a1), .ref (ad (c2))] : List Value).toArray) below meth c H locs 0 0 (MQ below (va_Qv (fun (u : (Nat → Nat → Int32)) => u = M0) (gI (x_Wd dC dI kI ad) (x_Kn dC dI kI ad)) (x_A ad)) (([.ref (ad (c0)), .int (a1), .ref (ad (c2))] : List Value).toArray) s 0 0 (x_A ad)) (F0 m 8 ls []) := by
    intro k
    induction k with
    | zero => intro v4_12 M_13 H locs ls hP hS hl h; cases h
    | succ k ih8 =>
      intro v4_12 M_13 H locs ls hP hS hl h
      unfold FX6_store_L8 at h
      refine lv_iload hx hb dX6_store_8 (lv_at hl 3 rfl) ?_
      refine lv_iconst (v := 5) hx hb dX6_store_10 (by decide) ?_
      refine lv_icmp_ge (tgt := 40) hx hb dX6_store_11 (by decide) (fun c_14 => ?_) (fun c_14 => ?_)
      · have h := ife_t c_14 h
        exact hK8 M_13 _ _ _ hP hS (lv_sub hl [0, 1, 2] rfl) h
      · have h := ife_f c_14 h
        refine lv_aload_n hx hb dX6_store_14 rfl (lv_at hl 0 rfl) ?_
        refine va_get (D := (dC, dI)) (ci := 6) (v := .ref (ad ((c0 + 1)))) (C := RX6) (T := TX6) (N := 1) hx hb hg inX6 hown hKn.1 hP (c0) (x_at6 (c := c0) h0) rfl 0 (Nat.le_of_ble_eq_true rfl) (hg _ lkF_X6_20) (fun _ h9 => h9) rfl dX6_store_15 ?_
        refine lv_iload_n hx hb dX6_store_18 rfl (lv_at hl 2 rfl) ?_
        refine lv_iload hx hb dX6_store_19 (lv_at hl 3 rfl) ?_
        refine lv_iadd hx hb dX6_store_21 ?_
        refine lv_aload_n hx hb dX6_store_22 rfl (lv_at hl 1 rfl) ?_
        refine va_getN (D := (dC, dI)) (ci := 3) (v := .ref (ad ((c2 + 1)))) (C := RX3) (T := TX3) (N := 6) hx hb hg inX3 hown hKn.1 hP (c2) (x_at3 (c := c2) h2) rfl 0 (Nat.le_of_ble_eq_true rfl) (nest_use hKn.2.2 nkF_X6_24) (fun _ h9 => h9) rfl dX6_store_23 ?_
        refine lv_iload hx hb dX6_store_26 (lv_at hl 3 rfl) ?_
        obtain ⟨r_15, e28, h⟩ := bo_use h
        refine gc_i (va_runSN (As := [.ref (ad ((c2 + 1))), .int (v4_12)]) (rest := [.int (((a1 * 17) + v4_12)), .ref (ad ((c0 + 1)))]) hFx (tX7_at l dC dI kI ad (c2 + 1) v4_12 M_13 (x_ar3_1 h2) e28) ⟨(gc_N hFx hKn.2.2 ck_yX7_at nkM_X6_29 ⟨Nat.le_of_ble_eq_true rfl, Nat.le_of_ble_eq_true rfl⟩ rfl rfl), hg _ st_yX7_at, trivial⟩ (gp_S x_KnB (x_KnW hKn) hP) rfl rfl hl.1 rfl (lv_room (Nat.le_of_ble_eq_true rfl)) dX6_store_28 ⟨Nat.zero_le _, Nat.zero_le _⟩) hS (fun H locs hP hS => ?_)
        have hP : va_P (dC, dI) vwCl (x_w kI ad M_13) H := hP
        obtain ⟨M_16, e31, h⟩ := bo_use h
        refine gc_v (va_runSN (As := [.ref (ad ((c0 + 1))), .int (((a1 * 17) + v4_12)), .int (r_15)]) (rest := []) hFx (tX7_put l dC dI kI ad (c0 + 1) ((a1 * 17) + v4_12) r_15 M_13 (x_ar6_1 h0) e31) ⟨(gc_N hFx hKn.2.2 ck_yX7_put nkM_X6_33 ⟨Nat.le_of_ble_eq_true rfl, Nat.le_of_ble_eq_true rfl⟩ rfl rfl), hg _ st_yX7_put, trivial⟩ (gp_S x_KnB (x_KnW hKn) hP) rfl rfl hl.1 rfl (lv_room (Nat.le_of_ble_eq_true rfl)) dX6_store_31 ⟨Nat.zero_le _, Nat.zero_le _⟩) hS (fun H locs hP hS => ?_)
        have hP : va_P (dC, dI) vwCl (x_w kI ad M_16) H := hP
        refine lv_iinc (v := (v4_12 + 1)) (lv' := [(4, .int ((v4_12 + 1))), (0, .ref (ad (c0))), (2, .ref (ad (c2))), (3, .int ((a1 * 17)))]) hx hb dX6_store_34 hl (k := 3) rfl rfl (Nat.le_of_ble_eq_true rfl) rfl (fun ls hl => ?_)
        refine lv_goto (tgt := 8) hx hb dX6_store_37 (by decide) ?_
        exact ih8 (v4_12 + 1) M_16 _ _ _ hP hS (lv_sub hl [1, 2, 3, 0] rfl) h
  exact hL8 fuelN 0 M _ _ _ hP hS (lv_sub hl [2, 4, 1, 0] rfl) h
noncomputable def FX4_push (c1 : Nat) (M : (Nat → Nat → Int32)) : Option (Nat → Nat → Int32) :=
  bo (FX6_store 28 (M 27 1) c1 M) (fun (M_1 : (Nat → Nat → Int32)) => some (upd2 (upd2 M_1 27 1 (((M_1 27 1) + 1) - ((M_1 27 1) + 1) / 20 * 20)) 27 2 (if ((upd2 M_1 27 1 (((M_1 27 1) + 1) - ((M_1 27 1) + 1) / 20 * 20) 27 2) + 1) < 20 then ((upd2 M_1 27 1 (((M_1 27 1) + 1) - ((M_1 27 1) + 1) / 20 * 20) 27 2) + 1) else 20)))
set_option maxHeartbeats 4000000 in
set_option maxRecDepth 100000 in
theorem tX4_push (l : Launch) (dC : Nat → ClassId) (dI : Nat → Nat → Nat) (kI : ClassId) (ad : Nat → Nat) (c1 : Nat) (M : (Nat → Nat → Int32)) (h1 : x_is3 c1) {M0 : (Nat → Nat → Int32)} (h : FX4_push c1 M = some M0) : Met l yX4_push (wsA yX4_push cX4_push 2 none) ({ frames := 2, cells := 0, slots := 0, locals := 46 } : Room) (va_Pc [.ref (ad (27)), .ref (ad (c1))] (gI (x_Wd dC dI kI ad) (x_Kn dC dI kI ad) M)) (va_Qv (fun (u : (Nat → Nat → Int32)) => u = M0) (gI (x_Wd dC dI kI ad) (x_Kn dC dI kI ad)) (x_A ad)) 0 0 (x_A ad) := by
  refine Met.ofW (cc := cX4_push) (maxL := 2) (ret := none) (by decide) rfl ?_
  intro p e s m args below meth c s₁ B hml hv
  obtain ⟨rfl, hP, hKn⟩ := hv
  have hx := B.exec
  have hb := B.bytes
  have hr := B.returns
  have hts := atoms_spec (ws := wsA yX4_push cX4_push 2 none) B.pre
  have hg : ∀ w ∈ lw_good, w.before _ s = true := fun w h => hts w (List.mem_cons_of_mem _ h)
  have hown : s.vm.findClass RX4 = some m.cls := findClass_of_methodNamed B.named
  have hlocks := B.notSynchronized
  have hS : va_S (x_A ad) s.heap s.heap [] := va_S.rf
  have hFx : gFix p c cX4_push 2 s m _ RX4 := ⟨hx, hb, hml, hown, hg⟩
  have hP : va_P (dC, dI) vwCl (x_w kI ad M) s.heap := hP
  have hl := lv_entry ([.ref (ad (27)), .ref (ad (c1))]) (n := 2) (Nat.le_of_ble_eq_true rfl)
  rw [lg_entry_eq]
  generalize (lg_sl ([.ref (ad (27)), .ref (ad (c1))]) ++ List.replicate (2 - (lg_sl ([.ref (ad (27)), .ref (ad (c1))])).length) Slot.unset).toArray = ls at hl ⊢
  have hl : lv_has ls 2 [(0, .ref (ad (27))), (1, .ref (ad (c1)))] := hl
  unfold FX4_push at h
  refine lv_aload_n hx hb dX4_push_0 rfl (lv_at hl 0 rfl) ?_
  refine va_get (D := (dC, dI)) (ci := 4) (v := .ref (ad (28))) (C := RX4) (T := TX4) (N := 3) hx hb hg inX4 hown hKn.1 hP (27) (x_at4 (c := 27) (by decide)) rfl 0 (Nat.le_of_ble_eq_true rfl) (hg _ lkF_X4_14) (fun _ h9 => h9) rfl dX4_push_1 ?_
  refine lv_aload_n hx hb dX4_push_4 rfl (lv_at hl 0 rfl) ?_
  refine va_get (D := (dC, dI)) (ci := 4) (v := .int ((M 27 1))) (C := RX4) (T := TX4) (N := 3) hx hb hg inX4 hown hKn.1 hP (27) (x_at4 (c := 27) (by decide)) rfl 1 (Nat.le_of_ble_eq_true rfl) (hg _ lkF_X4_20) (fun _ h9 => h9) rfl dX4_push_5 ?_
  refine lv_aload_n hx hb dX4_push_8 rfl (lv_at hl 1 rfl) ?_
  obtain ⟨M_1, e9, h⟩ := bo_use h
  refine gc_v (va_runVN (As := [.int ((M 27 1)), .ref (ad (c1))]) (rest := []) hFx (tX6_store l dC dI kI ad 28 (M 27 1) c1 M (by decide) h1 e9) ⟨(gc_N hFx hKn.2.2 ck_yX6_store nkM_X4_27 ⟨Nat.le_of_ble_eq_true rfl, Nat.le_of_ble_eq_true rfl⟩ rfl rfl), hg _ vi_yX6_store, hg _ vs_yX6_store⟩ (gp_V x_KnB (x_KnW hKn) hP (x_rc6 (c := 28) (by decide) hKn hP)) rfl rfl hl.1 rfl (lv_room (Nat.le_of_ble_eq_true rfl)) dX4_push_9 ⟨Nat.zero_le _, Nat.zero_le _⟩) hS (fun H locs hP hS => ?_)
  have hP : va_P (dC, dI) vwCl (x_w kI ad M_1) H := hP
  refine lv_aload_n hx hb dX4_push_12 rfl (lv_at hl 0 rfl) ?_
  refine lv_aload_n hx hb dX4_push_13 rfl (lv_at hl 0 rfl) ?_
  refine va_get (D := (dC, dI)) (ci := 4) (v := .int ((M_1 27 1))) (C := RX4) (T := TX4) (N := 3) hx hb hg inX4 hown hKn.1 hP (27) (x_at4 (c := 27) (by decide)) rfl 1 (Nat.le_of_ble_eq_true rfl) (hg _ lkF_X4_20) (fun _ h9 => h9) rfl dX4_push_14 ?_
  refine lv_iconst (v := 1) hx hb dX4_push_17 (by decide) ?_
  refine lv_iadd hx hb dX4_push_18 ?_
  refine lv_bipush (v := 20) hx hb dX4_push_19 (by decide) ?_
  refine lv_irem hx hb dX4_push_21 (by decide) ?_
  refine va_put (D := (dC, dI)) (ci := 4) (v := .int ((((M_1 27 1) + 1) - ((M_1 27 1) + 1) / 20 * 20))) (ty := .int) (C := RX4) (T := TX4) (N := 3) hx hb hg inX4 tyX4 tyX4_ok nmX4 hown hKn.1 hP (x_D hKn.2.1) hS (27) (x_at4 (c := 27) (by decide)) rfl 1 (Nat.le_of_ble_eq_true rfl) (hg _ lkF_X4_20) (fun _ h9 => h9) rfl (by decide +kernel) rfl rfl (Nat.le_of_ble_eq_true rfl) dX4_push_22 (fun H locs hP _ hS => ?_)
  have hP : va_P (dC, dI) vwCl (x_w kI ad (upd2 M_1 27 1 (((M_1 27 1) + 1) - ((M_1 27 1) + 1) / 20 * 20))) H := vp_eq (x_put4_1 (by decide) _) hP
  refine lv_aload_n hx hb dX4_push_25 rfl (lv_at hl 0 rfl) ?_
  refine lv_bipush (v := 20) hx hb dX4_push_26 (by decide) ?_
  refine lv_aload_n hx hb dX4_push_28 rfl (lv_at hl 0 rfl) ?_
  refine va_get (D := (dC, dI)) (ci := 4) (v := .int ((upd2 M_1 27 1 (((M_1 27 1) + 1) - ((M_1 27 1) + 1) / 20 * 20) 27 2))) (C := RX4) (T := TX4) (N := 3) hx hb hg inX4 hown hKn.1 hP (27) (x_at4 (c := 27) (by decide)) rfl 2 (Nat.le_of_ble_eq_true rfl) (hg _ lkF_X4_24) (fun _ h9 => h9) rfl dX4_push_29 ?_
  refine lv_iconst (v := 1) hx hb dX4_push_32 (by decide) ?_
  refine lv_iadd hx hb dX4_push_33 ?_
  refine va_mmin hx hb (hml.trans hl.1.symm) hown (hg _ lkM_X4_31) (hg _ st_Lib_Math_min_name) (hg _ ini_J9) (hg _ co_math_min) (Nat.le_of_ble_eq_true rfl) (Nat.le_of_ble_eq_true rfl) (Nat.zero_le _) (Nat.zero_le _) dX4_push_34 ?_
  refine va_put (D := (dC, dI)) (ci := 4) (v := .int ((if ((upd2 M_1 27 1 (((M_1 27 1) + 1) - ((M_1 27 1) + 1) / 20 * 20) 27 2) + 1) < 20 then ((upd2 M_1 27 1 (((M_1 27 1) + 1) - ((M_1 27 1) + 1) / 20 * 20) 27 2) + 1) else 20))) (ty := .int) (C := RX4) (T := TX4) (N := 3) hx hb hg inX4 tyX4 tyX4_ok nmX4 hown hKn.1 hP (x_D hKn.2.1) hS (27) (x_at4 (c := 27) (by decide)) rfl 2 (Nat.le_of_ble_eq_true rfl) (hg _ lkF_X4_24) (fun _ h9 => h9) rfl (by decide +kernel) rfl rfl (Nat.le_of_ble_eq_true rfl) dX4_push_37 (fun H locs hP _ hS => ?_)
  have hP : va_P (dC, dI) vwCl (x_w kI ad (upd2 (upd2 M_1 27 1 (((M_1 27 1) + 1) - ((M_1 27 1) + 1) / 20 * 20)) 27 2 (if ((upd2 M_1 27 1 (((M_1 27 1) + 1) - ((M_1 27 1) + 1) / 20 * 20) 27 2) + 1) < 20 then ((upd2 M_1 27 1 (((M_1 27 1) + 1) - ((M_1 27 1) + 1) / 20 * 20) 27 2) + 1) else 20))) H := vp_eq (x_put4_2 (by decide) _) hP
  exact W.vret hx hb hr (fun t ht hW => ⟨⟨upd2 (upd2 M_1 27 1 (((M_1 27 1) + 1) - ((M_1 27 1) + 1) / 20 * 20)) 27 2 (if ((upd2 M_1 27 1 (((M_1 27 1) + 1) - ((M_1 27 1) + 1) / 20 * 20) 27 2) + 1) < 20 then ((upd2 M_1 27 1 (((M_1 27 1) + 1) - ((M_1 27 1) + 1) / 20 * 20) 27 2) + 1) else 20), rfl, Option.some.inj h, by rw [ht]; exact hP, x_KnW hKn t hW⟩, hS.F ht⟩) hS.2.2 dX4_push_40
noncomputable def FX5_become (a1 : Int32) (a2 : Int32) (a3 : Int32) (M : (Nat → Nat → Int32)) : Option (Nat → Nat → Int32) :=
  some (upd2 (upd2 (upd2 M 26 0 a1) 26 1 a2) 26 2 a3)
set_option maxHeartbeats 4000000 in
set_option maxRecDepth 100000 in
theorem tX5_become (l : Launch) (dC : Nat → ClassId) (dI : Nat → Nat → Nat) (kI : ClassId) (ad : Nat → Nat) (a1 : Int32) (a2 : Int32) (a3 : Int32) (M : (Nat → Nat → Int32))  {M0 : (Nat → Nat → Int32)} (h : FX5_become a1 a2 a3 M = some M0) : Met l yX5_become (wsA yX5_become cX5_become 4 none) ({ frames := 0, cells := 0, slots := 0, locals := 0 } : Room) (va_Pc [.ref (ad (26)), .int (a1), .int (a2), .int (a3)] (gI (x_Wd dC dI kI ad) (x_Kn dC dI kI ad) M)) (va_Qv (fun (u : (Nat → Nat → Int32)) => u = M0) (gI (x_Wd dC dI kI ad) (x_Kn dC dI kI ad)) (x_A ad)) 0 0 (x_A ad) := by
  refine Met.ofW (cc := cX5_become) (maxL := 4) (ret := none) (by decide) rfl ?_
  intro p e s m args below meth c s₁ B hml hv
  obtain ⟨rfl, hP, hKn⟩ := hv
  have hx := B.exec
  have hb := B.bytes
  have hr := B.returns
  have hts := atoms_spec (ws := wsA yX5_become cX5_become 4 none) B.pre
  have hg : ∀ w ∈ lw_good, w.before _ s = true := fun w h => hts w (List.mem_cons_of_mem _ h)
  have hown : s.vm.findClass RX5 = some m.cls := findClass_of_methodNamed B.named
  have hlocks := B.notSynchronized
  have hS : va_S (x_A ad) s.heap s.heap [] := va_S.rf
  have hFx : gFix p c cX5_become 4 s m _ RX5 := ⟨hx, hb, hml, hown, hg⟩
  have hP : va_P (dC, dI) vwCl (x_w kI ad M) s.heap := hP
  have hl := lv_entry ([.ref (ad (26)), .int (a1), .int (a2), .int (a3)]) (n := 4) (Nat.le_of_ble_eq_true rfl)
  rw [lg_entry_eq]
  generalize (lg_sl ([.ref (ad (26)), .int (a1), .int (a2), .int (a3)]) ++ List.replicate (4 - (lg_sl ([.ref (ad (26)), .int (a1), .int (a2), .int (a3)])).length) Slot.unset).toArray = ls at hl ⊢
  have hl : lv_has ls 4 [(0, .ref (ad (26))), (1, .int (a1)), (2, .int (a2)), (3, .int (a3))] := hl
  unfold FX5_become at h
  refine lv_aload_n hx hb dX5_become_0 rfl (lv_at hl 0 rfl) ?_
  refine lv_iload_n hx hb dX5_become_1 rfl (lv_at hl 1 rfl) ?_
  refine va_put (D := (dC, dI)) (ci := 5) (v := .int (a1)) (ty := .int) (C := RX5) (T := TX5) (N := 3) hx hb hg inX5 tyX5 tyX5_ok nmX5 hown hKn.1 hP (x_D hKn.2.1) hS (26) (x_at5 (c := 26) (by decide)) rfl 0 (Nat.le_of_ble_eq_true rfl) (hg _ lkF_X5_7) (fun _ h9 => h9) rfl (by decide +kernel) rfl rfl (Nat.le_of_ble_eq_true rfl) dX5_become_2 (fun H locs hP _ hS => ?_)
  have hP : va_P (dC, dI) vwCl (x_w kI ad (upd2 M 26 0 a1)) H := vp_eq (x_put5_0 (by decide) _) hP
  refine lv_aload_n hx hb dX5_become_5 rfl (lv_at hl 0 rfl) ?_
  refine lv_iload_n hx hb dX5_become_6 rfl (lv_at hl 2 rfl) ?_
  refine va_put (D := (dC, dI)) (ci := 5) (v := .int (a2)) (ty := .int) (C := RX5) (T := TX5) (N := 3) hx hb hg inX5 tyX5 tyX5_ok nmX5 hown hKn.1 hP (x_D hKn.2.1) hS (26) (x_at5 (c := 26) (by decide)) rfl 1 (Nat.le_of_ble_eq_true rfl) (hg _ lkF_X5_13) (fun _ h9 => h9) rfl (by decide +kernel) rfl rfl (Nat.le_of_ble_eq_true rfl) dX5_become_7 (fun H locs hP _ hS => ?_)
  have hP : va_P (dC, dI) vwCl (x_w kI ad (upd2 (upd2 M 26 0 a1) 26 1 a2)) H := vp_eq (x_put5_1 (by decide) _) hP
  refine lv_aload_n hx hb dX5_become_10 rfl (lv_at hl 0 rfl) ?_
  refine lv_iload_n hx hb dX5_become_11 rfl (lv_at hl 3 rfl) ?_
  refine va_put (D := (dC, dI)) (ci := 5) (v := .int (a3)) (ty := .int) (C := RX5) (T := TX5) (N := 3) hx hb hg inX5 tyX5 tyX5_ok nmX5 hown hKn.1 hP (x_D hKn.2.1) hS (26) (x_at5 (c := 26) (by decide)) rfl 2 (Nat.le_of_ble_eq_true rfl) (hg _ lkF_X5_16) (fun _ h9 => h9) rfl (by decide +kernel) rfl rfl (Nat.le_of_ble_eq_true rfl) dX5_become_12 (fun H locs hP _ hS => ?_)
  have hP : va_P (dC, dI) vwCl (x_w kI ad (upd2 (upd2 (upd2 M 26 0 a1) 26 1 a2) 26 2 a3)) H := vp_eq (x_put5_2 (by decide) _) hP
  exact W.vret hx hb hr (fun t ht hW => ⟨⟨upd2 (upd2 (upd2 M 26 0 a1) 26 1 a2) 26 2 a3, rfl, Option.some.inj h, by rw [ht]; exact hP, x_KnW hKn t hW⟩, hS.F ht⟩) hS.2.2 dX5_become_15
noncomputable def FX7_behindMeeting (a0 : Int32) (a1 : Int32) : Option Int32 :=
  some (((2 * a0) + a1) / 3)
set_option maxHeartbeats 4000000 in
set_option maxRecDepth 100000 in
theorem tX7_behindMeeting (l : Launch) (dC : Nat → ClassId) (dI : Nat → Nat → Nat) (kI : ClassId) (ad : Nat → Nat) (a0 : Int32) (a1 : Int32) (M : (Nat → Nat → Int32))  {r0 : Int32} (h : FX7_behindMeeting a0 a1 = some r0) : Met l yX7_behindMeeting (wsA yX7_behindMeeting cX7_behindMeeting 2 (some .int)) ({ frames := 0, cells := 0, slots := 0, locals := 0 } : Room) (va_Pc [.int (a0), .int (a1)] (gI (x_Wd dC dI kI ad) (x_Kn dC dI kI ad) M)) (va_Qi (fun (r : Int32) (u : (Nat → Nat → Int32)) => r = r0 ∧ u = M) (gI (x_Wd dC dI kI ad) (x_Kn dC dI kI ad)) (x_A ad)) 0 0 (x_A ad) := by
  refine Met.ofW (cc := cX7_behindMeeting) (maxL := 2) (ret := (some .int)) (by decide) rfl ?_
  intro p e s m args below meth c s₁ B hml hv
  obtain ⟨rfl, hP, hKn⟩ := hv
  have hx := B.exec
  have hb := B.bytes
  have hr := B.returns
  have hts := atoms_spec (ws := wsA yX7_behindMeeting cX7_behindMeeting 2 (some .int)) B.pre
  have hg : ∀ w ∈ lw_good, w.before _ s = true := fun w h => hts w (List.mem_cons_of_mem _ h)
  have hown : s.vm.findClass RX7 = some m.cls := findClass_of_methodNamed B.named
  have hlocks := B.notSynchronized
  have hS : va_S (x_A ad) s.heap s.heap [] := va_S.rf
  have hFx : gFix p c cX7_behindMeeting 2 s m _ RX7 := ⟨hx, hb, hml, hown, hg⟩
  have hP : va_P (dC, dI) vwCl (x_w kI ad M) s.heap := hP
  have hl := lv_entry ([.int (a0), .int (a1)]) (n := 2) (Nat.le_of_ble_eq_true rfl)
  rw [lg_entry_eq]
  generalize (lg_sl ([.int (a0), .int (a1)]) ++ List.replicate (2 - (lg_sl ([.int (a0), .int (a1)])).length) Slot.unset).toArray = ls at hl ⊢
  have hl : lv_has ls 2 [(0, .int (a0)), (1, .int (a1))] := hl
  unfold FX7_behindMeeting at h
  refine lv_iconst (v := 2) hx hb dX7_behindMeeting_0 (by decide) ?_
  refine lv_iload_n hx hb dX7_behindMeeting_1 rfl (lv_at hl 0 rfl) ?_
  refine lv_imul hx hb dX7_behindMeeting_2 ?_
  refine lv_iload_n hx hb dX7_behindMeeting_3 rfl (lv_at hl 1 rfl) ?_
  refine lv_iadd hx hb dX7_behindMeeting_4 ?_
  refine lv_iconst (v := 3) hx hb dX7_behindMeeting_5 (by decide) ?_
  refine lv_idiv hx hb dX7_behindMeeting_6 (by decide) ?_
  exact W.iret (v := (((2 * a0) + a1) / 3)) hx hb hr (fun t ht hW => ⟨⟨(((2 * a0) + a1) / 3), M, rfl, ⟨Option.some.inj h, rfl⟩, by rw [ht]; exact hP, x_KnW hKn t hW⟩, hS.F ht⟩) hS.2.2 dX7_behindMeeting_7
noncomputable def FX7_isBelief (a0 : Int32) : Option Int32 :=
  (if a0 < 0 then some 0 else (if 20 < a0 then some 0 else some 1))
set_option maxHeartbeats 4000000 in
set_option maxRecDepth 100000 in
theorem tX7_isBelief (l : Launch) (dC : Nat → ClassId) (dI : Nat → Nat → Nat) (kI : ClassId) (ad : Nat → Nat) (a0 : Int32) (M : (Nat → Nat → Int32))  {r0 : Int32} (h : FX7_isBelief a0 = some r0) : Met l yX7_isBelief (wsA yX7_isBelief cX7_isBelief 1 (some .boolean)) ({ frames := 0, cells := 0, slots := 0, locals := 0 } : Room) (va_Pc [.int (a0)] (gI (x_Wd dC dI kI ad) (x_Kn dC dI kI ad) M)) (va_Qi (fun (r : Int32) (u : (Nat → Nat → Int32)) => r = r0 ∧ u = M) (gI (x_Wd dC dI kI ad) (x_Kn dC dI kI ad)) (x_A ad)) 0 0 (x_A ad) := by
  refine Met.ofW (cc := cX7_isBelief) (maxL := 1) (ret := (some .boolean)) (by decide) rfl ?_
  intro p e s m args below meth c s₁ B hml hv
  obtain ⟨rfl, hP, hKn⟩ := hv
  have hx := B.exec
  have hb := B.bytes
  have hr := B.returns
  have hts := atoms_spec (ws := wsA yX7_isBelief cX7_isBelief 1 (some .boolean)) B.pre
  have hg : ∀ w ∈ lw_good, w.before _ s = true := fun w h => hts w (List.mem_cons_of_mem _ h)
  have hown : s.vm.findClass RX7 = some m.cls := findClass_of_methodNamed B.named
  have hlocks := B.notSynchronized
  have hS : va_S (x_A ad) s.heap s.heap [] := va_S.rf
  have hFx : gFix p c cX7_isBelief 1 s m _ RX7 := ⟨hx, hb, hml, hown, hg⟩
  have hP : va_P (dC, dI) vwCl (x_w kI ad M) s.heap := hP
  have hl := lv_entry ([.int (a0)]) (n := 1) (Nat.le_of_ble_eq_true rfl)
  rw [lg_entry_eq]
  generalize (lg_sl ([.int (a0)]) ++ List.replicate (1 - (lg_sl ([.int (a0)])).length) Slot.unset).toArray = ls at hl ⊢
  have hl : lv_has ls 1 [(0, .int (a0))] := hl
  unfold FX7_isBelief at h
  refine lv_iload_n hx hb dX7_isBelief_0 rfl (lv_at hl 0 rfl) ?_
  refine lv_if_lt (tgt := 14) hx hb dX7_isBelief_1 (by decide) (fun c_1 => ?_) (fun c_1 => ?_)
  · have h := ife_t c_1 h
    refine lv_iconst (v := 0) hx hb dX7_isBelief_14 (by decide) ?_
    exact W.zret (v := 0) hx hb hr rfl (fun t ht hW => ⟨⟨0, M, rfl, ⟨Option.some.inj h, rfl⟩, by rw [ht]; exact hP, x_KnW hKn t hW⟩, hS.F ht⟩) hS.2.2 dX7_isBelief_15
  · have h := ife_f c_1 h
    refine lv_iload_n hx hb dX7_isBelief_4 rfl (lv_at hl 0 rfl) ?_
    refine lv_bipush (v := 20) hx hb dX7_isBelief_5 (by decide) ?_
    refine lv_icmp_gt (tgt := 14) hx hb dX7_isBelief_7 (by decide) (fun c_2 => ?_) (fun c_2 => ?_)
    · have h := ife_t c_2 h
      refine lv_iconst (v := 0) hx hb dX7_isBelief_14 (by decide) ?_
      exact W.zret (v := 0) hx hb hr rfl (fun t ht hW => ⟨⟨0, M, rfl, ⟨Option.some.inj h, rfl⟩, by rw [ht]; exact hP, x_KnW hKn t hW⟩, hS.F ht⟩) hS.2.2 dX7_isBelief_15
    · have h := ife_f c_2 h
      refine lv_iconst (v := 1) hx hb dX7_isBelief_10 (by decide) ?_
      refine lv_goto (tgt := 15) hx hb dX7_isBelief_11 (by decide) ?_
      exact W.zret (v := 1) hx hb hr rfl (fun t ht hW => ⟨⟨1, M, rfl, ⟨Option.some.inj h, rfl⟩, by rw [ht]; exact hP, x_KnW hKn t hW⟩, hS.F ht⟩) hS.2.2 dX7_isBelief_15
