noncomputable def FX7_rivalsEnd_L54 (c0 : Nat) (c1 : Nat) (b2 : Int32) (b3 : Int32) (b4 : Int32) (b5 : Int32) (b6 : Int32) (rec : Nat → Nat → Int32 → Int32 → Int32 → Int32 → (Nat → Nat → Int32) → Option (Int32 × (Nat → Nat → Int32))) (K : Int32 → (Nat → Nat → Int32) → Option (Int32 × (Nat → Nat → Int32))) (k : Nat) (v7_9 : Int32) (v8_10 : Int32) (M_11 : (Nat → Nat → Int32)) : Option (Int32 × (Nat → Nat → Int32)) := match k with
  | 0 => none
  | k + 1 => (if (M_11 c0 2) ≤ v8_10 then K v7_9 M_11 else bo (FX7_has b5 v8_10) (fun (r_13 : Int32) => jn (α := Int32 → (Nat → Nat → Int32) → Option (Int32 × (Nat → Nat → Int32))) (fun (j7_14 : Int32) (M_15 : (Nat → Nat → Int32)) => FX7_rivalsEnd_L54 c0 c1 b2 b3 b4 b5 b6 rec K k j7_14 (v8_10 + 1) M_15) (fun J159 => (if r_13 = 0 then J159 v7_9 M_11 else bo (FX7_at (c0 + 2) v8_10 M_11) (fun (r_17 : Int32) => bo (FX7_at (c1 + 1) r_17 M_11) (fun (r_18 : Int32) => bd (FX3_readFact c1 c0 v8_10 M_11) (fun (r_19 : Int32) (M_20 : (Nat → Nat → Int32)) => bd (rec c0 c1 b2 (b3 + 1) b4 (b5 &&& ((1 <<< (v8_10 &&& 31)) ^^^ (-1))) M_20) (fun (r_21 : Int32) (M_22 : (Nat → Nat → Int32)) => bo (FX3_unread c1 v8_10 r_17 r_18 M_22) (fun (M_23 : (Nat → Nat → Int32)) => jn (α := Int32 → Option (Int32 × (Nat → Nat → Int32))) (fun (s_24 : Int32) => J159 s_24 M_23) (fun J157 => (if b6 = 0 then J157 (if r_21 < v7_9 then r_21 else v7_9) else J157 (if v7_9 < r_21 then r_21 else v7_9))))))))))))
noncomputable def FX7_rivalsEnd (d : Nat) (c0 : Nat) (c1 : Nat) (a2 : Int32) (a3 : Int32) (a4 : Int32) (a5 : Int32) (M : (Nat → Nat → Int32)) : Option (Int32 × (Nat → Nat → Int32)) := match d with
  | 0 => none
  | d + 1 => jn (α := Option (Int32 × (Nat → Nat → Int32))) (bo (FX7_at (c1 + 1) a2 M) (fun (r_1 : Int32) => some (r_1, M))) (fun J16 => (if a4 ≤ a3 then J16 else (if 4 ≤ a3 then J16 else (if a5 = 0 then J16 else jn (α := Int32 → Option (Int32 × (Nat → Nat → Int32))) (fun (s_5 : Int32) => jn (α := Int32 → Option (Int32 × (Nat → Nat → Int32))) (fun (s_6 : Int32) => FX7_rivalsEnd_L54 c0 c1 a2 a3 a4 a5 s_5 (fun c0 c1 a2 a3 a4 a5 M => FX7_rivalsEnd d c0 c1 a2 a3 a4 a5 M) (fun (k7_7 : Int32) (M_8 : (Nat → Nat → Int32)) => some (k7_7, M_8)) fuelN s_6 0 M) (fun J49 => (if s_5 = 0 then J49 21 else J49 (-1)))) (fun J36 => (if (a3 - a3 / 2 * 2) = 0 then J36 1 else J36 0))))))
set_option maxHeartbeats 4000000 in
set_option maxRecDepth 100000 in
theorem tX7_rivalsEnd (l : Launch) (dC : Nat → ClassId) (dI : Nat → Nat → Nat) (kI : ClassId) (ad : Nat → Nat) : ∀ (d : Nat) (c0 : Nat) (c1 : Nat) (a2 : Int32) (a3 : Int32) (a4 : Int32) (a5 : Int32) (M : (Nat → Nat → Int32)) (h0 : x_is1 c0) (h1 : x_is3 c1) {r0 : Int32} {M0 : (Nat → Nat → Int32)} (h : FX7_rivalsEnd d c0 c1 a2 a3 a4 a5 M = some (r0, M0)), Met l yX7_rivalsEnd (wsA yX7_rivalsEnd cX7_rivalsEnd 12 (some .int)) ({ frames := d + 2, cells := 0, slots := 0, locals := 31 * d + 60 } : Room) (va_Pc [.ref (ad (c0)), .ref (ad (c1)), .int (a2), .int (a3), .int (a4), .int (a5)] (gI (x_Wd dC dI kI ad) (x_Kn dC dI kI ad) M)) (va_Qi (fun (r : Int32) (u : (Nat → Nat → Int32)) => r = r0 ∧ u = M0) (gI (x_Wd dC dI kI ad) (x_Kn dC dI kI ad)) (x_A ad)) 0 0 (x_A ad) := by
  intro d
  induction d with
  | zero => intro c0 c1 a2 a3 a4 a5 M h0 h1 r0 M0 h; cases h
  | succ d hrec =>
  intro c0 c1 a2 a3 a4 a5 M h0 h1 r0 M0 h
  refine Met.ofW (cc := cX7_rivalsEnd) (maxL := 12) (ret := (some .int)) (by decide) rfl ?_
  intro p e s m args below meth c s₁ B hml hv
  obtain ⟨rfl, hP, hKn⟩ := hv
  have hx := B.exec
  have hb := B.bytes
  have hr := B.returns
  have hts := atoms_spec (ws := wsA yX7_rivalsEnd cX7_rivalsEnd 12 (some .int)) B.pre
  have hg : ∀ w ∈ lw_good, w.before _ s = true := fun w h => hts w (List.mem_cons_of_mem _ h)
  have hown : s.vm.findClass RX7 = some m.cls := findClass_of_methodNamed B.named
  have hlocks := B.notSynchronized
  have hS : va_S (x_A ad) s.heap s.heap [] := va_S.rf
  have hFx : gFix p c cX7_rivalsEnd 12 s m _ RX7 := ⟨hx, hb, hml, hown, hg⟩
  have hP : va_P (dC, dI) vwCl (x_w kI ad M) s.heap := hP
  have hl := lv_entry ([.ref (ad (c0)), .ref (ad (c1)), .int (a2), .int (a3), .int (a4), .int (a5)]) (n := 12) (Nat.le_of_ble_eq_true rfl)
  rw [lg_entry_eq]
  generalize (lg_sl ([.ref (ad (c0)), .ref (ad (c1)), .int (a2), .int (a3), .int (a4), .int (a5)]) ++ List.replicate (12 - (lg_sl ([.ref (ad (c0)), .ref (ad (c1)), .int (a2), .int (a3), .int (a4), .int (a5)])).length) Slot.unset).toArray = ls at hl ⊢
  have hl : lv_has ls 12 [(0, .ref (ad (c0))), (1, .ref (ad (c1))), (2, .int (a2)), (3, .int (a3)), (4, .int (a4)), (5, .int (a5))] := hl
  unfold FX7_rivalsEnd at h
  refine lv_iload_n hx hb dX7_rivalsEnd_0 rfl (lv_at hl 3 rfl) ?_
  refine lv_iload hx hb dX7_rivalsEnd_1 (lv_at hl 4 rfl) ?_
  obtain ⟨J16, eJ16, h⟩ := jn_use h
  have hJ16 : ∀  (H : Heap) (locs : List Loc) (ls : Array Slot), va_P (dC, dI) vwCl (x_w kI ad M) H → va_S (x_A ad) s.heap H locs → lv_has ls 12 [(1, .ref (ad (c1))), (2, .int (a2))] → J16  = some (r0, M0) → W p l e (headSpec (wsA yX7_rivalsEnd cX7_rivalsEnd 12 (some .int)) ({ frames := d + 1 + 2, cells := 0, slots := 0, locals := 31 * (d + 1) + 60 } : Room)).room s m (([.ref (ad (c0)), .ref (ad (c1)), .int (a2), .int (a3), .int (a4), .int (a5)] : List Value).toArray) below meth c H locs 0 0 (MQ below (va_Qi (fun (r : Int32) (u : (Nat → Nat → Int32)) => r = r0 ∧ u = M0) (gI (x_Wd dC dI kI ad) (x_Kn dC dI kI ad)) (x_A ad)) (([.ref (ad (c0)), .ref (ad (c1)), .int (a2), .int (a3), .int (a4), .int (a5)] : List Value).toArray) s 0 0 (x_A ad)) (F0 m 16 ls []) := by
    intro  H locs ls hP hS hl h
    have h := useK0 eJ16 h
    refine lv_aload_n hx hb dX7_rivalsEnd_16 rfl (lv_at hl 0 rfl) ?_
    refine va_getN (D := (dC, dI)) (ci := 3) (v := .ref (ad ((c1 + 1)))) (C := RX3) (T := TX3) (N := 6) hx hb hg inX3 hown hKn.1 hP (c1) (x_at3 (c := c1) h1) rfl 0 (Nat.le_of_ble_eq_true rfl) (nest_use hKn.2.2 nkF_X7_142) (fun _ h9 => h9) rfl dX7_rivalsEnd_17 ?_
    refine lv_iload_n hx hb dX7_rivalsEnd_20 rfl (lv_at hl 1 rfl) ?_
    obtain ⟨r_1, e21, h⟩ := bo_use h
    refine gc_i (va_runS (As := [.ref (ad ((c1 + 1))), .int (a2)]) (rest := []) hFx (tX7_at l dC dI kI ad (c1 + 1) a2 M (x_ar3_1 h1) e21) ⟨(gc_B hFx ck_yX7_at lkM_X7_145 ⟨by show 0 + 1 ≤ d + 1 + 2; omega, by show 8 + (2 + 11) + 0 ≤ 31 * (d + 1) + 60; omega⟩ rfl rfl), hg _ st_yX7_at⟩ (gp_S x_KnB (x_KnW hKn) hP) rfl rfl hl.1 rfl (lv_room (Nat.le_of_ble_eq_true rfl)) dX7_rivalsEnd_21 ⟨Nat.zero_le _, Nat.zero_le _⟩) hS (fun H locs hP hS => ?_)
    have hP : va_P (dC, dI) vwCl (x_w kI ad M) H := hP
    exact W.iret (v := r_1) hx hb hr (fun t ht hW => ⟨⟨r_1, M, rfl, Prod.mk.inj (Option.some.inj h), by rw [ht]; exact hP, x_KnW hKn t hW⟩, hS.F ht⟩) hS.2.2 dX7_rivalsEnd_24
  refine lv_icmp_ge (tgt := 16) hx hb dX7_rivalsEnd_3 (by decide) (fun c_2 => ?_) (fun c_2 => ?_)
  · have h := ife_t c_2 h
    exact hJ16 _ _ _ hP hS (lv_sub hl [1, 2] rfl) h
  · have h := ife_f c_2 h
    refine lv_iload_n hx hb dX7_rivalsEnd_6 rfl (lv_at hl 3 rfl) ?_
    refine lv_iconst (v := 4) hx hb dX7_rivalsEnd_7 (by decide) ?_
    refine lv_icmp_ge (tgt := 16) hx hb dX7_rivalsEnd_8 (by decide) (fun c_3 => ?_) (fun c_3 => ?_)
    · have h := ife_t c_3 h
      exact hJ16 _ _ _ hP hS (lv_sub hl [1, 2] rfl) h
    · have h := ife_f c_3 h
      refine lv_iload hx hb dX7_rivalsEnd_11 (lv_at hl 5 rfl) ?_
      refine lv_if_ne (tgt := 25) hx hb dX7_rivalsEnd_13 (by decide) (fun c_4 => ?_) (fun c_4 => ?_)
      · have h := ife_f c_4 h
        refine lv_iload_n hx hb dX7_rivalsEnd_25 rfl (lv_at hl 3 rfl) ?_
        refine lv_iconst (v := 2) hx hb dX7_rivalsEnd_26 (by decide) ?_
        refine lv_irem hx hb dX7_rivalsEnd_27 (by decide) ?_
        obtain ⟨J36, eJ36, h⟩ := jn_use h
        have hJ36 : ∀ (s_5 : Int32) (H : Heap) (locs : List Loc) (ls : Array Slot), va_P (dC, dI) vwCl (x_w kI ad M) H → va_S (x_A ad) s.heap H locs → lv_has ls 12 [(0, .ref (ad (c0))), (1, .ref (ad (c1))), (2, .int (a2)), (3, .int (a3)), (4, .int (a4)), (5, .int (a5))] → J36 s_5 = some (r0, M0) → W p l e (headSpec (wsA yX7_rivalsEnd cX7_rivalsEnd 12 (some .int)) ({ frames := d + 1 + 2, cells := 0, slots := 0, locals := 31 * (d + 1) + 60 } : Room)).room s m (([.ref (ad (c0)), .ref (ad (c1)), .int (a2), .int (a3), .int (a4), .int (a5)] : List Value).toArray) below meth c H locs 0 0 (MQ below (va_Qi (fun (r : Int32) (u : (Nat → Nat → Int32)) => r = r0 ∧ u = M0) (gI (x_Wd dC dI kI ad) (x_Kn dC dI kI ad)) (x_A ad)) (([.ref (ad (c0)), .ref (ad (c1)), .int (a2), .int (a3), .int (a4), .int (a5)] : List Value).toArray) s 0 0 (x_A ad)) (F0 m 36 ls [.int (s_5)]) := by
          intro s_5 H locs ls hP hS hl h
          have h := useK1 eJ36 h
          refine lv_istore (lv' := [(6, .int (s_5)), (0, .ref (ad (c0))), (1, .ref (ad (c1))), (2, .int (a2)), (3, .int (a3)), (4, .int (a4)), (5, .int (a5))]) hx hb dX7_rivalsEnd_36 hl (Nat.le_of_ble_eq_true rfl) rfl (fun ls hl => ?_)
          refine lv_iload hx hb dX7_rivalsEnd_38 (lv_at hl 0 rfl) ?_
          obtain ⟨J49, eJ49, h⟩ := jn_use h
          have hJ49 : ∀ (s_6 : Int32) (H : Heap) (locs : List Loc) (ls : Array Slot), va_P (dC, dI) vwCl (x_w kI ad M) H → va_S (x_A ad) s.heap H locs → lv_has ls 12 [(6, .int (s_5)), (0, .ref (ad (c0))), (1, .ref (ad (c1))), (2, .int (a2)), (3, .int (a3)), (4, .int (a4)), (5, .int (a5))] → J49 s_6 = some (r0, M0) → W p l e (headSpec (wsA yX7_rivalsEnd cX7_rivalsEnd 12 (some .int)) ({ frames := d + 1 + 2, cells := 0, slots := 0, locals := 31 * (d + 1) + 60 } : Room)).room s m (([.ref (ad (c0)), .ref (ad (c1)), .int (a2), .int (a3), .int (a4), .int (a5)] : List Value).toArray) below meth c H locs 0 0 (MQ below (va_Qi (fun (r : Int32) (u : (Nat → Nat → Int32)) => r = r0 ∧ u = M0) (gI (x_Wd dC dI kI ad) (x_Kn dC dI kI ad)) (x_A ad)) (([.ref (ad (c0)), .ref (ad (c1)), .int (a2), .int (a3), .int (a4), .int (a5)] : List Value).toArray) s 0 0 (x_A ad)) (F0 m 49 ls [.int (s_6)]) := by
            intro s_6 H locs ls hP hS hl h
            have h := useK1 eJ49 h
            refine lv_istore (lv' := [(7, .int (s_6)), (6, .int (s_5)), (0, .ref (ad (c0))), (1, .ref (ad (c1))), (2, .int (a2)), (3, .int (a3)), (4, .int (a4)), (5, .int (a5))]) hx hb dX7_rivalsEnd_49 hl (Nat.le_of_ble_eq_true rfl) rfl (fun ls hl => ?_)
            refine lv_iconst (v := 0) hx hb dX7_rivalsEnd_51 (by decide) ?_
            refine lv_istore (lv' := [(8, .int (0)), (7, .int (s_6)), (6, .int (s_5)), (0, .ref (ad (c0))), (1, .ref (ad (c1))), (2, .int (a2)), (3, .int (a3)), (4, .int (a4)), (5, .int (a5))]) hx hb dX7_rivalsEnd_52 hl (Nat.le_of_ble_eq_true rfl) rfl (fun ls hl => ?_)
            obtain ⟨K54, eK54, h⟩ := exK (Lp := fun K => FX7_rivalsEnd_L54 c0 c1 a2 a3 a4 a5 s_5 (fun c0 c1 a2 a3 a4 a5 M => FX7_rivalsEnd d c0 c1 a2 a3 a4 a5 M) K fuelN s_6 0 M) h
            have hK54 : ∀ (k7_7 : Int32) (M_8 : (Nat → Nat → Int32)) (H : Heap) (locs : List Loc) (ls : Array Slot), va_P (dC, dI) vwCl (x_w kI ad M_8) H → va_S (x_A ad) s.heap H locs → lv_has ls 12 [(7, .int (k7_7))] → K54 k7_7 M_8 = some (r0, M0) → W p l e (headSpec (wsA yX7_rivalsEnd cX7_rivalsEnd 12 (some .int)) ({ frames := d + 1 + 2, cells := 0, slots := 0, locals := 31 * (d + 1) + 60 } : Room)).room s m (([.ref (ad (c0)), .ref (ad (c1)), .int (a2), .int (a3), .int (a4), .int (a5)] : List Value).toArray) below meth c H locs 0 0 (MQ below (va_Qi (fun (r : Int32) (u : (Nat → Nat → Int32)) => r = r0 ∧ u = M0) (gI (x_Wd dC dI kI ad) (x_Kn dC dI kI ad)) (x_A ad)) (([.ref (ad (c0)), .ref (ad (c1)), .int (a2), .int (a3), .int (a4), .int (a5)] : List Value).toArray) s 0 0 (x_A ad)) (F0 m 165 ls []) := by
              intro k7_7 M_8 H locs ls hP hS hl h
              have h := useK2 eK54 h
              refine lv_iload hx hb dX7_rivalsEnd_165 (lv_at hl 0 rfl) ?_
              exact W.iret (v := k7_7) hx hb hr (fun t ht hW => ⟨⟨k7_7, M_8, rfl, Prod.mk.inj (Option.some.inj h), by rw [ht]; exact hP, x_KnW hKn t hW⟩, hS.F ht⟩) hS.2.2 dX7_rivalsEnd_167
            have hL54 : ∀ (k : Nat) (v7_9 : Int32) (v8_10 : Int32) (M_11 : (Nat → Nat → Int32)) (H : Heap) (locs : List Loc) (ls : Array Slot), va_P (dC, dI) vwCl (x_w kI ad M_11) H → va_S (x_A ad) s.heap H locs → lv_has ls 12 [(0, .ref (ad (c0))), (1, .ref (ad (c1))), (2, .int (a2)), (3, .int (a3)), (4, .int (a4)), (5, .int (a5)), (6, .int (s_5)), (7, .int (v7_9)), (8, .int (v8_10))] → FX7_rivalsEnd_L54 c0 c1 a2 a3 a4 a5 s_5 (fun c0 c1 a2 a3 a4 a5 M => FX7_rivalsEnd d c0 c1 a2 a3 a4 a5 M) K54 k v7_9 v8_10 M_11 = some (r0, M0) → W p l e (headSpec (wsA yX7_rivalsEnd cX7_rivalsEnd 12 (some .int)) ({ frames := d + 1 + 2, cells := 0, slots := 0, locals := 31 * (d + 1) + 60 } : Room)).room s m (([.ref (ad (c0)), .ref (ad (c1)), .int (a2), .int (a3), .int (a4), .int (a5)] : List Value).toArray) below meth c H locs 0 0 (MQ below (va_Qi (fun (r : Int32) (u : (Nat → Nat → Int32)) => r = r0 ∧ u = M0) (gI (x_Wd dC dI kI ad) (x_Kn dC dI kI ad)) (x_A ad)) (([.ref (ad (c0)), .ref (ad (c1)), .int (a2), .int (a3), .int (a4), .int (a5)] : List Value).toArray) s 0 0 (x_A ad)) (F0 m 54 ls []) := by
              intro k
              induction k with
              | zero => intro v7_9 v8_10 M_11 H locs ls hP hS hl h; cases h
              | succ k ih54 =>
                intro v7_9 v8_10 M_11 H locs ls hP hS hl h
                unfold FX7_rivalsEnd_L54 at h
                refine lv_iload hx hb dX7_rivalsEnd_54 (lv_at hl 8 rfl) ?_
                refine lv_aload_n hx hb dX7_rivalsEnd_56 rfl (lv_at hl 0 rfl) ?_
                refine va_getN (D := (dC, dI)) (ci := 1) (v := .int ((M_11 c0 2))) (C := RX1) (T := TX1) (N := 10) hx hb hg inX1 hown hKn.1 hP (c0) (x_at1 (c := c0) h0) rfl 2 (Nat.le_of_ble_eq_true rfl) (nest_use hKn.2.2 nkF_X7_107) (fun _ h9 => h9) rfl dX7_rivalsEnd_57 ?_
                refine lv_icmp_ge (tgt := 165) hx hb dX7_rivalsEnd_60 (by decide) (fun c_12 => ?_) (fun c_12 => ?_)
                · have h := ife_t c_12 h
                  exact hK54 v7_9 M_11 _ _ _ hP hS (lv_sub hl [7] rfl) h
                · have h := ife_f c_12 h
                  refine lv_iload hx hb dX7_rivalsEnd_63 (lv_at hl 5 rfl) ?_
                  refine lv_iload hx hb dX7_rivalsEnd_65 (lv_at hl 8 rfl) ?_
                  obtain ⟨r_13, e67, h⟩ := bo_use h
                  refine gc_i (va_runS (As := [.int (a5), .int (v8_10)]) (rest := []) hFx (tX7_has l dC dI kI ad a5 v8_10 M_11  e67) ⟨(gc_B hFx ck_yX7_has lkM_X7_168 ⟨by show 0 + 1 ≤ d + 1 + 2; omega, by show 8 + (2 + 11) + 0 ≤ 31 * (d + 1) + 60; omega⟩ rfl rfl), hg _ st_yX7_has⟩ (gp_S x_KnB (x_KnW hKn) hP) rfl rfl hl.1 rfl (lv_room (Nat.le_of_ble_eq_true rfl)) dX7_rivalsEnd_67 ⟨Nat.zero_le _, Nat.zero_le _⟩) hS (fun H locs hP hS => ?_)
                  have hP : va_P (dC, dI) vwCl (x_w kI ad M_11) H := hP
                  obtain ⟨J159, eJ159, h⟩ := jn_use h
                  have hJ159 : ∀ (j7_14 : Int32) (M_15 : (Nat → Nat → Int32)) (H : Heap) (locs : List Loc) (ls : Array Slot), va_P (dC, dI) vwCl (x_w kI ad M_15) H → va_S (x_A ad) s.heap H locs → lv_has ls 12 [(0, .ref (ad (c0))), (1, .ref (ad (c1))), (2, .int (a2)), (3, .int (a3)), (4, .int (a4)), (5, .int (a5)), (6, .int (s_5)), (8, .int (v8_10)), (7, .int (j7_14))] → J159 j7_14 M_15 = some (r0, M0) → W p l e (headSpec (wsA yX7_rivalsEnd cX7_rivalsEnd 12 (some .int)) ({ frames := d + 1 + 2, cells := 0, slots := 0, locals := 31 * (d + 1) + 60 } : Room)).room s m (([.ref (ad (c0)), .ref (ad (c1)), .int (a2), .int (a3), .int (a4), .int (a5)] : List Value).toArray) below meth c H locs 0 0 (MQ below (va_Qi (fun (r : Int32) (u : (Nat → Nat → Int32)) => r = r0 ∧ u = M0) (gI (x_Wd dC dI kI ad) (x_Kn dC dI kI ad)) (x_A ad)) (([.ref (ad (c0)), .ref (ad (c1)), .int (a2), .int (a3), .int (a4), .int (a5)] : List Value).toArray) s 0 0 (x_A ad)) (F0 m 159 ls []) := by
                    intro j7_14 M_15 H locs ls hP hS hl h
                    have h := useK2 eJ159 h
                    refine lv_iinc (v := (v8_10 + 1)) (lv' := [(8, .int ((v8_10 + 1))), (0, .ref (ad (c0))), (1, .ref (ad (c1))), (2, .int (a2)), (3, .int (a3)), (4, .int (a4)), (5, .int (a5)), (6, .int (s_5)), (7, .int (j7_14))]) hx hb dX7_rivalsEnd_159 hl (k := 7) rfl rfl (Nat.le_of_ble_eq_true rfl) rfl (fun ls hl => ?_)
                    refine lv_goto (tgt := 54) hx hb dX7_rivalsEnd_162 (by decide) ?_
                    exact ih54 j7_14 (v8_10 + 1) M_15 _ _ _ hP hS (lv_sub hl [1, 2, 3, 4, 5, 6, 7, 8, 0] rfl) h
                  refine lv_if_eq (tgt := 159) hx hb dX7_rivalsEnd_70 (by decide) (fun c_16 => ?_) (fun c_16 => ?_)
                  · have h := ife_t c_16 h
                    exact hJ159 v7_9 M_11 _ _ _ hP hS (lv_sub hl [0, 1, 2, 3, 4, 5, 6, 8, 7] rfl) h
                  · have h := ife_f c_16 h
                    refine lv_aload_n hx hb dX7_rivalsEnd_73 rfl (lv_at hl 0 rfl) ?_
                    refine va_getN (D := (dC, dI)) (ci := 1) (v := .ref (ad ((c0 + 2)))) (C := RX1) (T := TX1) (N := 10) hx hb hg inX1 hown hKn.1 hP (c0) (x_at1 (c := c0) h0) rfl 5 (Nat.le_of_ble_eq_true rfl) (nest_use hKn.2.2 nkF_X7_153) (fun _ h9 => h9) rfl dX7_rivalsEnd_74 ?_
                    refine lv_iload hx hb dX7_rivalsEnd_77 (lv_at hl 8 rfl) ?_
                    obtain ⟨r_17, e79, h⟩ := bo_use h
                    refine gc_i (va_runS (As := [.ref (ad ((c0 + 2))), .int (v8_10)]) (rest := []) hFx (tX7_at l dC dI kI ad (c0 + 2) v8_10 M_11 (x_ar1_2 h0) e79) ⟨(gc_B hFx ck_yX7_at lkM_X7_145 ⟨by show 0 + 1 ≤ d + 1 + 2; omega, by show 8 + (2 + 11) + 0 ≤ 31 * (d + 1) + 60; omega⟩ rfl rfl), hg _ st_yX7_at⟩ (gp_S x_KnB (x_KnW hKn) hP) rfl rfl hl.1 rfl (lv_room (Nat.le_of_ble_eq_true rfl)) dX7_rivalsEnd_79 ⟨Nat.zero_le _, Nat.zero_le _⟩) hS (fun H locs hP hS => ?_)
                    have hP : va_P (dC, dI) vwCl (x_w kI ad M_11) H := hP
                    refine lv_istore (lv' := [(9, .int (r_17)), (0, .ref (ad (c0))), (1, .ref (ad (c1))), (2, .int (a2)), (3, .int (a3)), (4, .int (a4)), (5, .int (a5)), (6, .int (s_5)), (7, .int (v7_9)), (8, .int (v8_10))]) hx hb dX7_rivalsEnd_82 hl (Nat.le_of_ble_eq_true rfl) rfl (fun ls hl => ?_)
                    refine lv_aload_n hx hb dX7_rivalsEnd_84 rfl (lv_at hl 2 rfl) ?_
                    refine va_getN (D := (dC, dI)) (ci := 3) (v := .ref (ad ((c1 + 1)))) (C := RX3) (T := TX3) (N := 6) hx hb hg inX3 hown hKn.1 hP (c1) (x_at3 (c := c1) h1) rfl 0 (Nat.le_of_ble_eq_true rfl) (nest_use hKn.2.2 nkF_X7_142) (fun _ h9 => h9) rfl dX7_rivalsEnd_85 ?_
                    refine lv_iload hx hb dX7_rivalsEnd_88 (lv_at hl 0 rfl) ?_
                    obtain ⟨r_18, e90, h⟩ := bo_use h
                    refine gc_i (va_runS (As := [.ref (ad ((c1 + 1))), .int (r_17)]) (rest := []) hFx (tX7_at l dC dI kI ad (c1 + 1) r_17 M_11 (x_ar3_1 h1) e90) ⟨(gc_B hFx ck_yX7_at lkM_X7_145 ⟨by show 0 + 1 ≤ d + 1 + 2; omega, by show 8 + (2 + 11) + 0 ≤ 31 * (d + 1) + 60; omega⟩ rfl rfl), hg _ st_yX7_at⟩ (gp_S x_KnB (x_KnW hKn) hP) rfl rfl hl.1 rfl (lv_room (Nat.le_of_ble_eq_true rfl)) dX7_rivalsEnd_90 ⟨Nat.zero_le _, Nat.zero_le _⟩) hS (fun H locs hP hS => ?_)
                    have hP : va_P (dC, dI) vwCl (x_w kI ad M_11) H := hP
                    refine lv_istore (lv' := [(10, .int (r_18)), (9, .int (r_17)), (0, .ref (ad (c0))), (1, .ref (ad (c1))), (2, .int (a2)), (3, .int (a3)), (4, .int (a4)), (5, .int (a5)), (6, .int (s_5)), (7, .int (v7_9)), (8, .int (v8_10))]) hx hb dX7_rivalsEnd_93 hl (Nat.le_of_ble_eq_true rfl) rfl (fun ls hl => ?_)
                    refine lv_aload_n hx hb dX7_rivalsEnd_95 rfl (lv_at hl 3 rfl) ?_
                    refine lv_aload_n hx hb dX7_rivalsEnd_96 rfl (lv_at hl 2 rfl) ?_
                    refine lv_iload hx hb dX7_rivalsEnd_97 (lv_at hl 10 rfl) ?_
                    obtain ⟨r_19, M_20, e99, h⟩ := bd_use h
                    refine gc_i (va_runVN (As := [.ref (ad (c0)), .int (v8_10)]) (rest := []) hFx (tX3_readFact l dC dI kI ad c1 c0 v8_10 M_11 h1 h0 e99) ⟨(gc_N hFx hKn.2.2 ck_yX3_readFact nkM_X7_295 ⟨by show 1 + 1 ≤ d + 1 + 2; omega, by show 8 + (8 + 11) + 22 ≤ 31 * (d + 1) + 60; omega⟩ rfl rfl), hg _ vi_yX3_readFact, hg _ vs_yX3_readFact⟩ (gp_V x_KnB (x_KnW hKn) hP (x_rc3 (c := c1) h1 hKn hP)) rfl rfl hl.1 rfl (lv_room (Nat.le_of_ble_eq_true rfl)) dX7_rivalsEnd_99 ⟨Nat.zero_le _, Nat.zero_le _⟩) hS (fun H locs hP hS => ?_)
                    have hP : va_P (dC, dI) vwCl (x_w kI ad M_20) H := hP
                    refine lv_pop hx hb dX7_rivalsEnd_102 rfl ?_
                    refine lv_aload_n hx hb dX7_rivalsEnd_103 rfl (lv_at hl 2 rfl) ?_
                    refine lv_aload_n hx hb dX7_rivalsEnd_104 rfl (lv_at hl 3 rfl) ?_
                    refine lv_iload_n hx hb dX7_rivalsEnd_105 rfl (lv_at hl 4 rfl) ?_
                    refine lv_iload_n hx hb dX7_rivalsEnd_106 rfl (lv_at hl 5 rfl) ?_
                    refine lv_iconst (v := 1) hx hb dX7_rivalsEnd_107 (by decide) ?_
                    refine lv_iadd hx hb dX7_rivalsEnd_108 ?_
                    refine lv_iload hx hb dX7_rivalsEnd_109 (lv_at hl 6 rfl) ?_
                    refine lv_iload hx hb dX7_rivalsEnd_111 (lv_at hl 7 rfl) ?_
                    refine lv_iconst (v := 1) hx hb dX7_rivalsEnd_113 (by decide) ?_
                    refine lv_iload hx hb dX7_rivalsEnd_114 (lv_at hl 10 rfl) ?_
                    refine lv_ishl hx hb dX7_rivalsEnd_116 ?_
                    refine lv_iconst (v := -1) hx hb dX7_rivalsEnd_117 (by decide) ?_
                    refine lv_ixor hx hb dX7_rivalsEnd_118 ?_
                    refine lv_iand hx hb dX7_rivalsEnd_119 ?_
                    obtain ⟨r_21, M_22, e120, h⟩ := bd_use h
                    refine gc_i (va_runS (As := [.ref (ad (c0)), .ref (ad (c1)), .int (a2), .int ((a3 + 1)), .int (a4), .int ((a5 &&& ((1 <<< (v8_10 &&& 31)) ^^^ (-1))))]) (rest := []) hFx (hrec c0 c1 a2 (a3 + 1) a4 (a5 &&& ((1 <<< (v8_10 &&& 31)) ^^^ (-1))) M_20 h0 h1 e120) ⟨(gc_B hFx ck_yX7_rivalsEnd lkM_X7_238 ⟨by show d + 2 + 1 ≤ d + 1 + 2; omega, by show 8 + (12 + 11) + (31 * d + 60) ≤ 31 * (d + 1) + 60; omega⟩ rfl rfl), hg _ st_yX7_rivalsEnd⟩ (gp_S x_KnB (x_KnW hKn) hP) rfl rfl hl.1 rfl (lv_room (Nat.le_of_ble_eq_true rfl)) dX7_rivalsEnd_120 ⟨Nat.zero_le _, Nat.zero_le _⟩) hS (fun H locs hP hS => ?_)
                    have hP : va_P (dC, dI) vwCl (x_w kI ad M_22) H := hP
                    refine lv_istore (lv' := [(11, .int (r_21)), (10, .int (r_18)), (9, .int (r_17)), (0, .ref (ad (c0))), (1, .ref (ad (c1))), (2, .int (a2)), (3, .int (a3)), (4, .int (a4)), (5, .int (a5)), (6, .int (s_5)), (7, .int (v7_9)), (8, .int (v8_10))]) hx hb dX7_rivalsEnd_123 hl (Nat.le_of_ble_eq_true rfl) rfl (fun ls hl => ?_)
                    refine lv_aload_n hx hb dX7_rivalsEnd_125 rfl (lv_at hl 4 rfl) ?_
                    refine lv_iload hx hb dX7_rivalsEnd_126 (lv_at hl 11 rfl) ?_
                    refine lv_iload hx hb dX7_rivalsEnd_128 (lv_at hl 2 rfl) ?_
                    refine lv_iload hx hb dX7_rivalsEnd_130 (lv_at hl 1 rfl) ?_
                    obtain ⟨M_23, e132, h⟩ := bo_use h
                    refine gc_v (va_runVN (As := [.int (v8_10), .int (r_17), .int (r_18)]) (rest := []) hFx (tX3_unread l dC dI kI ad c1 v8_10 r_17 r_18 M_22 h1 e132) ⟨(gc_N hFx hKn.2.2 ck_yX3_unread nkM_X7_298 ⟨by show 1 + 1 ≤ d + 1 + 2; omega, by show 8 + (4 + 11) + 22 ≤ 31 * (d + 1) + 60; omega⟩ rfl rfl), hg _ vi_yX3_unread, hg _ vs_yX3_unread⟩ (gp_V x_KnB (x_KnW hKn) hP (x_rc3 (c := c1) h1 hKn hP)) rfl rfl hl.1 rfl (lv_room (Nat.le_of_ble_eq_true rfl)) dX7_rivalsEnd_132 ⟨Nat.zero_le _, Nat.zero_le _⟩) hS (fun H locs hP hS => ?_)
                    have hP : va_P (dC, dI) vwCl (x_w kI ad M_23) H := hP
                    refine lv_iload hx hb dX7_rivalsEnd_135 (lv_at hl 9 rfl) ?_
                    obtain ⟨J157, eJ157, h⟩ := jn_use h
                    have hJ157 : ∀ (s_24 : Int32) (H : Heap) (locs : List Loc) (ls : Array Slot), va_P (dC, dI) vwCl (x_w kI ad M_23) H → va_S (x_A ad) s.heap H locs → lv_has ls 12 [(0, .ref (ad (c0))), (1, .ref (ad (c1))), (2, .int (a2)), (3, .int (a3)), (4, .int (a4)), (5, .int (a5)), (6, .int (s_5)), (8, .int (v8_10))] → J157 s_24 = some (r0, M0) → W p l e (headSpec (wsA yX7_rivalsEnd cX7_rivalsEnd 12 (some .int)) ({ frames := d + 1 + 2, cells := 0, slots := 0, locals := 31 * (d + 1) + 60 } : Room)).room s m (([.ref (ad (c0)), .ref (ad (c1)), .int (a2), .int (a3), .int (a4), .int (a5)] : List Value).toArray) below meth c H locs 0 0 (MQ below (va_Qi (fun (r : Int32) (u : (Nat → Nat → Int32)) => r = r0 ∧ u = M0) (gI (x_Wd dC dI kI ad) (x_Kn dC dI kI ad)) (x_A ad)) (([.ref (ad (c0)), .ref (ad (c1)), .int (a2), .int (a3), .int (a4), .int (a5)] : List Value).toArray) s 0 0 (x_A ad)) (F0 m 157 ls [.int (s_24)]) := by
                      intro s_24 H locs ls hP hS hl h
                      have h := useK1 eJ157 h
                      refine lv_istore (lv' := [(7, .int (s_24)), (0, .ref (ad (c0))), (1, .ref (ad (c1))), (2, .int (a2)), (3, .int (a3)), (4, .int (a4)), (5, .int (a5)), (6, .int (s_5)), (8, .int (v8_10))]) hx hb dX7_rivalsEnd_157 hl (Nat.le_of_ble_eq_true rfl) rfl (fun ls hl => ?_)
                      exact hJ159 s_24 M_23 _ _ _ hP hS (lv_sub hl [1, 2, 3, 4, 5, 6, 7, 8, 0] rfl) h
                    refine lv_if_eq (tgt := 150) hx hb dX7_rivalsEnd_137 (by decide) (fun c_25 => ?_) (fun c_25 => ?_)
                    · have h := ife_t c_25 h
                      refine lv_iload hx hb dX7_rivalsEnd_150 (lv_at hl 10 rfl) ?_
                      refine lv_iload hx hb dX7_rivalsEnd_152 (lv_at hl 0 rfl) ?_
                      refine va_mmin hx hb (hml.trans hl.1.symm) hown (hg _ lkM_X7_306) (hg _ st_Lib_Math_min_name) (hg _ ini_J9) (hg _ co_math_min) (by show 1 ≤ d + 1 + 2; omega) (by show 13 ≤ 31 * (d + 1) + 60; omega) (Nat.zero_le _) (Nat.zero_le _) dX7_rivalsEnd_154 ?_
                      exact hJ157 (if r_21 < v7_9 then r_21 else v7_9) _ _ _ hP hS (lv_sub hl [3, 4, 5, 6, 7, 8, 9, 11] rfl) h
                    · have h := ife_f c_25 h
                      refine lv_iload hx hb dX7_rivalsEnd_140 (lv_at hl 10 rfl) ?_
                      refine lv_iload hx hb dX7_rivalsEnd_142 (lv_at hl 0 rfl) ?_
                      refine va_mmax hx hb (hml.trans hl.1.symm) hown (hg _ lkM_X7_301) (hg _ st_Lib_Math_max_name) (hg _ ini_J9) (hg _ co_math_max) (by show 1 ≤ d + 1 + 2; omega) (by show 13 ≤ 31 * (d + 1) + 60; omega) (Nat.zero_le _) (Nat.zero_le _) dX7_rivalsEnd_144 ?_
                      refine lv_goto (tgt := 157) hx hb dX7_rivalsEnd_147 (by decide) ?_
                      exact hJ157 (if v7_9 < r_21 then r_21 else v7_9) _ _ _ hP hS (lv_sub hl [3, 4, 5, 6, 7, 8, 9, 11] rfl) h
            exact hL54 fuelN s_6 0 M _ _ _ hP hS (lv_sub hl [3, 4, 5, 6, 7, 8, 2, 1, 0] rfl) h
          refine lv_if_eq (tgt := 47) hx hb dX7_rivalsEnd_40 (by decide) (fun c_26 => ?_) (fun c_26 => ?_)
          · have h := ife_t c_26 h
            refine lv_bipush (v := 21) hx hb dX7_rivalsEnd_47 (by decide) ?_
            exact hJ49 21 _ _ _ hP hS (lv_sub hl [0, 1, 2, 3, 4, 5, 6] rfl) h
          · have h := ife_f c_26 h
            refine lv_iconst (v := -1) hx hb dX7_rivalsEnd_43 (by decide) ?_
            refine lv_goto (tgt := 49) hx hb dX7_rivalsEnd_44 (by decide) ?_
            exact hJ49 (-1) _ _ _ hP hS (lv_sub hl [0, 1, 2, 3, 4, 5, 6] rfl) h
        refine lv_if_ne (tgt := 35) hx hb dX7_rivalsEnd_28 (by decide) (fun c_27 => ?_) (fun c_27 => ?_)
        · have h := ife_f c_27 h
          refine lv_iconst (v := 0) hx hb dX7_rivalsEnd_35 (by decide) ?_
          exact hJ36 0 _ _ _ hP hS (lv_sub hl [0, 1, 2, 3, 4, 5] rfl) h
        · have h := ife_t c_27 h
          refine lv_iconst (v := 1) hx hb dX7_rivalsEnd_31 (by decide) ?_
          refine lv_goto (tgt := 36) hx hb dX7_rivalsEnd_32 (by decide) ?_
          exact hJ36 1 _ _ _ hP hS (lv_sub hl [0, 1, 2, 3, 4, 5] rfl) h
      · have h := ife_t c_4 h
        exact hJ16 _ _ _ hP hS (lv_sub hl [1, 2] rfl) h
noncomputable def FX7_rivals (a1 : Int32) (a2 : Int32) (M : (Nat → Nat → Int32)) : Option (Int32 × (Nat → Nat → Int32)) :=
  bo (FX1_hasOpinion 3 a1 M) (fun (r_1 : Int32) => (if r_1 = 0 then some ((-1000000001), M) else (if a2 < 1 then some ((-1000000002), M) else (if a2 ≤ 4 then bo (FX3_copyFrom 20 17 M) (fun (M_5 : (Nat → Nat → Int32)) => bd (FX7_rivalsEnd 8 3 20 a1 0 a2 (M_5 17 2) M_5) (fun (r_6 : Int32) (M_7 : (Nat → Nat → Int32)) => some (r_6, M_7))) else some ((-1000000002), M)))))
set_option maxHeartbeats 4000000 in
set_option maxRecDepth 100000 in
theorem tX7_rivals (l : Launch) (dC : Nat → ClassId) (dI : Nat → Nat → Nat) (kI : ClassId) (ad : Nat → Nat) (a1 : Int32) (a2 : Int32) (M : (Nat → Nat → Int32))  {r0 : Int32} {M0 : (Nat → Nat → Int32)} (h : FX7_rivals a1 a2 M = some (r0, M0)) : Met l yX7_rivals (wsA yX7_rivals cX7_rivals 3 (some .int)) ({ frames := 11, cells := 0, slots := 0, locals := 339 } : Room) (va_Pc [.ref (ad (0)), .int (a1), .int (a2)] (gI (x_Wd dC dI kI ad) (x_Kn dC dI kI ad) M)) (va_Qi (fun (r : Int32) (u : (Nat → Nat → Int32)) => r = r0 ∧ u = M0) (gI (x_Wd dC dI kI ad) (x_Kn dC dI kI ad)) (x_A ad)) 0 0 (x_A ad) := by
  refine Met.ofW (cc := cX7_rivals) (maxL := 3) (ret := (some .int)) (by decide) rfl ?_
  intro p e s m args below meth c s₁ B hml hv
  obtain ⟨rfl, hP, hKn⟩ := hv
  have hx := B.exec
  have hb := B.bytes
  have hr := B.returns
  have hts := atoms_spec (ws := wsA yX7_rivals cX7_rivals 3 (some .int)) B.pre
  have hg : ∀ w ∈ lw_good, w.before _ s = true := fun w h => hts w (List.mem_cons_of_mem _ h)
  have hown : s.vm.findClass RX7 = some m.cls := findClass_of_methodNamed B.named
  have hlocks := B.notSynchronized
  have hS : va_S (x_A ad) s.heap s.heap [] := va_S.rf
  have hFx : gFix p c cX7_rivals 3 s m _ RX7 := ⟨hx, hb, hml, hown, hg⟩
  have hP : va_P (dC, dI) vwCl (x_w kI ad M) s.heap := hP
  have hl := lv_entry ([.ref (ad (0)), .int (a1), .int (a2)]) (n := 3) (Nat.le_of_ble_eq_true rfl)
  rw [lg_entry_eq]
  generalize (lg_sl ([.ref (ad (0)), .int (a1), .int (a2)]) ++ List.replicate (3 - (lg_sl ([.ref (ad (0)), .int (a1), .int (a2)])).length) Slot.unset).toArray = ls at hl ⊢
  have hl : lv_has ls 3 [(0, .ref (ad (0))), (1, .int (a1)), (2, .int (a2))] := hl
  unfold FX7_rivals at h
  refine lv_aload_n hx hb dX7_rivals_0 rfl (lv_at hl 0 rfl) ?_
  refine va_get (D := (dC, dI)) (ci := 7) (v := .ref (ad (3))) (C := RX7) (T := TX7) (N := 14) hx hb hg inX7 hown hKn.1 hP (0) (x_at7 (c := 0) (by decide)) rfl 1 (Nat.le_of_ble_eq_true rfl) (hg _ lkF_X7_19) (fun _ h9 => h9) rfl dX7_rivals_1 ?_
  refine lv_iload_n hx hb dX7_rivals_4 rfl (lv_at hl 1 rfl) ?_
  obtain ⟨r_1, e5, h⟩ := bo_use h
  refine gc_i (va_runVN (As := [.int (a1)]) (rest := []) hFx (tX1_hasOpinion l dC dI kI ad 3 a1 M (by decide) e5) ⟨(gc_N hFx hKn.2.2 ck_yX1_hasOpinion nkM_X7_139 ⟨Nat.le_of_ble_eq_true rfl, Nat.le_of_ble_eq_true rfl⟩ rfl rfl), hg _ vi_yX1_hasOpinion, hg _ vs_yX1_hasOpinion⟩ (gp_V x_KnB (x_KnW hKn) hP (x_rc1 (c := 3) (by decide) hKn hP)) rfl rfl hl.1 rfl (lv_room (Nat.le_of_ble_eq_true rfl)) dX7_rivals_5 ⟨Nat.zero_le _, Nat.zero_le _⟩) hS (fun H locs hP hS => ?_)
  have hP : va_P (dC, dI) vwCl (x_w kI ad M) H := hP
  refine lv_if_ne (tgt := 14) hx hb dX7_rivals_8 (by decide) (fun c_2 => ?_) (fun c_2 => ?_)
  · have h := ife_f c_2 h
    refine lv_iload_n hx hb dX7_rivals_14 rfl (lv_at hl 2 rfl) ?_
    refine lv_iconst (v := 1) hx hb dX7_rivals_15 (by decide) ?_
    refine lv_icmp_lt (tgt := 24) hx hb dX7_rivals_16 (by decide) (fun c_3 => ?_) (fun c_3 => ?_)
    · have h := ife_t c_3 h
      refine lv_ldc hx hb hown (hg _ kc_X7_83) dX7_rivals_24 ?_
      exact W.iret (v := (-1000000002)) hx hb hr (fun t ht hW => ⟨⟨(-1000000002), M, rfl, Prod.mk.inj (Option.some.inj h), by rw [ht]; exact hP, x_KnW hKn t hW⟩, hS.F ht⟩) hS.2.2 dX7_rivals_26
    · have h := ife_f c_3 h
      refine lv_iload_n hx hb dX7_rivals_19 rfl (lv_at hl 2 rfl) ?_
      refine lv_iconst (v := 4) hx hb dX7_rivals_20 (by decide) ?_
      refine lv_icmp_le (tgt := 27) hx hb dX7_rivals_21 (by decide) (fun c_4 => ?_) (fun c_4 => ?_)
      · have h := ife_t c_4 h
        refine lv_aload_n hx hb dX7_rivals_27 rfl (lv_at hl 0 rfl) ?_
        refine va_get (D := (dC, dI)) (ci := 7) (v := .ref (ad (20))) (C := RX7) (T := TX7) (N := 14) hx hb hg inX7 hown hKn.1 hP (0) (x_at7 (c := 0) (by decide)) rfl 4 (Nat.le_of_ble_eq_true rfl) (hg _ lkF_X7_33) (fun _ h9 => h9) rfl dX7_rivals_28 ?_
        refine lv_aload_n hx hb dX7_rivals_31 rfl (lv_at hl 0 rfl) ?_
        refine va_get (D := (dC, dI)) (ci := 7) (v := .ref (ad (17))) (C := RX7) (T := TX7) (N := 14) hx hb hg inX7 hown hKn.1 hP (0) (x_at7 (c := 0) (by decide)) rfl 3 (Nat.le_of_ble_eq_true rfl) (hg _ lkF_X7_29) (fun _ h9 => h9) rfl dX7_rivals_32 ?_
        obtain ⟨M_5, e35, h⟩ := bo_use h
        refine gc_v (va_runVN (As := [.ref (ad (17))]) (rest := []) hFx (tX3_copyFrom l dC dI kI ad 20 17 M (by decide) (by decide) e35) ⟨(gc_N hFx hKn.2.2 ck_yX3_copyFrom nkM_X7_210 ⟨Nat.le_of_ble_eq_true rfl, Nat.le_of_ble_eq_true rfl⟩ rfl rfl), hg _ vi_yX3_copyFrom, hg _ vs_yX3_copyFrom⟩ (gp_V x_KnB (x_KnW hKn) hP (x_rc3 (c := 20) (by decide) hKn hP)) rfl rfl hl.1 rfl (lv_room (Nat.le_of_ble_eq_true rfl)) dX7_rivals_35 ⟨Nat.zero_le _, Nat.zero_le _⟩) hS (fun H locs hP hS => ?_)
        have hP : va_P (dC, dI) vwCl (x_w kI ad M_5) H := hP
        refine lv_aload_n hx hb dX7_rivals_38 rfl (lv_at hl 0 rfl) ?_
        refine va_get (D := (dC, dI)) (ci := 7) (v := .ref (ad (3))) (C := RX7) (T := TX7) (N := 14) hx hb hg inX7 hown hKn.1 hP (0) (x_at7 (c := 0) (by decide)) rfl 1 (Nat.le_of_ble_eq_true rfl) (hg _ lkF_X7_19) (fun _ h9 => h9) rfl dX7_rivals_39 ?_
        refine lv_aload_n hx hb dX7_rivals_42 rfl (lv_at hl 0 rfl) ?_
        refine va_get (D := (dC, dI)) (ci := 7) (v := .ref (ad (20))) (C := RX7) (T := TX7) (N := 14) hx hb hg inX7 hown hKn.1 hP (0) (x_at7 (c := 0) (by decide)) rfl 4 (Nat.le_of_ble_eq_true rfl) (hg _ lkF_X7_33) (fun _ h9 => h9) rfl dX7_rivals_43 ?_
        refine lv_iload_n hx hb dX7_rivals_46 rfl (lv_at hl 1 rfl) ?_
        refine lv_iconst (v := 0) hx hb dX7_rivals_47 (by decide) ?_
        refine lv_iload_n hx hb dX7_rivals_48 rfl (lv_at hl 2 rfl) ?_
        refine lv_aload_n hx hb dX7_rivals_49 rfl (lv_at hl 0 rfl) ?_
        refine va_get (D := (dC, dI)) (ci := 7) (v := .ref (ad (17))) (C := RX7) (T := TX7) (N := 14) hx hb hg inX7 hown hKn.1 hP (0) (x_at7 (c := 0) (by decide)) rfl 3 (Nat.le_of_ble_eq_true rfl) (hg _ lkF_X7_29) (fun _ h9 => h9) rfl dX7_rivals_50 ?_
        refine va_getN (D := (dC, dI)) (ci := 3) (v := .int ((M_5 17 2))) (C := RX3) (T := TX3) (N := 6) hx hb hg inX3 hown hKn.1 hP (17) (x_at3 (c := 17) (by decide)) rfl 2 (Nat.le_of_ble_eq_true rfl) (nest_use hKn.2.2 nkF_X7_131) (fun _ h9 => h9) rfl dX7_rivals_53 ?_
        obtain ⟨r_6, M_7, e56, h⟩ := bd_use h
        refine gc_i (va_runS (As := [.ref (ad (3)), .ref (ad (20)), .int (a1), .int (0), .int (a2), .int ((M_5 17 2))]) (rest := []) hFx (tX7_rivalsEnd l dC dI kI ad 8 3 20 a1 0 a2 (M_5 17 2) M_5 (by decide) (by decide) e56) ⟨(gc_B hFx ck_yX7_rivalsEnd lkM_X7_238 ⟨Nat.le_of_ble_eq_true rfl, Nat.le_of_ble_eq_true rfl⟩ rfl rfl), hg _ st_yX7_rivalsEnd⟩ (gp_S x_KnB (x_KnW hKn) hP) rfl rfl hl.1 rfl (lv_room (Nat.le_of_ble_eq_true rfl)) dX7_rivals_56 ⟨Nat.zero_le _, Nat.zero_le _⟩) hS (fun H locs hP hS => ?_)
        have hP : va_P (dC, dI) vwCl (x_w kI ad M_7) H := hP
        exact W.iret (v := r_6) hx hb hr (fun t ht hW => ⟨⟨r_6, M_7, rfl, Prod.mk.inj (Option.some.inj h), by rw [ht]; exact hP, x_KnW hKn t hW⟩, hS.F ht⟩) hS.2.2 dX7_rivals_59
      · have h := ife_f c_4 h
        refine lv_ldc hx hb hown (hg _ kc_X7_83) dX7_rivals_24 ?_
        exact W.iret (v := (-1000000002)) hx hb hr (fun t ht hW => ⟨⟨(-1000000002), M, rfl, Prod.mk.inj (Option.some.inj h), by rw [ht]; exact hP, x_KnW hKn t hW⟩, hS.F ht⟩) hS.2.2 dX7_rivals_26
  · have h := ife_t c_2 h
    refine lv_ldc hx hb hown (hg _ kc_X7_149) dX7_rivals_11 ?_
    exact W.iret (v := (-1000000001)) hx hb hr (fun t ht hW => ⟨⟨(-1000000001), M, rfl, Prod.mk.inj (Option.some.inj h), by rw [ht]; exact hP, x_KnW hKn t hW⟩, hS.F ht⟩) hS.2.2 dX7_rivals_13
