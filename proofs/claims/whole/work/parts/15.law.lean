-- ===== end of PART A; then your names; then what follows =====
/-! THE CLAIM OUT OF ONE WALK OF THE LAW'S BODY. Your part is whole_start (and what it stands on); all else here is the same for every law, but numbers. -/
def R_law : String := "SingleCopyLaw"
def lw_P (b : Addr) (xs : List Int32) (args : Array Value) (s : State) : Prop := args = #[.ref b] ∧ s.IntsAt b xs ∧ xs.length ≤ 256 ∧ (Jvm.Cond.and given_1 narrow_1).before args s = true
def lw_Q (_ : Array Value) (s : State) (o : Outcome) (t : State) : Prop := o = .returned (some (.int 1)) ∧ Framed s o t [] 600000 7302250
def lw_Z (below : List Frame) (a : Array Value) (s : State) : State → Prop := fun t => ∃ o, t.status = .running ∧ Ended t below o ∧ lw_Q a s o t
/-- the law's own end, with 1 on the stack, nothing written that was there before, its room as the claim has it -/
theorem lw_ret {p : Program} {l : Launch} {e : Env} {s : State} {m : MethodId} {below : List Frame} {meth : Method} {c : Code} {b : Nat} (hx : p.tables.exec = Jvm.exec) (hb : c.code = code) (hr : meth.sig.returnType = ret) (hlocks : meth.locks = false) {pc : Nat} {H : Heap} {ls : Array Slot} (hdg : decode code pc = .ok (.ireturn, 1)) : W p l e room_1 s m #[Value.ref b] below meth c H [] 600000 7302250 (lw_Z below #[Value.ref b] s) (F0 m pc ls [.int 1]) := by
  intro T hT X
  obtain ⟨fs, hret, hrun, hended, hW, hframe⟩ := X.leave (v := some (.int 1)) (hlocks := hlocks) (fun h => by rw [hr] at h; cases h)
  have hmeth' : T.vm.method? m = some meth := X.method'
  refine ⟨T.setFrames fs, ?_, .returned (some (.int 1)), hrun, hended, rfl, ⟨_, rfl⟩, hW, hframe⟩
  jvm_step X.here [X.here.top, hx, hb, hdg, hmeth', hr, ret, narrow_b1]
  (try refine ⟨rfl, ?_⟩); (try refine ⟨rfl, ?_⟩)
  first | (intro acts; rw [hret _ acts rfl rfl rfl]) | rw [hret _ _ rfl rfl rfl]
  exact Steps.refl _
/-- what holds at the law's entry: the machine, the code, the tables' words (any of lw_tbl by 'hts w (by decide +kernel)'), the script of L ints xs at the cell b, what the Statement gives of the start (any of its parts by flat_of_before) -/
def lw_At (p : Program) (s : State) (m : MethodId) (meth : Method) (c : Code) (b L : Nat) (xs : Nat → Int32) : Prop :=
  p.tables.exec = Jvm.exec ∧ c.code = code ∧ meth.sig.returnType = ret ∧ c.maxLocals = 4 ∧ s.vm.findClass R_law = some m.cls ∧ (∀ w ∈ lw_tbl, w.before #[Value.ref b] s = true) ∧ va_X b L xs s s.heap ∧ b < s.heap.size ∧ meth.locks = false ∧ (Jvm.Cond.and given_1 narrow_1).before #[Value.ref b] s = true

theorem vP_l {D : va_G} {cl : List vw_C} {a b : va_W} {H : Heap} (h : va_P D cl (a ++ b) H) : va_P D cl a H := fun k q hq => h k q (by rw [List.getElem?_append_left (List.getElem?_eq_some_iff.mp hq).1]; exact hq)
theorem vP_g {a b : va_W} {k : Nat} {q : Nat × va_E} (hq : b[k]? = some q) : (a ++ b)[a.length + k]? = some q := by rw [List.getElem?_append_right (Nat.le_add_right _ _), Nat.add_sub_cancel_left]; exact hq
theorem vP_r {D : va_G} {cl : List vw_C} {a b : va_W} {H : Heap} (h : va_P D cl (a ++ b) H) : va_P D cl b H := fun k q hq => h (a.length + k) q (vP_g hq)
theorem gl_x {p : Program} {l : Launch} {e : Env} {R : Room} {s : State} {m : MethodId} {args : Array Value} {below : List Frame} {meth : Method} {c : Code} {H : Heap} {locs : List Loc} {cells slots : Nat} {Q : State → Prop} {pc : Nat} {ls : Array Slot} {rest st0 : List Value} {dC : Nat → ClassId} {dI : Nat → Nat → Nat} {kI kZ : ClassId} {ad ad2 : Nat → Nat} {B : Nat → Prop} {H0 : Heap} {a : Array Value} {r0 : Int32} {M1 : Nat → Nat → Int32} {Mm : MM} (hr : va_Run p l e R s m args below meth c H locs cells slots 0 0 (F0 m pc ls st0) rest (va_Qi (fun (r : Int32) (u : Nat → Nat → Int32) => r = r0 ∧ u = M1) (gI (x_Wd dC dI kI ad) (x_Kn dC dI kI ad)) (x_A ad) a) (x_A ad)) (hS : va_S B H0 H locs) (hxB : ∀ q, x_A ad q → B q) (hm : va_P (dC, dI) vwCl (m_w kI kZ ad2 Mm.1 Mm.2) H) (dis : ∀ i, i < 16 → ¬ x_A ad (ad2 i)) (kk : ∀ (H : Heap) (locs : List Loc), va_P (dC, dI) vwCl (x_w kI ad M1) H → va_P (dC, dI) vwCl (m_w kI kZ ad2 Mm.1 Mm.2) H → va_S B H0 H locs → W p l e R s m args below meth c H locs cells slots Q (F0 m (pc + 3) ls (.int r0 :: rest))) : W p l e R s m args below meth c H locs cells slots Q (F0 m pc ls st0) :=
  va_calli hr hS (fun q _ h => hxB q h) hxB (fun r u t H1 locs1 ht _ hw hB _ hk hS1 => by
    obtain ⟨rfl, rfl⟩ := hw
    refine kk H1 locs1 (ht ▸ hB.1) (hm.kept fun k q hq => ?_) hS1
    have h1 := (hm k q hq).lt
    rcases Nat.lt_or_ge k 16 with z | z
    · rw [m_at z] at hq
      cases hq
      exact hk _ h1 (dis k z)
    · rw [List.getElem?_eq_none (by simp [m_w]; exact z)] at hq
      cases hq)
theorem gl_m {p : Program} {l : Launch} {e : Env} {R : Room} {s : State} {m : MethodId} {args : Array Value} {below : List Frame} {meth : Method} {c : Code} {H : Heap} {locs : List Loc} {cells slots : Nat} {Q : State → Prop} {pc : Nat} {ls : Array Slot} {rest st0 : List Value} {dC : Nat → ClassId} {dI : Nat → Nat → Nat} {kI kZ : ClassId} {ad ad2 : Nat → Nat} {B : Nat → Prop} {H0 : Heap} {a : Array Value} {r0 : Int32} {Mx : Nat → Nat → Int32} {M1 : MM} (hr : va_Run p l e R s m args below meth c H locs cells slots 0 0 (F0 m pc ls st0) rest (va_Qi (fun (r : Int32) (u : MM) => r = r0 ∧ u = M1) (gI (m_Wd dC dI kI kZ ad2) (m_Kn dC dI kI kZ ad2)) (m_A ad2) a) (m_A ad2)) (hS : va_S B H0 H locs) (hxB : ∀ q, m_A ad2 q → B q) (hm : va_P (dC, dI) vwCl (x_w kI ad Mx) H) (dis : ∀ i, i < 39 → ¬ m_A ad2 (ad i)) (kk : ∀ (H : Heap) (locs : List Loc), va_P (dC, dI) vwCl (x_w kI ad Mx) H → va_P (dC, dI) vwCl (m_w kI kZ ad2 M1.1 M1.2) H → va_S B H0 H locs → W p l e R s m args below meth c H locs cells slots Q (F0 m (pc + 3) ls (.int r0 :: rest))) : W p l e R s m args below meth c H locs cells slots Q (F0 m pc ls st0) :=
  va_calli hr hS (fun q _ h => hxB q h) hxB (fun r u t H1 locs1 ht _ hw hB _ hk hS1 => by
    obtain ⟨rfl, rfl⟩ := hw
    refine kk H1 locs1 (hm.kept fun k q hq => ?_) (ht ▸ hB.1) hS1
    have h1 := (hm k q hq).lt
    rcases Nat.lt_or_ge k 39 with z | z
    · rw [x_at z] at hq
      cases hq
      exact hk _ h1 (dis k z)
    · rw [List.getElem?_eq_none (by simp [x_w]; exact z)] at hq
      cases hq)
theorem law_bd {j L : Nat} (hL : L ≤ 256) (hj : j ≤ L) (c : ¬ (Int32.ofNat L - 4 < nI j)) : j + 4 ≤ L := by
  have h1 : (nI L - nI 4).toInt = (L : Int) - (4 : Nat) := pk_sub_toInt (by omega) (by omega)
  have h2 : (nI j).toInt = (j : Int) := nI_toInt (by omega)
  have h3 : ¬ (nI L - nI 4).toInt < (nI j).toInt := fun q => c (Int32.lt_iff_toInt_lt.mpr q)
  rw [h1, h2] at h3
  omega
theorem law_kI {s : State} {args : Array Value} (hg : ∀ w ∈ lw_good, w.before args s = true) : ∃ kI kZ : ClassId, (ArrOfT s kI .int ∧ va_RA s kI .int) ∧ (ArrOfT s kZ .boolean ∧ va_RA s kZ .boolean) := by
  obtain ⟨cA, kA, comp, h1, h2, h3⟩ := Cond.arrayClass_spec (hg _ ac_I)
  obtain ⟨cB, kB, comB, g1, g2, g3⟩ := Cond.arrayClass_spec (hg _ ac_Z)
  exact ⟨cA, cB, ⟨fun n z => ⟨fun k h => (by cases h), kA, h2, comp, h3⟩, h1⟩, ⟨fun n z => ⟨fun k h => (by cases h), kB, g2, comB, g3⟩, g1⟩⟩
def Sim_feed (RR : (Nat → Nat → Int32) → MM → Prop) : Prop := ∀ (Mx : Nat → Nat → Int32) (Mm : MM), RR Mx Mm → ∀ (a : Int32), ∃ (r : Int32) (Mx2 : Nat → Nat → Int32) (Mm2 : MM), FX7_feed a Mx = some (r, Mx2) ∧ FX8_feed a Mm = some (r, Mm2) ∧ RR Mx2 Mm2
def Sim_city (RR : (Nat → Nat → Int32) → MM → Prop) : Prop := ∀ (Mx : Nat → Nat → Int32) (Mm : MM), RR Mx Mm → ∃ (r : Int32) (Mx2 : Nat → Nat → Int32) (Mm2 : MM), FX7_city  Mx = some (r, Mx2) ∧ FX8_city  Mm = some (r, Mm2) ∧ RR Mx2 Mm2
def Sim_fault (RR : (Nat → Nat → Int32) → MM → Prop) : Prop := ∀ (Mx : Nat → Nat → Int32) (Mm : MM), RR Mx Mm → ∃ r : Int32, FX7_fault  Mx = some r ∧ FX8_fault  Mm = some r
def Sim_told (RR : (Nat → Nat → Int32) → MM → Prop) : Prop := ∀ (Mx : Nat → Nat → Int32) (Mm : MM), RR Mx Mm → ∀ (a : Int32), ∃ r : Int32, FX7_told a Mx = some r ∧ FX8_told a Mm = some r
def Sim_belief (RR : (Nat → Nat → Int32) → MM → Prop) : Prop := ∀ (Mx : Nat → Nat → Int32) (Mm : MM), RR Mx Mm → ∀ (a : Int32), ∃ r : Int32, FX7_belief a Mx = some r ∧ FX8_belief a Mm = some r
def Sim_fact (RR : (Nat → Nat → Int32) → MM → Prop) : Prop := ∀ (Mx : Nat → Nat → Int32) (Mm : MM), RR Mx Mm → ∀ (a b : Int32), ∃ r : Int32, FX7_fact a b Mx = some r ∧ FX8_fact a b Mm = some r
def Sim_night (RR : (Nat → Nat → Int32) → MM → Prop) : Prop := ∀ (Mx : Nat → Nat → Int32) (Mm : MM), RR Mx Mm → ∀ (a : Int32), ∃ (r : Int32) (Mx2 : Nat → Nat → Int32) (Mm2 : MM), FX7_night a Mx = some (r, Mx2) ∧ FX8_night a Mm = some (r, Mm2) ∧ RR Mx2 Mm2
def Sim_meet (RR : (Nat → Nat → Int32) → MM → Prop) : Prop := ∀ (Mx : Nat → Nat → Int32) (Mm : MM), RR Mx Mm → ∀ (a b : Int32), ∃ (r : Int32) (Mx2 : Nat → Nat → Int32) (Mm2 : MM), FX7_meet a b Mx = some (r, Mx2) ∧ FX8_meet a b Mm = some (r, Mm2) ∧ RR Mx2 Mm2
def Sim_make (RR : (Nat → Nat → Int32) → MM → Prop) : Prop := ∀ (Mx : Nat → Nat → Int32) (Mm : MM), RR Mx Mm → ∀ (a : Int32), ∃ (r : Int32) (Mx2 : Nat → Nat → Int32) (Mm2 : MM), FX7_make a Mx = some (r, Mx2) ∧ FX8_make a Mm = some (r, Mm2) ∧ RR Mx2 Mm2
def Sim_drift (RR : (Nat → Nat → Int32) → MM → Prop) : Prop := ∀ (Mx : Nat → Nat → Int32) (Mm : MM), RR Mx Mm → ∀ (a : Int32), ∃ (r : Int32) (Mx2 : Nat → Nat → Int32) (Mm2 : MM), FX7_drift a Mx = some (r, Mx2) ∧ FX8_drift a Mm = some (r, Mm2) ∧ RR Mx2 Mm2
def Sim_undo (RR : (Nat → Nat → Int32) → MM → Prop) : Prop := ∀ (Mx : Nat → Nat → Int32) (Mm : MM), RR Mx Mm → ∃ (r : Int32) (Mx2 : Nat → Nat → Int32) (Mm2 : MM), FX7_undo  Mx = some (r, Mx2) ∧ FX8_undo  Mm = some (r, Mm2) ∧ RR Mx2 Mm2
def Sim_thinks (RR : (Nat → Nat → Int32) → MM → Prop) : Prop := ∀ (Mx : Nat → Nat → Int32) (Mm : MM), RR Mx Mm → ∀ (a b : Int32), ∃ (r : Int32) (Mx2 : Nat → Nat → Int32) (Mm2 : MM), FX7_thinks a b Mx = some (r, Mx2) ∧ FX8_thinks a b Mm = some (r, Mm2) ∧ RR Mx2 Mm2
def Sim_soonest (RR : (Nat → Nat → Int32) → MM → Prop) : Prop := ∀ (Mx : Nat → Nat → Int32) (Mm : MM), RR Mx Mm → ∀ (a b c : Int32), ∃ (r : Int32) (Mx2 : Nat → Nat → Int32) (Mm2 : MM), FX7_soonest a b c Mx = some (r, Mx2) ∧ FX8_soonest a b c Mm = some (r, Mm2) ∧ RR Mx2 Mm2
def Sim_cannot (RR : (Nat → Nat → Int32) → MM → Prop) : Prop := ∀ (Mx : Nat → Nat → Int32) (Mm : MM), RR Mx Mm → ∃ (r : Int32) (Mx2 : Nat → Nat → Int32) (Mm2 : MM), FX7_cannot  Mx = some (r, Mx2) ∧ FX8_cannot  Mm = some (r, Mm2) ∧ RR Mx2 Mm2
def Sim_least (RR : (Nat → Nat → Int32) → MM → Prop) : Prop := ∀ (Mx : Nat → Nat → Int32) (Mm : MM), RR Mx Mm → ∀ (a b : Int32), ∃ (r : Int32) (Mx2 : Nat → Nat → Int32) (Mm2 : MM), FX7_least a b Mx = some (r, Mx2) ∧ FX8_least a b Mm = some (r, Mm2) ∧ RR Mx2 Mm2
def Sim_rivals (RR : (Nat → Nat → Int32) → MM → Prop) : Prop := ∀ (Mx : Nat → Nat → Int32) (Mm : MM), RR Mx Mm → ∀ (a b : Int32), ∃ (r : Int32) (Mx2 : Nat → Nat → Int32) (Mm2 : MM), FX7_rivals a b Mx = some (r, Mx2) ∧ FX8_rivals a b Mm = some (r, Mm2) ∧ RR Mx2 Mm2
def Sim_shun (RR : (Nat → Nat → Int32) → MM → Prop) : Prop := ∀ (Mx : Nat → Nat → Int32) (Mm : MM), RR Mx Mm → ∀ (a b : Int32), ∃ r : Int32, FX7_shun a b Mx = some r ∧ FX8_shun a b Mm = some r
def Sim_holds (RR : (Nat → Nat → Int32) → MM → Prop) : Prop := ∀ (Mx : Nat → Nat → Int32) (Mm : MM), RR Mx Mm → ∀ (a b : Int32), ∃ r : Int32, FX7_holds a b = some r ∧ FX8_holds a b = some r
def Sim_worn (RR : (Nat → Nat → Int32) → MM → Prop) : Prop := ∀ (Mx : Nat → Nat → Int32) (Mm : MM), RR Mx Mm → ∃ r : Int32, FX7_worn  Mx = some r ∧ FX8_worn  Mm = some r
def Sim_thought (RR : (Nat → Nat → Int32) → MM → Prop) : Prop := ∀ (Mx : Nat → Nat → Int32) (Mm : MM), RR Mx Mm → ∀ (a b : Int32), ∃ (r : Int32) (Mx2 : Nat → Nat → Int32) (Mm2 : MM), FX7_thought a b Mx = some (r, Mx2) ∧ FX8_thought a b Mm = some (r, Mm2) ∧ RR Mx2 Mm2
def Sim_leftOut (RR : (Nat → Nat → Int32) → MM → Prop) : Prop := ∀ (Mx : Nat → Nat → Int32) (Mm : MM), RR Mx Mm → ∀ (a : Int32), ∃ (r : Int32) (Mx2 : Nat → Nat → Int32) (Mm2 : MM), FX7_leftOut a Mx = some (r, Mx2) ∧ FX8_leftOut a Mm = some (r, Mm2) ∧ RR Mx2 Mm2
def Sim_strengths (RR : (Nat → Nat → Int32) → MM → Prop) : Prop := ∀ (Mx : Nat → Nat → Int32) (Mm : MM), RR Mx Mm → ∀ (a b : Int32), ∃ (r : Int32) (Mx2 : Nat → Nat → Int32) (Mm2 : MM), FX7_strengths a b Mx = some (r, Mx2) ∧ FX8_strengths a b Mm = some (r, Mm2) ∧ RR Mx2 Mm2
def Sim_write (RR : (Nat → Nat → Int32) → MM → Prop) : Prop := ∀ (Mx : Nat → Nat → Int32) (Mm : MM), RR Mx Mm → ∀ (a b : Int32), ∃ (r : Int32) (Mx2 : Nat → Nat → Int32) (Mm2 : MM), FX7_write a b Mx = some (r, Mx2) ∧ FX8_write a b Mm = some (r, Mm2) ∧ RR Mx2 Mm2
def Sim_tear (RR : (Nat → Nat → Int32) → MM → Prop) : Prop := ∀ (Mx : Nat → Nat → Int32) (Mm : MM), RR Mx Mm → ∃ (r : Int32) (Mx2 : Nat → Nat → Int32) (Mm2 : MM), FX7_tear  Mx = some (r, Mx2) ∧ FX8_tear  Mm = some (r, Mm2) ∧ RR Mx2 Mm2
def Sim_judge (RR : (Nat → Nat → Int32) → MM → Prop) : Prop := ∀ (Mx : Nat → Nat → Int32) (Mm : MM), RR Mx Mm → ∃ r : Int32, FX7_judge  Mx = some r ∧ FX8_judge  Mm = some r
def Sim_seed (RR : (Nat → Nat → Int32) → MM → Prop) : Prop := ∀ (Mx : Nat → Nat → Int32) (Mm : MM), RR Mx Mm → ∀ (a : Int32), ∃ (r : Int32) (Mx2 : Nat → Nat → Int32) (Mm2 : MM), FX7_seed a Mx = some (r, Mx2) ∧ FX8_seed a Mm = some (r, Mm2) ∧ RR Mx2 Mm2
def Sim_keep (RR : (Nat → Nat → Int32) → MM → Prop) : Prop := ∀ (Mx : Nat → Nat → Int32) (Mm : MM), RR Mx Mm → ∀ (a : Int32), ∃ (r : Int32) (Mx2 : Nat → Nat → Int32) (Mm2 : MM), FX7_keep a Mx = some (r, Mx2) ∧ FX8_keep a Mm = some (r, Mm2) ∧ RR Mx2 Mm2
def Sim_goBack (RR : (Nat → Nat → Int32) → MM → Prop) : Prop := ∀ (Mx : Nat → Nat → Int32) (Mm : MM), RR Mx Mm → ∀ (a : Int32), ∃ (r : Int32) (Mx2 : Nat → Nat → Int32) (Mm2 : MM), FX7_goBack a Mx = some (r, Mx2) ∧ FX8_goBack a Mm = some (r, Mm2) ∧ RR Mx2 Mm2
def SimAll (RR : (Nat → Nat → Int32) → MM → Prop) : Prop := Sim_feed RR ∧ Sim_city RR ∧ Sim_fault RR ∧ Sim_told RR ∧ Sim_belief RR ∧ Sim_fact RR ∧ Sim_night RR ∧ Sim_meet RR ∧ Sim_make RR ∧ Sim_drift RR ∧ Sim_undo RR ∧ Sim_thinks RR ∧ Sim_soonest RR ∧ Sim_cannot RR ∧ Sim_least RR ∧ Sim_rivals RR ∧ Sim_shun RR ∧ Sim_holds RR ∧ Sim_worn RR ∧ Sim_thought RR ∧ Sim_leftOut RR ∧ Sim_strengths RR ∧ Sim_write RR ∧ Sim_tear RR ∧ Sim_judge RR ∧ Sim_seed RR ∧ Sim_keep RR ∧ Sim_goBack RR
set_option maxHeartbeats 40000000 in
set_option maxRecDepth 100000 in
theorem law_loop {p : Program} {e : Env} {s : State} {m : MethodId} {below : List Frame} {meth : Method} {c : Code} (l : Launch) {b L : Nat} {xs : Nat → Int32} (hL : L ≤ 256) (C0 : lw_At p s m meth c b L xs) (RR : (Nat → Nat → Int32) → MM → Prop) (SA : SimAll RR) {dC : Nat → ClassId} {dI : Nat → Nat → Nat} {kI kZ : ClassId} {ad ad2 : Nat → Nat} (hKx : x_Kn dC dI kI ad s) (hKm : m_Kn dC dI kI kZ ad2 s) (hxB : ∀ q, x_A ad q → s.heap.size ≤ q) (hmB : ∀ q, m_A ad2 q → s.heap.size ≤ q) (dx : ∀ i, i < 16 → ¬ x_A ad (ad2 i)) (dm : ∀ i, i < 39 → ¬ m_A ad2 (ad i)) : ∀ (n j : Nat) (i3 : Int32) (Mx : Nat → Nat → Int32) (Mm : MM) (H : Heap) (locs : List Loc) (ls : Array Slot), j ≤ L → L < j + n → i3 = nI j → RR Mx Mm → va_P (dC, dI) vwCl (x_w kI ad Mx) H → va_P (dC, dI) vwCl (m_w kI kZ ad2 Mm.1 Mm.2) H → va_S (fun q : Nat => s.heap.size ≤ q) s.heap H locs → lv_has ls 4 [(0, .ref b), (1, .ref (ad 0)), (2, .ref (ad2 0)), (3, .int i3)] → W p l e room_1 s m #[Value.ref b] below meth c H locs 55 1800 (lw_Z below #[Value.ref b] s) (F0 m 18 ls []) := by
  obtain ⟨hx, hb, hr, hml, hown, hts, hX, hbl, hlocks, hgv⟩ := id C0
  have hown : s.vm.findClass RL = some m.cls := hown
  have hg : ∀ w ∈ lw_good, w.before #[Value.ref b] s = true := fun w h => hts w (List.mem_filter.mp h).1
  have hFx : gFix p c code 4 s m #[Value.ref b] RL := ⟨hx, hb, hml, hown, hg⟩
  have hbA : ¬ (fun q : Nat => s.heap.size ≤ q) b := Nat.not_le.mpr hbl
  obtain ⟨s_feed, s_city, s_fault, s_told, s_belief, s_fact, s_night, s_meet, s_make, s_drift, s_undo, s_thinks, s_soonest, s_cannot, s_least, s_rivals, s_shun, s_holds, s_worn, s_thought, s_leftOut, s_strengths, s_write, s_tear, s_judge, s_seed, s_keep, s_goBack⟩ := SA
  intro n
  induction n with
  | zero => intro j i3 Mx Mm H locs ls hj hn; omega
  | succ n ih =>
    intro j i3 Mx Mm H locs ls hj hn e3 hR hPx hPm hS hl
    refine lv_iload_n hx hb dL_law_18 rfl (lv_at hl 3 rfl) ?_
    refine lv_aload_n hx hb dL_law_19 rfl (lv_at hl 0 rfl) ?_
    refine va_slen hx hb hX hbl hbA hS dL_law_20 ?_
    refine lv_iconst (v := 4) hx hb dL_law_21 (by decide) ?_
    refine lv_isub hx hb dL_law_22 ?_
    refine lv_icmp_gt (tgt := 860) hx hb dL_law_23 (by decide) (fun c_0 => ?_) (fun c_0 => ?_)
    · refine lv_iconst (v := 1) hx hb dL_law_860 (by decide) ?_
      refine va_forget (fun q h => hS.2.2 q h) ?_
      refine W.widen (k := 600000) (n := 7302250) (Nat.le_of_ble_eq_true rfl) (Nat.le_of_ble_eq_true rfl) ?_
      exact lw_ret hx hb hr hlocks dL_law_861
    · have hj4 : j + 4 ≤ L := law_bd hL hj (by rw [← e3]; exact c_0)
      have v0 : vp_in i3 L := by rw [e3]; exact vp_in_nI (by omega) (by omega)
      have e31 : i3 + 1 = nI (j + 1) := by rw [e3]; exact nI_1 j
      have e32 : i3 + 2 = nI (j + 2) := by rw [e3]; exact nI_add j 2
      have e33 : i3 + 3 = nI (j + 3) := by rw [e3]; exact nI_add j 3
      have e34 : i3 + 4 = nI (j + 4) := by rw [e3]; exact nI_add j 4
      have v1 : vp_in (i3 + 1) L := by rw [e31]; exact vp_in_nI (by omega) (by omega)
      have v2 : vp_in (i3 + 2) L := by rw [e32]; exact vp_in_nI (by omega) (by omega)
      have v3 : vp_in (i3 + 3) L := by rw [e33]; exact vp_in_nI (by omega) (by omega)
      have hinc : ∀ (Mx : Nat → Nat → Int32) (Mm : MM) (H : Heap) (locs : List Loc), RR Mx Mm → va_P (dC, dI) vwCl (x_w kI ad Mx) H → va_P (dC, dI) vwCl (m_w kI kZ ad2 Mm.1 Mm.2) H → va_S (fun q : Nat => s.heap.size ≤ q) s.heap H locs → W p l e room_1 s m #[Value.ref b] below meth c H locs 55 1800 (lw_Z below #[Value.ref b] s) (F0 m 854 ls []) := by
        intro Mx Mm H locs hR hPx hPm hS
        refine lv_iinc (v := i3 + 4) (lv' := [(3, .int (i3 + 4)), (0, .ref b), (1, .ref (ad 0)), (2, .ref (ad2 0))]) hx hb dL_law_854 hl (k := 3) rfl rfl (Nat.le_of_ble_eq_true rfl) rfl (fun ls hl => ?_)
        refine lv_goto (tgt := 18) hx hb dL_law_857 (by decide) ?_
        exact ih (j + 4) (i3 + 4) Mx Mm H locs ls hj4 (by omega) e34 hR hPx hPm hS (lv_sub hl [1, 2, 3, 0] rfl)
      refine lv_aload_n hx hb dL_law_26 rfl (lv_at hl 0 rfl) ?_
      refine lv_iload_n hx hb dL_law_27 rfl (lv_at hl 3 rfl) ?_
      refine va_sld hx hb hX hbl hbA hS v0 dL_law_28 ?_
      refine lv_bipush (v := 31) hx hb dL_law_29 (by decide) ?_
      refine lv_iand hx hb dL_law_31 ?_
      refine lv_topi (fun op eop => ?_)
      by_cases c0 : op = 0
      · refine lv_tableIn (off := 128) (tgt := 160) hx hb dL_law_32 (by rw [c0]; decide) (by rw [c0]; decide) (by rw [c0]; rfl) (by decide) ?_
        obtain ⟨r, Mx2, Mm2, eX, eM, hR2⟩ := s_feed Mx Mm hR (xs (i3 + 1).toNatClampNeg)
        refine lv_aload_n hx hb dL_law_160 rfl (lv_at hl 1 rfl) ?_
        refine lv_aload_n hx hb dL_law_161 rfl (lv_at hl 0 rfl) ?_
        refine lv_iload_n hx hb dL_law_162 rfl (lv_at hl 3 rfl) ?_
        refine lv_iconst (v := 1) hx hb dL_law_163 (by decide) ?_
        refine lv_iadd hx hb dL_law_164 ?_
        refine va_sld hx hb hX hbl hbA hS v1 dL_law_165 ?_
        refine gl_x (va_runV (As := [.int (xs (i3 + 1).toNatClampNeg)]) (rest := []) hFx (tX7_feed l dC dI kI ad (xs (i3 + 1).toNatClampNeg) Mx eX) ⟨gc_B hFx ck_yX7_feed lkM_L_13 ⟨Nat.le_of_ble_eq_true rfl, Nat.le_of_ble_eq_true rfl⟩ rfl rfl, hg _ vi_yX7_feed, hg _ vs_yX7_feed⟩ (gp_V x_KnB (x_KnW hKx) hPx (x_rc7 (c := 0) rfl hKx hPx)) rfl rfl hl.1 rfl (lv_room (Nat.le_of_ble_eq_true rfl)) dL_law_166 ⟨Nat.le_of_ble_eq_true rfl, Nat.le_of_ble_eq_true rfl⟩) hS hxB hPm dx (fun H locs hPx hPm hS => ?_)
        refine lv_aload_n hx hb dL_law_169 rfl (lv_at hl 2 rfl) ?_
        refine lv_aload_n hx hb dL_law_170 rfl (lv_at hl 0 rfl) ?_
        refine lv_iload_n hx hb dL_law_171 rfl (lv_at hl 3 rfl) ?_
        refine lv_iconst (v := 1) hx hb dL_law_172 (by decide) ?_
        refine lv_iadd hx hb dL_law_173 ?_
        refine va_sld hx hb hX hbl hbA hS v1 dL_law_174 ?_
        refine gl_m (va_runV (As := [.int (xs (i3 + 1).toNatClampNeg)]) (rest := [.int r]) hFx (tX8_feed l dC dI kI kZ ad2 (xs (i3 + 1).toNatClampNeg) Mm eM) ⟨gc_B hFx ck_yX8_feed lkM_L_17 ⟨Nat.le_of_ble_eq_true rfl, Nat.le_of_ble_eq_true rfl⟩ rfl rfl, hg _ vi_yX8_feed, hg _ vs_yX8_feed⟩ (gp_V m_KnB (m_KnW hKm) hPm (m_rc8 (c := 0) rfl hKm hPm)) rfl rfl hl.1 rfl (lv_room (Nat.le_of_ble_eq_true rfl)) dL_law_175 ⟨Nat.le_of_ble_eq_true rfl, Nat.le_of_ble_eq_true rfl⟩) hS hmB hPx dm (fun H locs hPx hPm hS => ?_)
        refine lv_icmp_eq (tgt := 854) hx hb dL_law_178 (by decide) (fun _ => ?_) (fun cz => absurd rfl cz)
        exact hinc Mx2 Mm2 H locs hR2 hPx hPm hS
      by_cases c1 : op = 1
      · refine lv_tableIn (off := 151) (tgt := 183) hx hb dL_law_32 (by rw [c1]; decide) (by rw [c1]; decide) (by rw [c1]; rfl) (by decide) ?_
        obtain ⟨r, Mx2, Mm2, eX, eM, hR2⟩ := s_city Mx Mm hR 
        refine lv_aload_n hx hb dL_law_183 rfl (lv_at hl 1 rfl) ?_
        refine gl_x (va_runV (As := []) (rest := []) hFx (tX7_city l dC dI kI ad  Mx eX) ⟨gc_B hFx ck_yX7_city lkM_L_18 ⟨Nat.le_of_ble_eq_true rfl, Nat.le_of_ble_eq_true rfl⟩ rfl rfl, hg _ vi_yX7_city, hg _ vs_yX7_city⟩ (gp_V x_KnB (x_KnW hKx) hPx (x_rc7 (c := 0) rfl hKx hPx)) rfl rfl hl.1 rfl (lv_room (Nat.le_of_ble_eq_true rfl)) dL_law_184 ⟨Nat.le_of_ble_eq_true rfl, Nat.le_of_ble_eq_true rfl⟩) hS hxB hPm dx (fun H locs hPx hPm hS => ?_)
        refine lv_aload_n hx hb dL_law_187 rfl (lv_at hl 2 rfl) ?_
        refine gl_m (va_runV (As := []) (rest := [.int r]) hFx (tX8_city l dC dI kI kZ ad2  Mm eM) ⟨gc_B hFx ck_yX8_city lkM_L_22 ⟨Nat.le_of_ble_eq_true rfl, Nat.le_of_ble_eq_true rfl⟩ rfl rfl, hg _ vi_yX8_city, hg _ vs_yX8_city⟩ (gp_V m_KnB (m_KnW hKm) hPm (m_rc8 (c := 0) rfl hKm hPm)) rfl rfl hl.1 rfl (lv_room (Nat.le_of_ble_eq_true rfl)) dL_law_188 ⟨Nat.le_of_ble_eq_true rfl, Nat.le_of_ble_eq_true rfl⟩) hS hmB hPx dm (fun H locs hPx hPm hS => ?_)
        refine lv_icmp_eq (tgt := 854) hx hb dL_law_191 (by decide) (fun _ => ?_) (fun cz => absurd rfl cz)
        exact hinc Mx2 Mm2 H locs hR2 hPx hPm hS
      by_cases c2 : op = 2
      · refine lv_tableIn (off := 164) (tgt := 196) hx hb dL_law_32 (by rw [c2]; decide) (by rw [c2]; decide) (by rw [c2]; rfl) (by decide) ?_
        obtain ⟨r, eX, eM⟩ := s_fault Mx Mm hR 
        refine lv_aload_n hx hb dL_law_196 rfl (lv_at hl 1 rfl) ?_
        refine gl_x (va_runV (As := []) (rest := []) hFx (tX7_fault l dC dI kI ad  Mx eX) ⟨gc_B hFx ck_yX7_fault lkM_L_23 ⟨Nat.le_of_ble_eq_true rfl, Nat.le_of_ble_eq_true rfl⟩ rfl rfl, hg _ vi_yX7_fault, hg _ vs_yX7_fault⟩ (gp_V x_KnB (x_KnW hKx) hPx (x_rc7 (c := 0) rfl hKx hPx)) rfl rfl hl.1 rfl (lv_room (Nat.le_of_ble_eq_true rfl)) dL_law_197 ⟨Nat.le_of_ble_eq_true rfl, Nat.le_of_ble_eq_true rfl⟩) hS hxB hPm dx (fun H locs hPx hPm hS => ?_)
        refine lv_aload_n hx hb dL_law_200 rfl (lv_at hl 2 rfl) ?_
        refine gl_m (va_runV (As := []) (rest := [.int r]) hFx (tX8_fault l dC dI kI kZ ad2  Mm eM) ⟨gc_B hFx ck_yX8_fault lkM_L_26 ⟨Nat.le_of_ble_eq_true rfl, Nat.le_of_ble_eq_true rfl⟩ rfl rfl, hg _ vi_yX8_fault, hg _ vs_yX8_fault⟩ (gp_V m_KnB (m_KnW hKm) hPm (m_rc8 (c := 0) rfl hKm hPm)) rfl rfl hl.1 rfl (lv_room (Nat.le_of_ble_eq_true rfl)) dL_law_201 ⟨Nat.le_of_ble_eq_true rfl, Nat.le_of_ble_eq_true rfl⟩) hS hmB hPx dm (fun H locs hPx hPm hS => ?_)
        refine lv_icmp_eq (tgt := 854) hx hb dL_law_204 (by decide) (fun _ => ?_) (fun cz => absurd rfl cz)
        exact hinc Mx Mm H locs hR hPx hPm hS
      by_cases c3 : op = 3
      · refine lv_tableIn (off := 177) (tgt := 209) hx hb dL_law_32 (by rw [c3]; decide) (by rw [c3]; decide) (by rw [c3]; rfl) (by decide) ?_
        obtain ⟨r, eX, eM⟩ := s_told Mx Mm hR (xs (i3 + 1).toNatClampNeg)
        refine lv_aload_n hx hb dL_law_209 rfl (lv_at hl 1 rfl) ?_
        refine lv_aload_n hx hb dL_law_210 rfl (lv_at hl 0 rfl) ?_
        refine lv_iload_n hx hb dL_law_211 rfl (lv_at hl 3 rfl) ?_
        refine lv_iconst (v := 1) hx hb dL_law_212 (by decide) ?_
        refine lv_iadd hx hb dL_law_213 ?_
        refine va_sld hx hb hX hbl hbA hS v1 dL_law_214 ?_
        refine gl_x (va_runV (As := [.int (xs (i3 + 1).toNatClampNeg)]) (rest := []) hFx (tX7_told l dC dI kI ad (xs (i3 + 1).toNatClampNeg) Mx eX) ⟨gc_B hFx ck_yX7_told lkM_L_27 ⟨Nat.le_of_ble_eq_true rfl, Nat.le_of_ble_eq_true rfl⟩ rfl rfl, hg _ vi_yX7_told, hg _ vs_yX7_told⟩ (gp_V x_KnB (x_KnW hKx) hPx (x_rc7 (c := 0) rfl hKx hPx)) rfl rfl hl.1 rfl (lv_room (Nat.le_of_ble_eq_true rfl)) dL_law_215 ⟨Nat.le_of_ble_eq_true rfl, Nat.le_of_ble_eq_true rfl⟩) hS hxB hPm dx (fun H locs hPx hPm hS => ?_)
        refine lv_aload_n hx hb dL_law_218 rfl (lv_at hl 2 rfl) ?_
        refine lv_aload_n hx hb dL_law_219 rfl (lv_at hl 0 rfl) ?_
        refine lv_iload_n hx hb dL_law_220 rfl (lv_at hl 3 rfl) ?_
        refine lv_iconst (v := 1) hx hb dL_law_221 (by decide) ?_
        refine lv_iadd hx hb dL_law_222 ?_
        refine va_sld hx hb hX hbl hbA hS v1 dL_law_223 ?_
        refine gl_m (va_runV (As := [.int (xs (i3 + 1).toNatClampNeg)]) (rest := [.int r]) hFx (tX8_told l dC dI kI kZ ad2 (xs (i3 + 1).toNatClampNeg) Mm eM) ⟨gc_B hFx ck_yX8_told lkM_L_30 ⟨Nat.le_of_ble_eq_true rfl, Nat.le_of_ble_eq_true rfl⟩ rfl rfl, hg _ vi_yX8_told, hg _ vs_yX8_told⟩ (gp_V m_KnB (m_KnW hKm) hPm (m_rc8 (c := 0) rfl hKm hPm)) rfl rfl hl.1 rfl (lv_room (Nat.le_of_ble_eq_true rfl)) dL_law_224 ⟨Nat.le_of_ble_eq_true rfl, Nat.le_of_ble_eq_true rfl⟩) hS hmB hPx dm (fun H locs hPx hPm hS => ?_)
        refine lv_icmp_eq (tgt := 854) hx hb dL_law_227 (by decide) (fun _ => ?_) (fun cz => absurd rfl cz)
        exact hinc Mx Mm H locs hR hPx hPm hS
      by_cases c4 : op = 4
      · refine lv_tableIn (off := 200) (tgt := 232) hx hb dL_law_32 (by rw [c4]; decide) (by rw [c4]; decide) (by rw [c4]; rfl) (by decide) ?_
        obtain ⟨r, eX, eM⟩ := s_belief Mx Mm hR (xs (i3 + 1).toNatClampNeg)
        refine lv_aload_n hx hb dL_law_232 rfl (lv_at hl 1 rfl) ?_
        refine lv_aload_n hx hb dL_law_233 rfl (lv_at hl 0 rfl) ?_
        refine lv_iload_n hx hb dL_law_234 rfl (lv_at hl 3 rfl) ?_
        refine lv_iconst (v := 1) hx hb dL_law_235 (by decide) ?_
        refine lv_iadd hx hb dL_law_236 ?_
        refine va_sld hx hb hX hbl hbA hS v1 dL_law_237 ?_
        refine gl_x (va_runV (As := [.int (xs (i3 + 1).toNatClampNeg)]) (rest := []) hFx (tX7_belief l dC dI kI ad (xs (i3 + 1).toNatClampNeg) Mx eX) ⟨gc_B hFx ck_yX7_belief lkM_L_31 ⟨Nat.le_of_ble_eq_true rfl, Nat.le_of_ble_eq_true rfl⟩ rfl rfl, hg _ vi_yX7_belief, hg _ vs_yX7_belief⟩ (gp_V x_KnB (x_KnW hKx) hPx (x_rc7 (c := 0) rfl hKx hPx)) rfl rfl hl.1 rfl (lv_room (Nat.le_of_ble_eq_true rfl)) dL_law_238 ⟨Nat.le_of_ble_eq_true rfl, Nat.le_of_ble_eq_true rfl⟩) hS hxB hPm dx (fun H locs hPx hPm hS => ?_)
        refine lv_aload_n hx hb dL_law_241 rfl (lv_at hl 2 rfl) ?_
        refine lv_aload_n hx hb dL_law_242 rfl (lv_at hl 0 rfl) ?_
        refine lv_iload_n hx hb dL_law_243 rfl (lv_at hl 3 rfl) ?_
        refine lv_iconst (v := 1) hx hb dL_law_244 (by decide) ?_
        refine lv_iadd hx hb dL_law_245 ?_
        refine va_sld hx hb hX hbl hbA hS v1 dL_law_246 ?_
        refine gl_m (va_runV (As := [.int (xs (i3 + 1).toNatClampNeg)]) (rest := [.int r]) hFx (tX8_belief l dC dI kI kZ ad2 (xs (i3 + 1).toNatClampNeg) Mm eM) ⟨gc_B hFx ck_yX8_belief lkM_L_34 ⟨Nat.le_of_ble_eq_true rfl, Nat.le_of_ble_eq_true rfl⟩ rfl rfl, hg _ vi_yX8_belief, hg _ vs_yX8_belief⟩ (gp_V m_KnB (m_KnW hKm) hPm (m_rc8 (c := 0) rfl hKm hPm)) rfl rfl hl.1 rfl (lv_room (Nat.le_of_ble_eq_true rfl)) dL_law_247 ⟨Nat.le_of_ble_eq_true rfl, Nat.le_of_ble_eq_true rfl⟩) hS hmB hPx dm (fun H locs hPx hPm hS => ?_)
        refine lv_icmp_eq (tgt := 854) hx hb dL_law_250 (by decide) (fun _ => ?_) (fun cz => absurd rfl cz)
        exact hinc Mx Mm H locs hR hPx hPm hS
      by_cases c5 : op = 5
      · refine lv_tableIn (off := 223) (tgt := 255) hx hb dL_law_32 (by rw [c5]; decide) (by rw [c5]; decide) (by rw [c5]; rfl) (by decide) ?_
        obtain ⟨r, eX, eM⟩ := s_fact Mx Mm hR (xs (i3 + 1).toNatClampNeg) (xs (i3 + 2).toNatClampNeg)
        refine lv_aload_n hx hb dL_law_255 rfl (lv_at hl 1 rfl) ?_
        refine lv_aload_n hx hb dL_law_256 rfl (lv_at hl 0 rfl) ?_
        refine lv_iload_n hx hb dL_law_257 rfl (lv_at hl 3 rfl) ?_
        refine lv_iconst (v := 1) hx hb dL_law_258 (by decide) ?_
        refine lv_iadd hx hb dL_law_259 ?_
        refine va_sld hx hb hX hbl hbA hS v1 dL_law_260 ?_
        refine lv_aload_n hx hb dL_law_261 rfl (lv_at hl 0 rfl) ?_
        refine lv_iload_n hx hb dL_law_262 rfl (lv_at hl 3 rfl) ?_
        refine lv_iconst (v := 2) hx hb dL_law_263 (by decide) ?_
        refine lv_iadd hx hb dL_law_264 ?_
        refine va_sld hx hb hX hbl hbA hS v2 dL_law_265 ?_
        refine gl_x (va_runV (As := [.int (xs (i3 + 1).toNatClampNeg), .int (xs (i3 + 2).toNatClampNeg)]) (rest := []) hFx (tX7_fact l dC dI kI ad (xs (i3 + 1).toNatClampNeg) (xs (i3 + 2).toNatClampNeg) Mx eX) ⟨gc_B hFx ck_yX7_fact lkM_L_35 ⟨Nat.le_of_ble_eq_true rfl, Nat.le_of_ble_eq_true rfl⟩ rfl rfl, hg _ vi_yX7_fact, hg _ vs_yX7_fact⟩ (gp_V x_KnB (x_KnW hKx) hPx (x_rc7 (c := 0) rfl hKx hPx)) rfl rfl hl.1 rfl (lv_room (Nat.le_of_ble_eq_true rfl)) dL_law_266 ⟨Nat.le_of_ble_eq_true rfl, Nat.le_of_ble_eq_true rfl⟩) hS hxB hPm dx (fun H locs hPx hPm hS => ?_)
        refine lv_aload_n hx hb dL_law_269 rfl (lv_at hl 2 rfl) ?_
        refine lv_aload_n hx hb dL_law_270 rfl (lv_at hl 0 rfl) ?_
        refine lv_iload_n hx hb dL_law_271 rfl (lv_at hl 3 rfl) ?_
        refine lv_iconst (v := 1) hx hb dL_law_272 (by decide) ?_
        refine lv_iadd hx hb dL_law_273 ?_
        refine va_sld hx hb hX hbl hbA hS v1 dL_law_274 ?_
        refine lv_aload_n hx hb dL_law_275 rfl (lv_at hl 0 rfl) ?_
        refine lv_iload_n hx hb dL_law_276 rfl (lv_at hl 3 rfl) ?_
        refine lv_iconst (v := 2) hx hb dL_law_277 (by decide) ?_
        refine lv_iadd hx hb dL_law_278 ?_
        refine va_sld hx hb hX hbl hbA hS v2 dL_law_279 ?_
        refine gl_m (va_runV (As := [.int (xs (i3 + 1).toNatClampNeg), .int (xs (i3 + 2).toNatClampNeg)]) (rest := [.int r]) hFx (tX8_fact l dC dI kI kZ ad2 (xs (i3 + 1).toNatClampNeg) (xs (i3 + 2).toNatClampNeg) Mm eM) ⟨gc_B hFx ck_yX8_fact lkM_L_39 ⟨Nat.le_of_ble_eq_true rfl, Nat.le_of_ble_eq_true rfl⟩ rfl rfl, hg _ vi_yX8_fact, hg _ vs_yX8_fact⟩ (gp_V m_KnB (m_KnW hKm) hPm (m_rc8 (c := 0) rfl hKm hPm)) rfl rfl hl.1 rfl (lv_room (Nat.le_of_ble_eq_true rfl)) dL_law_280 ⟨Nat.le_of_ble_eq_true rfl, Nat.le_of_ble_eq_true rfl⟩) hS hmB hPx dm (fun H locs hPx hPm hS => ?_)
        refine lv_icmp_eq (tgt := 854) hx hb dL_law_283 (by decide) (fun _ => ?_) (fun cz => absurd rfl cz)
        exact hinc Mx Mm H locs hR hPx hPm hS
      by_cases c6 : op = 6
      · refine lv_tableIn (off := 256) (tgt := 288) hx hb dL_law_32 (by rw [c6]; decide) (by rw [c6]; decide) (by rw [c6]; rfl) (by decide) ?_
        obtain ⟨r, Mx2, Mm2, eX, eM, hR2⟩ := s_night Mx Mm hR (xs (i3 + 1).toNatClampNeg)
        refine lv_aload_n hx hb dL_law_288 rfl (lv_at hl 1 rfl) ?_
        refine lv_aload_n hx hb dL_law_289 rfl (lv_at hl 0 rfl) ?_
        refine lv_iload_n hx hb dL_law_290 rfl (lv_at hl 3 rfl) ?_
        refine lv_iconst (v := 1) hx hb dL_law_291 (by decide) ?_
        refine lv_iadd hx hb dL_law_292 ?_
        refine va_sld hx hb hX hbl hbA hS v1 dL_law_293 ?_
        refine gl_x (va_runV (As := [.int (xs (i3 + 1).toNatClampNeg)]) (rest := []) hFx (tX7_night l dC dI kI ad (xs (i3 + 1).toNatClampNeg) Mx eX) ⟨gc_B hFx ck_yX7_night lkM_L_40 ⟨Nat.le_of_ble_eq_true rfl, Nat.le_of_ble_eq_true rfl⟩ rfl rfl, hg _ vi_yX7_night, hg _ vs_yX7_night⟩ (gp_V x_KnB (x_KnW hKx) hPx (x_rc7 (c := 0) rfl hKx hPx)) rfl rfl hl.1 rfl (lv_room (Nat.le_of_ble_eq_true rfl)) dL_law_294 ⟨Nat.le_of_ble_eq_true rfl, Nat.le_of_ble_eq_true rfl⟩) hS hxB hPm dx (fun H locs hPx hPm hS => ?_)
        refine lv_aload_n hx hb dL_law_297 rfl (lv_at hl 2 rfl) ?_
        refine lv_aload_n hx hb dL_law_298 rfl (lv_at hl 0 rfl) ?_
        refine lv_iload_n hx hb dL_law_299 rfl (lv_at hl 3 rfl) ?_
        refine lv_iconst (v := 1) hx hb dL_law_300 (by decide) ?_
        refine lv_iadd hx hb dL_law_301 ?_
        refine va_sld hx hb hX hbl hbA hS v1 dL_law_302 ?_
        refine gl_m (va_runV (As := [.int (xs (i3 + 1).toNatClampNeg)]) (rest := [.int r]) hFx (tX8_night l dC dI kI kZ ad2 (xs (i3 + 1).toNatClampNeg) Mm eM) ⟨gc_B hFx ck_yX8_night lkM_L_43 ⟨Nat.le_of_ble_eq_true rfl, Nat.le_of_ble_eq_true rfl⟩ rfl rfl, hg _ vi_yX8_night, hg _ vs_yX8_night⟩ (gp_V m_KnB (m_KnW hKm) hPm (m_rc8 (c := 0) rfl hKm hPm)) rfl rfl hl.1 rfl (lv_room (Nat.le_of_ble_eq_true rfl)) dL_law_303 ⟨Nat.le_of_ble_eq_true rfl, Nat.le_of_ble_eq_true rfl⟩) hS hmB hPx dm (fun H locs hPx hPm hS => ?_)
        refine lv_icmp_eq (tgt := 854) hx hb dL_law_306 (by decide) (fun _ => ?_) (fun cz => absurd rfl cz)
        exact hinc Mx2 Mm2 H locs hR2 hPx hPm hS
      by_cases c7 : op = 7
      · refine lv_tableIn (off := 279) (tgt := 311) hx hb dL_law_32 (by rw [c7]; decide) (by rw [c7]; decide) (by rw [c7]; rfl) (by decide) ?_
        obtain ⟨r, Mx2, Mm2, eX, eM, hR2⟩ := s_meet Mx Mm hR (xs (i3 + 1).toNatClampNeg) (xs (i3 + 2).toNatClampNeg)
        refine lv_aload_n hx hb dL_law_311 rfl (lv_at hl 1 rfl) ?_
        refine lv_aload_n hx hb dL_law_312 rfl (lv_at hl 0 rfl) ?_
        refine lv_iload_n hx hb dL_law_313 rfl (lv_at hl 3 rfl) ?_
        refine lv_iconst (v := 1) hx hb dL_law_314 (by decide) ?_
        refine lv_iadd hx hb dL_law_315 ?_
        refine va_sld hx hb hX hbl hbA hS v1 dL_law_316 ?_
        refine lv_aload_n hx hb dL_law_317 rfl (lv_at hl 0 rfl) ?_
        refine lv_iload_n hx hb dL_law_318 rfl (lv_at hl 3 rfl) ?_
        refine lv_iconst (v := 2) hx hb dL_law_319 (by decide) ?_
        refine lv_iadd hx hb dL_law_320 ?_
        refine va_sld hx hb hX hbl hbA hS v2 dL_law_321 ?_
        refine gl_x (va_runV (As := [.int (xs (i3 + 1).toNatClampNeg), .int (xs (i3 + 2).toNatClampNeg)]) (rest := []) hFx (tX7_meet l dC dI kI ad (xs (i3 + 1).toNatClampNeg) (xs (i3 + 2).toNatClampNeg) Mx eX) ⟨gc_B hFx ck_yX7_meet lkM_L_44 ⟨Nat.le_of_ble_eq_true rfl, Nat.le_of_ble_eq_true rfl⟩ rfl rfl, hg _ vi_yX7_meet, hg _ vs_yX7_meet⟩ (gp_V x_KnB (x_KnW hKx) hPx (x_rc7 (c := 0) rfl hKx hPx)) rfl rfl hl.1 rfl (lv_room (Nat.le_of_ble_eq_true rfl)) dL_law_322 ⟨Nat.le_of_ble_eq_true rfl, Nat.le_of_ble_eq_true rfl⟩) hS hxB hPm dx (fun H locs hPx hPm hS => ?_)
        refine lv_aload_n hx hb dL_law_325 rfl (lv_at hl 2 rfl) ?_
        refine lv_aload_n hx hb dL_law_326 rfl (lv_at hl 0 rfl) ?_
        refine lv_iload_n hx hb dL_law_327 rfl (lv_at hl 3 rfl) ?_
        refine lv_iconst (v := 1) hx hb dL_law_328 (by decide) ?_
        refine lv_iadd hx hb dL_law_329 ?_
        refine va_sld hx hb hX hbl hbA hS v1 dL_law_330 ?_
        refine lv_aload_n hx hb dL_law_331 rfl (lv_at hl 0 rfl) ?_
        refine lv_iload_n hx hb dL_law_332 rfl (lv_at hl 3 rfl) ?_
        refine lv_iconst (v := 2) hx hb dL_law_333 (by decide) ?_
        refine lv_iadd hx hb dL_law_334 ?_
        refine va_sld hx hb hX hbl hbA hS v2 dL_law_335 ?_
        refine gl_m (va_runV (As := [.int (xs (i3 + 1).toNatClampNeg), .int (xs (i3 + 2).toNatClampNeg)]) (rest := [.int r]) hFx (tX8_meet l dC dI kI kZ ad2 (xs (i3 + 1).toNatClampNeg) (xs (i3 + 2).toNatClampNeg) Mm eM) ⟨gc_B hFx ck_yX8_meet lkM_L_47 ⟨Nat.le_of_ble_eq_true rfl, Nat.le_of_ble_eq_true rfl⟩ rfl rfl, hg _ vi_yX8_meet, hg _ vs_yX8_meet⟩ (gp_V m_KnB (m_KnW hKm) hPm (m_rc8 (c := 0) rfl hKm hPm)) rfl rfl hl.1 rfl (lv_room (Nat.le_of_ble_eq_true rfl)) dL_law_336 ⟨Nat.le_of_ble_eq_true rfl, Nat.le_of_ble_eq_true rfl⟩) hS hmB hPx dm (fun H locs hPx hPm hS => ?_)
        refine lv_icmp_eq (tgt := 854) hx hb dL_law_339 (by decide) (fun _ => ?_) (fun cz => absurd rfl cz)
        exact hinc Mx2 Mm2 H locs hR2 hPx hPm hS
      by_cases c8 : op = 8
      · refine lv_tableIn (off := 312) (tgt := 344) hx hb dL_law_32 (by rw [c8]; decide) (by rw [c8]; decide) (by rw [c8]; rfl) (by decide) ?_
        obtain ⟨r, Mx2, Mm2, eX, eM, hR2⟩ := s_make Mx Mm hR (xs (i3 + 1).toNatClampNeg)
        refine lv_aload_n hx hb dL_law_344 rfl (lv_at hl 1 rfl) ?_
        refine lv_aload_n hx hb dL_law_345 rfl (lv_at hl 0 rfl) ?_
        refine lv_iload_n hx hb dL_law_346 rfl (lv_at hl 3 rfl) ?_
        refine lv_iconst (v := 1) hx hb dL_law_347 (by decide) ?_
        refine lv_iadd hx hb dL_law_348 ?_
        refine va_sld hx hb hX hbl hbA hS v1 dL_law_349 ?_
        refine gl_x (va_runV (As := [.int (xs (i3 + 1).toNatClampNeg)]) (rest := []) hFx (tX7_make l dC dI kI ad (xs (i3 + 1).toNatClampNeg) Mx eX) ⟨gc_B hFx ck_yX7_make lkM_L_48 ⟨Nat.le_of_ble_eq_true rfl, Nat.le_of_ble_eq_true rfl⟩ rfl rfl, hg _ vi_yX7_make, hg _ vs_yX7_make⟩ (gp_V x_KnB (x_KnW hKx) hPx (x_rc7 (c := 0) rfl hKx hPx)) rfl rfl hl.1 rfl (lv_room (Nat.le_of_ble_eq_true rfl)) dL_law_350 ⟨Nat.le_of_ble_eq_true rfl, Nat.le_of_ble_eq_true rfl⟩) hS hxB hPm dx (fun H locs hPx hPm hS => ?_)
        refine lv_aload_n hx hb dL_law_353 rfl (lv_at hl 2 rfl) ?_
        refine lv_aload_n hx hb dL_law_354 rfl (lv_at hl 0 rfl) ?_
        refine lv_iload_n hx hb dL_law_355 rfl (lv_at hl 3 rfl) ?_
        refine lv_iconst (v := 1) hx hb dL_law_356 (by decide) ?_
        refine lv_iadd hx hb dL_law_357 ?_
        refine va_sld hx hb hX hbl hbA hS v1 dL_law_358 ?_
        refine gl_m (va_runV (As := [.int (xs (i3 + 1).toNatClampNeg)]) (rest := [.int r]) hFx (tX8_make l dC dI kI kZ ad2 (xs (i3 + 1).toNatClampNeg) Mm eM) ⟨gc_B hFx ck_yX8_make lkM_L_51 ⟨Nat.le_of_ble_eq_true rfl, Nat.le_of_ble_eq_true rfl⟩ rfl rfl, hg _ vi_yX8_make, hg _ vs_yX8_make⟩ (gp_V m_KnB (m_KnW hKm) hPm (m_rc8 (c := 0) rfl hKm hPm)) rfl rfl hl.1 rfl (lv_room (Nat.le_of_ble_eq_true rfl)) dL_law_359 ⟨Nat.le_of_ble_eq_true rfl, Nat.le_of_ble_eq_true rfl⟩) hS hmB hPx dm (fun H locs hPx hPm hS => ?_)
        refine lv_icmp_eq (tgt := 854) hx hb dL_law_362 (by decide) (fun _ => ?_) (fun cz => absurd rfl cz)
        exact hinc Mx2 Mm2 H locs hR2 hPx hPm hS
      by_cases c9 : op = 9
      · refine lv_tableIn (off := 335) (tgt := 367) hx hb dL_law_32 (by rw [c9]; decide) (by rw [c9]; decide) (by rw [c9]; rfl) (by decide) ?_
        obtain ⟨r, Mx2, Mm2, eX, eM, hR2⟩ := s_drift Mx Mm hR (xs (i3 + 1).toNatClampNeg)
        refine lv_aload_n hx hb dL_law_367 rfl (lv_at hl 1 rfl) ?_
        refine lv_aload_n hx hb dL_law_368 rfl (lv_at hl 0 rfl) ?_
        refine lv_iload_n hx hb dL_law_369 rfl (lv_at hl 3 rfl) ?_
        refine lv_iconst (v := 1) hx hb dL_law_370 (by decide) ?_
        refine lv_iadd hx hb dL_law_371 ?_
        refine va_sld hx hb hX hbl hbA hS v1 dL_law_372 ?_
        refine gl_x (va_runV (As := [.int (xs (i3 + 1).toNatClampNeg)]) (rest := []) hFx (tX7_drift l dC dI kI ad (xs (i3 + 1).toNatClampNeg) Mx eX) ⟨gc_B hFx ck_yX7_drift lkM_L_52 ⟨Nat.le_of_ble_eq_true rfl, Nat.le_of_ble_eq_true rfl⟩ rfl rfl, hg _ vi_yX7_drift, hg _ vs_yX7_drift⟩ (gp_V x_KnB (x_KnW hKx) hPx (x_rc7 (c := 0) rfl hKx hPx)) rfl rfl hl.1 rfl (lv_room (Nat.le_of_ble_eq_true rfl)) dL_law_373 ⟨Nat.le_of_ble_eq_true rfl, Nat.le_of_ble_eq_true rfl⟩) hS hxB hPm dx (fun H locs hPx hPm hS => ?_)
        refine lv_aload_n hx hb dL_law_376 rfl (lv_at hl 2 rfl) ?_
        refine lv_aload_n hx hb dL_law_377 rfl (lv_at hl 0 rfl) ?_
        refine lv_iload_n hx hb dL_law_378 rfl (lv_at hl 3 rfl) ?_
        refine lv_iconst (v := 1) hx hb dL_law_379 (by decide) ?_
        refine lv_iadd hx hb dL_law_380 ?_
        refine va_sld hx hb hX hbl hbA hS v1 dL_law_381 ?_
        refine gl_m (va_runV (As := [.int (xs (i3 + 1).toNatClampNeg)]) (rest := [.int r]) hFx (tX8_drift l dC dI kI kZ ad2 (xs (i3 + 1).toNatClampNeg) Mm eM) ⟨gc_B hFx ck_yX8_drift lkM_L_55 ⟨Nat.le_of_ble_eq_true rfl, Nat.le_of_ble_eq_true rfl⟩ rfl rfl, hg _ vi_yX8_drift, hg _ vs_yX8_drift⟩ (gp_V m_KnB (m_KnW hKm) hPm (m_rc8 (c := 0) rfl hKm hPm)) rfl rfl hl.1 rfl (lv_room (Nat.le_of_ble_eq_true rfl)) dL_law_382 ⟨Nat.le_of_ble_eq_true rfl, Nat.le_of_ble_eq_true rfl⟩) hS hmB hPx dm (fun H locs hPx hPm hS => ?_)
        refine lv_icmp_eq (tgt := 854) hx hb dL_law_385 (by decide) (fun _ => ?_) (fun cz => absurd rfl cz)
        exact hinc Mx2 Mm2 H locs hR2 hPx hPm hS
      by_cases c10 : op = 10
      · refine lv_tableIn (off := 358) (tgt := 390) hx hb dL_law_32 (by rw [c10]; decide) (by rw [c10]; decide) (by rw [c10]; rfl) (by decide) ?_
        obtain ⟨r, Mx2, Mm2, eX, eM, hR2⟩ := s_undo Mx Mm hR 
        refine lv_aload_n hx hb dL_law_390 rfl (lv_at hl 1 rfl) ?_
        refine gl_x (va_runV (As := []) (rest := []) hFx (tX7_undo l dC dI kI ad  Mx eX) ⟨gc_B hFx ck_yX7_undo lkM_L_56 ⟨Nat.le_of_ble_eq_true rfl, Nat.le_of_ble_eq_true rfl⟩ rfl rfl, hg _ vi_yX7_undo, hg _ vs_yX7_undo⟩ (gp_V x_KnB (x_KnW hKx) hPx (x_rc7 (c := 0) rfl hKx hPx)) rfl rfl hl.1 rfl (lv_room (Nat.le_of_ble_eq_true rfl)) dL_law_391 ⟨Nat.le_of_ble_eq_true rfl, Nat.le_of_ble_eq_true rfl⟩) hS hxB hPm dx (fun H locs hPx hPm hS => ?_)
        refine lv_aload_n hx hb dL_law_394 rfl (lv_at hl 2 rfl) ?_
        refine gl_m (va_runV (As := []) (rest := [.int r]) hFx (tX8_undo l dC dI kI kZ ad2  Mm eM) ⟨gc_B hFx ck_yX8_undo lkM_L_59 ⟨Nat.le_of_ble_eq_true rfl, Nat.le_of_ble_eq_true rfl⟩ rfl rfl, hg _ vi_yX8_undo, hg _ vs_yX8_undo⟩ (gp_V m_KnB (m_KnW hKm) hPm (m_rc8 (c := 0) rfl hKm hPm)) rfl rfl hl.1 rfl (lv_room (Nat.le_of_ble_eq_true rfl)) dL_law_395 ⟨Nat.le_of_ble_eq_true rfl, Nat.le_of_ble_eq_true rfl⟩) hS hmB hPx dm (fun H locs hPx hPm hS => ?_)
        refine lv_icmp_eq (tgt := 854) hx hb dL_law_398 (by decide) (fun _ => ?_) (fun cz => absurd rfl cz)
        exact hinc Mx2 Mm2 H locs hR2 hPx hPm hS
      by_cases c11 : op = 11
      · refine lv_tableIn (off := 371) (tgt := 403) hx hb dL_law_32 (by rw [c11]; decide) (by rw [c11]; decide) (by rw [c11]; rfl) (by decide) ?_
        obtain ⟨r, Mx2, Mm2, eX, eM, hR2⟩ := s_thinks Mx Mm hR (xs (i3 + 1).toNatClampNeg) (xs (i3 + 2).toNatClampNeg)
        refine lv_aload_n hx hb dL_law_403 rfl (lv_at hl 1 rfl) ?_
        refine lv_aload_n hx hb dL_law_404 rfl (lv_at hl 0 rfl) ?_
        refine lv_iload_n hx hb dL_law_405 rfl (lv_at hl 3 rfl) ?_
        refine lv_iconst (v := 1) hx hb dL_law_406 (by decide) ?_
        refine lv_iadd hx hb dL_law_407 ?_
        refine va_sld hx hb hX hbl hbA hS v1 dL_law_408 ?_
        refine lv_aload_n hx hb dL_law_409 rfl (lv_at hl 0 rfl) ?_
        refine lv_iload_n hx hb dL_law_410 rfl (lv_at hl 3 rfl) ?_
        refine lv_iconst (v := 2) hx hb dL_law_411 (by decide) ?_
        refine lv_iadd hx hb dL_law_412 ?_
        refine va_sld hx hb hX hbl hbA hS v2 dL_law_413 ?_
        refine gl_x (va_runV (As := [.int (xs (i3 + 1).toNatClampNeg), .int (xs (i3 + 2).toNatClampNeg)]) (rest := []) hFx (tX7_thinks l dC dI kI ad (xs (i3 + 1).toNatClampNeg) (xs (i3 + 2).toNatClampNeg) Mx eX) ⟨gc_B hFx ck_yX7_thinks lkM_L_60 ⟨Nat.le_of_ble_eq_true rfl, Nat.le_of_ble_eq_true rfl⟩ rfl rfl, hg _ vi_yX7_thinks, hg _ vs_yX7_thinks⟩ (gp_V x_KnB (x_KnW hKx) hPx (x_rc7 (c := 0) rfl hKx hPx)) rfl rfl hl.1 rfl (lv_room (Nat.le_of_ble_eq_true rfl)) dL_law_414 ⟨Nat.le_of_ble_eq_true rfl, Nat.le_of_ble_eq_true rfl⟩) hS hxB hPm dx (fun H locs hPx hPm hS => ?_)
        refine lv_aload_n hx hb dL_law_417 rfl (lv_at hl 2 rfl) ?_
        refine lv_aload_n hx hb dL_law_418 rfl (lv_at hl 0 rfl) ?_
        refine lv_iload_n hx hb dL_law_419 rfl (lv_at hl 3 rfl) ?_
        refine lv_iconst (v := 1) hx hb dL_law_420 (by decide) ?_
        refine lv_iadd hx hb dL_law_421 ?_
        refine va_sld hx hb hX hbl hbA hS v1 dL_law_422 ?_
        refine lv_aload_n hx hb dL_law_423 rfl (lv_at hl 0 rfl) ?_
        refine lv_iload_n hx hb dL_law_424 rfl (lv_at hl 3 rfl) ?_
        refine lv_iconst (v := 2) hx hb dL_law_425 (by decide) ?_
        refine lv_iadd hx hb dL_law_426 ?_
        refine va_sld hx hb hX hbl hbA hS v2 dL_law_427 ?_
        refine gl_m (va_runV (As := [.int (xs (i3 + 1).toNatClampNeg), .int (xs (i3 + 2).toNatClampNeg)]) (rest := [.int r]) hFx (tX8_thinks l dC dI kI kZ ad2 (xs (i3 + 1).toNatClampNeg) (xs (i3 + 2).toNatClampNeg) Mm eM) ⟨gc_B hFx ck_yX8_thinks lkM_L_63 ⟨Nat.le_of_ble_eq_true rfl, Nat.le_of_ble_eq_true rfl⟩ rfl rfl, hg _ vi_yX8_thinks, hg _ vs_yX8_thinks⟩ (gp_V m_KnB (m_KnW hKm) hPm (m_rc8 (c := 0) rfl hKm hPm)) rfl rfl hl.1 rfl (lv_room (Nat.le_of_ble_eq_true rfl)) dL_law_428 ⟨Nat.le_of_ble_eq_true rfl, Nat.le_of_ble_eq_true rfl⟩) hS hmB hPx dm (fun H locs hPx hPm hS => ?_)
        refine lv_icmp_eq (tgt := 854) hx hb dL_law_431 (by decide) (fun _ => ?_) (fun cz => absurd rfl cz)
        exact hinc Mx2 Mm2 H locs hR2 hPx hPm hS
      by_cases c12 : op = 12
      · refine lv_tableIn (off := 404) (tgt := 436) hx hb dL_law_32 (by rw [c12]; decide) (by rw [c12]; decide) (by rw [c12]; rfl) (by decide) ?_
        obtain ⟨r, Mx2, Mm2, eX, eM, hR2⟩ := s_soonest Mx Mm hR (xs (i3 + 1).toNatClampNeg) (xs (i3 + 2).toNatClampNeg) (xs (i3 + 3).toNatClampNeg)
        refine lv_aload_n hx hb dL_law_436 rfl (lv_at hl 1 rfl) ?_
        refine lv_aload_n hx hb dL_law_437 rfl (lv_at hl 0 rfl) ?_
        refine lv_iload_n hx hb dL_law_438 rfl (lv_at hl 3 rfl) ?_
        refine lv_iconst (v := 1) hx hb dL_law_439 (by decide) ?_
        refine lv_iadd hx hb dL_law_440 ?_
        refine va_sld hx hb hX hbl hbA hS v1 dL_law_441 ?_
        refine lv_aload_n hx hb dL_law_442 rfl (lv_at hl 0 rfl) ?_
        refine lv_iload_n hx hb dL_law_443 rfl (lv_at hl 3 rfl) ?_
        refine lv_iconst (v := 2) hx hb dL_law_444 (by decide) ?_
        refine lv_iadd hx hb dL_law_445 ?_
        refine va_sld hx hb hX hbl hbA hS v2 dL_law_446 ?_
        refine lv_aload_n hx hb dL_law_447 rfl (lv_at hl 0 rfl) ?_
        refine lv_iload_n hx hb dL_law_448 rfl (lv_at hl 3 rfl) ?_
        refine lv_iconst (v := 3) hx hb dL_law_449 (by decide) ?_
        refine lv_iadd hx hb dL_law_450 ?_
        refine va_sld hx hb hX hbl hbA hS v3 dL_law_451 ?_
        refine gl_x (va_runV (As := [.int (xs (i3 + 1).toNatClampNeg), .int (xs (i3 + 2).toNatClampNeg), .int (xs (i3 + 3).toNatClampNeg)]) (rest := []) hFx (tX7_soonest l dC dI kI ad (xs (i3 + 1).toNatClampNeg) (xs (i3 + 2).toNatClampNeg) (xs (i3 + 3).toNatClampNeg) Mx eX) ⟨gc_B hFx ck_yX7_soonest lkM_L_64 ⟨Nat.le_of_ble_eq_true rfl, Nat.le_of_ble_eq_true rfl⟩ rfl rfl, hg _ vi_yX7_soonest, hg _ vs_yX7_soonest⟩ (gp_V x_KnB (x_KnW hKx) hPx (x_rc7 (c := 0) rfl hKx hPx)) rfl rfl hl.1 rfl (lv_room (Nat.le_of_ble_eq_true rfl)) dL_law_452 ⟨Nat.le_of_ble_eq_true rfl, Nat.le_of_ble_eq_true rfl⟩) hS hxB hPm dx (fun H locs hPx hPm hS => ?_)
        refine lv_aload_n hx hb dL_law_455 rfl (lv_at hl 2 rfl) ?_
        refine lv_aload_n hx hb dL_law_456 rfl (lv_at hl 0 rfl) ?_
        refine lv_iload_n hx hb dL_law_457 rfl (lv_at hl 3 rfl) ?_
        refine lv_iconst (v := 1) hx hb dL_law_458 (by decide) ?_
        refine lv_iadd hx hb dL_law_459 ?_
        refine va_sld hx hb hX hbl hbA hS v1 dL_law_460 ?_
        refine lv_aload_n hx hb dL_law_461 rfl (lv_at hl 0 rfl) ?_
        refine lv_iload_n hx hb dL_law_462 rfl (lv_at hl 3 rfl) ?_
        refine lv_iconst (v := 2) hx hb dL_law_463 (by decide) ?_
        refine lv_iadd hx hb dL_law_464 ?_
        refine va_sld hx hb hX hbl hbA hS v2 dL_law_465 ?_
        refine lv_aload_n hx hb dL_law_466 rfl (lv_at hl 0 rfl) ?_
        refine lv_iload_n hx hb dL_law_467 rfl (lv_at hl 3 rfl) ?_
        refine lv_iconst (v := 3) hx hb dL_law_468 (by decide) ?_
        refine lv_iadd hx hb dL_law_469 ?_
        refine va_sld hx hb hX hbl hbA hS v3 dL_law_470 ?_
        refine gl_m (va_runV (As := [.int (xs (i3 + 1).toNatClampNeg), .int (xs (i3 + 2).toNatClampNeg), .int (xs (i3 + 3).toNatClampNeg)]) (rest := [.int r]) hFx (tX8_soonest l dC dI kI kZ ad2 (xs (i3 + 1).toNatClampNeg) (xs (i3 + 2).toNatClampNeg) (xs (i3 + 3).toNatClampNeg) Mm eM) ⟨gc_B hFx ck_yX8_soonest lkM_L_68 ⟨Nat.le_of_ble_eq_true rfl, Nat.le_of_ble_eq_true rfl⟩ rfl rfl, hg _ vi_yX8_soonest, hg _ vs_yX8_soonest⟩ (gp_V m_KnB (m_KnW hKm) hPm (m_rc8 (c := 0) rfl hKm hPm)) rfl rfl hl.1 rfl (lv_room (Nat.le_of_ble_eq_true rfl)) dL_law_471 ⟨Nat.le_of_ble_eq_true rfl, Nat.le_of_ble_eq_true rfl⟩) hS hmB hPx dm (fun H locs hPx hPm hS => ?_)
        refine lv_icmp_eq (tgt := 854) hx hb dL_law_474 (by decide) (fun _ => ?_) (fun cz => absurd rfl cz)
        exact hinc Mx2 Mm2 H locs hR2 hPx hPm hS
      by_cases c13 : op = 13
      · refine lv_tableIn (off := 447) (tgt := 479) hx hb dL_law_32 (by rw [c13]; decide) (by rw [c13]; decide) (by rw [c13]; rfl) (by decide) ?_
        obtain ⟨r, Mx2, Mm2, eX, eM, hR2⟩ := s_cannot Mx Mm hR 
        refine lv_aload_n hx hb dL_law_479 rfl (lv_at hl 1 rfl) ?_
        refine gl_x (va_runV (As := []) (rest := []) hFx (tX7_cannot l dC dI kI ad  Mx eX) ⟨gc_B hFx ck_yX7_cannot lkM_L_69 ⟨Nat.le_of_ble_eq_true rfl, Nat.le_of_ble_eq_true rfl⟩ rfl rfl, hg _ vi_yX7_cannot, hg _ vs_yX7_cannot⟩ (gp_V x_KnB (x_KnW hKx) hPx (x_rc7 (c := 0) rfl hKx hPx)) rfl rfl hl.1 rfl (lv_room (Nat.le_of_ble_eq_true rfl)) dL_law_480 ⟨Nat.le_of_ble_eq_true rfl, Nat.le_of_ble_eq_true rfl⟩) hS hxB hPm dx (fun H locs hPx hPm hS => ?_)
        refine lv_aload_n hx hb dL_law_483 rfl (lv_at hl 2 rfl) ?_
        refine gl_m (va_runV (As := []) (rest := [.int r]) hFx (tX8_cannot l dC dI kI kZ ad2  Mm eM) ⟨gc_B hFx ck_yX8_cannot lkM_L_72 ⟨Nat.le_of_ble_eq_true rfl, Nat.le_of_ble_eq_true rfl⟩ rfl rfl, hg _ vi_yX8_cannot, hg _ vs_yX8_cannot⟩ (gp_V m_KnB (m_KnW hKm) hPm (m_rc8 (c := 0) rfl hKm hPm)) rfl rfl hl.1 rfl (lv_room (Nat.le_of_ble_eq_true rfl)) dL_law_484 ⟨Nat.le_of_ble_eq_true rfl, Nat.le_of_ble_eq_true rfl⟩) hS hmB hPx dm (fun H locs hPx hPm hS => ?_)
        refine lv_icmp_eq (tgt := 854) hx hb dL_law_487 (by decide) (fun _ => ?_) (fun cz => absurd rfl cz)
        exact hinc Mx2 Mm2 H locs hR2 hPx hPm hS
      by_cases c14 : op = 14
      · refine lv_tableIn (off := 460) (tgt := 492) hx hb dL_law_32 (by rw [c14]; decide) (by rw [c14]; decide) (by rw [c14]; rfl) (by decide) ?_
        obtain ⟨r, Mx2, Mm2, eX, eM, hR2⟩ := s_least Mx Mm hR (xs (i3 + 1).toNatClampNeg) (xs (i3 + 2).toNatClampNeg)
        refine lv_aload_n hx hb dL_law_492 rfl (lv_at hl 1 rfl) ?_
        refine lv_aload_n hx hb dL_law_493 rfl (lv_at hl 0 rfl) ?_
        refine lv_iload_n hx hb dL_law_494 rfl (lv_at hl 3 rfl) ?_
        refine lv_iconst (v := 1) hx hb dL_law_495 (by decide) ?_
        refine lv_iadd hx hb dL_law_496 ?_
        refine va_sld hx hb hX hbl hbA hS v1 dL_law_497 ?_
        refine lv_aload_n hx hb dL_law_498 rfl (lv_at hl 0 rfl) ?_
        refine lv_iload_n hx hb dL_law_499 rfl (lv_at hl 3 rfl) ?_
        refine lv_iconst (v := 2) hx hb dL_law_500 (by decide) ?_
        refine lv_iadd hx hb dL_law_501 ?_
        refine va_sld hx hb hX hbl hbA hS v2 dL_law_502 ?_
        refine gl_x (va_runV (As := [.int (xs (i3 + 1).toNatClampNeg), .int (xs (i3 + 2).toNatClampNeg)]) (rest := []) hFx (tX7_least l dC dI kI ad (xs (i3 + 1).toNatClampNeg) (xs (i3 + 2).toNatClampNeg) Mx eX) ⟨gc_B hFx ck_yX7_least lkM_L_73 ⟨Nat.le_of_ble_eq_true rfl, Nat.le_of_ble_eq_true rfl⟩ rfl rfl, hg _ vi_yX7_least, hg _ vs_yX7_least⟩ (gp_V x_KnB (x_KnW hKx) hPx (x_rc7 (c := 0) rfl hKx hPx)) rfl rfl hl.1 rfl (lv_room (Nat.le_of_ble_eq_true rfl)) dL_law_503 ⟨Nat.le_of_ble_eq_true rfl, Nat.le_of_ble_eq_true rfl⟩) hS hxB hPm dx (fun H locs hPx hPm hS => ?_)
        refine lv_aload_n hx hb dL_law_506 rfl (lv_at hl 2 rfl) ?_
        refine lv_aload_n hx hb dL_law_507 rfl (lv_at hl 0 rfl) ?_
        refine lv_iload_n hx hb dL_law_508 rfl (lv_at hl 3 rfl) ?_
        refine lv_iconst (v := 1) hx hb dL_law_509 (by decide) ?_
        refine lv_iadd hx hb dL_law_510 ?_
        refine va_sld hx hb hX hbl hbA hS v1 dL_law_511 ?_
        refine lv_aload_n hx hb dL_law_512 rfl (lv_at hl 0 rfl) ?_
        refine lv_iload_n hx hb dL_law_513 rfl (lv_at hl 3 rfl) ?_
        refine lv_iconst (v := 2) hx hb dL_law_514 (by decide) ?_
        refine lv_iadd hx hb dL_law_515 ?_
        refine va_sld hx hb hX hbl hbA hS v2 dL_law_516 ?_
        refine gl_m (va_runV (As := [.int (xs (i3 + 1).toNatClampNeg), .int (xs (i3 + 2).toNatClampNeg)]) (rest := [.int r]) hFx (tX8_least l dC dI kI kZ ad2 (xs (i3 + 1).toNatClampNeg) (xs (i3 + 2).toNatClampNeg) Mm eM) ⟨gc_B hFx ck_yX8_least lkM_L_76 ⟨Nat.le_of_ble_eq_true rfl, Nat.le_of_ble_eq_true rfl⟩ rfl rfl, hg _ vi_yX8_least, hg _ vs_yX8_least⟩ (gp_V m_KnB (m_KnW hKm) hPm (m_rc8 (c := 0) rfl hKm hPm)) rfl rfl hl.1 rfl (lv_room (Nat.le_of_ble_eq_true rfl)) dL_law_517 ⟨Nat.le_of_ble_eq_true rfl, Nat.le_of_ble_eq_true rfl⟩) hS hmB hPx dm (fun H locs hPx hPm hS => ?_)
        refine lv_icmp_eq (tgt := 854) hx hb dL_law_520 (by decide) (fun _ => ?_) (fun cz => absurd rfl cz)
        exact hinc Mx2 Mm2 H locs hR2 hPx hPm hS
      by_cases c15 : op = 15
      · refine lv_tableIn (off := 493) (tgt := 525) hx hb dL_law_32 (by rw [c15]; decide) (by rw [c15]; decide) (by rw [c15]; rfl) (by decide) ?_
        obtain ⟨r, Mx2, Mm2, eX, eM, hR2⟩ := s_rivals Mx Mm hR (xs (i3 + 1).toNatClampNeg) (xs (i3 + 2).toNatClampNeg)
        refine lv_aload_n hx hb dL_law_525 rfl (lv_at hl 1 rfl) ?_
        refine lv_aload_n hx hb dL_law_526 rfl (lv_at hl 0 rfl) ?_
        refine lv_iload_n hx hb dL_law_527 rfl (lv_at hl 3 rfl) ?_
        refine lv_iconst (v := 1) hx hb dL_law_528 (by decide) ?_
        refine lv_iadd hx hb dL_law_529 ?_
        refine va_sld hx hb hX hbl hbA hS v1 dL_law_530 ?_
        refine lv_aload_n hx hb dL_law_531 rfl (lv_at hl 0 rfl) ?_
        refine lv_iload_n hx hb dL_law_532 rfl (lv_at hl 3 rfl) ?_
        refine lv_iconst (v := 2) hx hb dL_law_533 (by decide) ?_
        refine lv_iadd hx hb dL_law_534 ?_
        refine va_sld hx hb hX hbl hbA hS v2 dL_law_535 ?_
        refine gl_x (va_runV (As := [.int (xs (i3 + 1).toNatClampNeg), .int (xs (i3 + 2).toNatClampNeg)]) (rest := []) hFx (tX7_rivals l dC dI kI ad (xs (i3 + 1).toNatClampNeg) (xs (i3 + 2).toNatClampNeg) Mx eX) ⟨gc_B hFx ck_yX7_rivals lkM_L_77 ⟨Nat.le_of_ble_eq_true rfl, Nat.le_of_ble_eq_true rfl⟩ rfl rfl, hg _ vi_yX7_rivals, hg _ vs_yX7_rivals⟩ (gp_V x_KnB (x_KnW hKx) hPx (x_rc7 (c := 0) rfl hKx hPx)) rfl rfl hl.1 rfl (lv_room (Nat.le_of_ble_eq_true rfl)) dL_law_536 ⟨Nat.le_of_ble_eq_true rfl, Nat.le_of_ble_eq_true rfl⟩) hS hxB hPm dx (fun H locs hPx hPm hS => ?_)
        refine lv_aload_n hx hb dL_law_539 rfl (lv_at hl 2 rfl) ?_
        refine lv_aload_n hx hb dL_law_540 rfl (lv_at hl 0 rfl) ?_
        refine lv_iload_n hx hb dL_law_541 rfl (lv_at hl 3 rfl) ?_
        refine lv_iconst (v := 1) hx hb dL_law_542 (by decide) ?_
        refine lv_iadd hx hb dL_law_543 ?_
        refine va_sld hx hb hX hbl hbA hS v1 dL_law_544 ?_
        refine lv_aload_n hx hb dL_law_545 rfl (lv_at hl 0 rfl) ?_
        refine lv_iload_n hx hb dL_law_546 rfl (lv_at hl 3 rfl) ?_
        refine lv_iconst (v := 2) hx hb dL_law_547 (by decide) ?_
        refine lv_iadd hx hb dL_law_548 ?_
        refine va_sld hx hb hX hbl hbA hS v2 dL_law_549 ?_
        refine gl_m (va_runV (As := [.int (xs (i3 + 1).toNatClampNeg), .int (xs (i3 + 2).toNatClampNeg)]) (rest := [.int r]) hFx (tX8_rivals l dC dI kI kZ ad2 (xs (i3 + 1).toNatClampNeg) (xs (i3 + 2).toNatClampNeg) Mm eM) ⟨gc_B hFx ck_yX8_rivals lkM_L_80 ⟨Nat.le_of_ble_eq_true rfl, Nat.le_of_ble_eq_true rfl⟩ rfl rfl, hg _ vi_yX8_rivals, hg _ vs_yX8_rivals⟩ (gp_V m_KnB (m_KnW hKm) hPm (m_rc8 (c := 0) rfl hKm hPm)) rfl rfl hl.1 rfl (lv_room (Nat.le_of_ble_eq_true rfl)) dL_law_550 ⟨Nat.le_of_ble_eq_true rfl, Nat.le_of_ble_eq_true rfl⟩) hS hmB hPx dm (fun H locs hPx hPm hS => ?_)
        refine lv_icmp_eq (tgt := 854) hx hb dL_law_553 (by decide) (fun _ => ?_) (fun cz => absurd rfl cz)
        exact hinc Mx2 Mm2 H locs hR2 hPx hPm hS
      by_cases c16 : op = 16
      · refine lv_tableIn (off := 526) (tgt := 558) hx hb dL_law_32 (by rw [c16]; decide) (by rw [c16]; decide) (by rw [c16]; rfl) (by decide) ?_
        obtain ⟨r, eX, eM⟩ := s_shun Mx Mm hR (xs (i3 + 1).toNatClampNeg) (xs (i3 + 2).toNatClampNeg)
        refine lv_aload_n hx hb dL_law_558 rfl (lv_at hl 1 rfl) ?_
        refine lv_aload_n hx hb dL_law_559 rfl (lv_at hl 0 rfl) ?_
        refine lv_iload_n hx hb dL_law_560 rfl (lv_at hl 3 rfl) ?_
        refine lv_iconst (v := 1) hx hb dL_law_561 (by decide) ?_
        refine lv_iadd hx hb dL_law_562 ?_
        refine va_sld hx hb hX hbl hbA hS v1 dL_law_563 ?_
        refine lv_aload_n hx hb dL_law_564 rfl (lv_at hl 0 rfl) ?_
        refine lv_iload_n hx hb dL_law_565 rfl (lv_at hl 3 rfl) ?_
        refine lv_iconst (v := 2) hx hb dL_law_566 (by decide) ?_
        refine lv_iadd hx hb dL_law_567 ?_
        refine va_sld hx hb hX hbl hbA hS v2 dL_law_568 ?_
        refine gl_x (va_runV (As := [.int (xs (i3 + 1).toNatClampNeg), .int (xs (i3 + 2).toNatClampNeg)]) (rest := []) hFx (tX7_shun l dC dI kI ad (xs (i3 + 1).toNatClampNeg) (xs (i3 + 2).toNatClampNeg) Mx eX) ⟨gc_B hFx ck_yX7_shun lkM_L_81 ⟨Nat.le_of_ble_eq_true rfl, Nat.le_of_ble_eq_true rfl⟩ rfl rfl, hg _ vi_yX7_shun, hg _ vs_yX7_shun⟩ (gp_V x_KnB (x_KnW hKx) hPx (x_rc7 (c := 0) rfl hKx hPx)) rfl rfl hl.1 rfl (lv_room (Nat.le_of_ble_eq_true rfl)) dL_law_569 ⟨Nat.le_of_ble_eq_true rfl, Nat.le_of_ble_eq_true rfl⟩) hS hxB hPm dx (fun H locs hPx hPm hS => ?_)
        refine lv_aload_n hx hb dL_law_572 rfl (lv_at hl 2 rfl) ?_
        refine lv_aload_n hx hb dL_law_573 rfl (lv_at hl 0 rfl) ?_
        refine lv_iload_n hx hb dL_law_574 rfl (lv_at hl 3 rfl) ?_
        refine lv_iconst (v := 1) hx hb dL_law_575 (by decide) ?_
        refine lv_iadd hx hb dL_law_576 ?_
        refine va_sld hx hb hX hbl hbA hS v1 dL_law_577 ?_
        refine lv_aload_n hx hb dL_law_578 rfl (lv_at hl 0 rfl) ?_
        refine lv_iload_n hx hb dL_law_579 rfl (lv_at hl 3 rfl) ?_
        refine lv_iconst (v := 2) hx hb dL_law_580 (by decide) ?_
        refine lv_iadd hx hb dL_law_581 ?_
        refine va_sld hx hb hX hbl hbA hS v2 dL_law_582 ?_
        refine gl_m (va_runV (As := [.int (xs (i3 + 1).toNatClampNeg), .int (xs (i3 + 2).toNatClampNeg)]) (rest := [.int r]) hFx (tX8_shun l dC dI kI kZ ad2 (xs (i3 + 1).toNatClampNeg) (xs (i3 + 2).toNatClampNeg) Mm eM) ⟨gc_B hFx ck_yX8_shun lkM_L_84 ⟨Nat.le_of_ble_eq_true rfl, Nat.le_of_ble_eq_true rfl⟩ rfl rfl, hg _ vi_yX8_shun, hg _ vs_yX8_shun⟩ (gp_V m_KnB (m_KnW hKm) hPm (m_rc8 (c := 0) rfl hKm hPm)) rfl rfl hl.1 rfl (lv_room (Nat.le_of_ble_eq_true rfl)) dL_law_583 ⟨Nat.le_of_ble_eq_true rfl, Nat.le_of_ble_eq_true rfl⟩) hS hmB hPx dm (fun H locs hPx hPm hS => ?_)
        refine lv_icmp_eq (tgt := 854) hx hb dL_law_586 (by decide) (fun _ => ?_) (fun cz => absurd rfl cz)
        exact hinc Mx Mm H locs hR hPx hPm hS
      by_cases c17 : op = 17
      · refine lv_tableIn (off := 559) (tgt := 591) hx hb dL_law_32 (by rw [c17]; decide) (by rw [c17]; decide) (by rw [c17]; rfl) (by decide) ?_
        obtain ⟨r, eX, eM⟩ := s_holds Mx Mm hR (xs (i3 + 1).toNatClampNeg) (xs (i3 + 2).toNatClampNeg)
        refine lv_aload_n hx hb dL_law_591 rfl (lv_at hl 1 rfl) ?_
        refine lv_aload_n hx hb dL_law_592 rfl (lv_at hl 0 rfl) ?_
        refine lv_iload_n hx hb dL_law_593 rfl (lv_at hl 3 rfl) ?_
        refine lv_iconst (v := 1) hx hb dL_law_594 (by decide) ?_
        refine lv_iadd hx hb dL_law_595 ?_
        refine va_sld hx hb hX hbl hbA hS v1 dL_law_596 ?_
        refine lv_aload_n hx hb dL_law_597 rfl (lv_at hl 0 rfl) ?_
        refine lv_iload_n hx hb dL_law_598 rfl (lv_at hl 3 rfl) ?_
        refine lv_iconst (v := 2) hx hb dL_law_599 (by decide) ?_
        refine lv_iadd hx hb dL_law_600 ?_
        refine va_sld hx hb hX hbl hbA hS v2 dL_law_601 ?_
        refine gl_x (va_runV (As := [.int (xs (i3 + 1).toNatClampNeg), .int (xs (i3 + 2).toNatClampNeg)]) (rest := []) hFx (tX7_holds l dC dI kI ad (xs (i3 + 1).toNatClampNeg) (xs (i3 + 2).toNatClampNeg) Mx eX) ⟨gc_B hFx ck_yX7_holds lkM_L_85 ⟨Nat.le_of_ble_eq_true rfl, Nat.le_of_ble_eq_true rfl⟩ rfl rfl, hg _ vi_yX7_holds, hg _ vs_yX7_holds⟩ (gp_V x_KnB (x_KnW hKx) hPx (x_rc7 (c := 0) rfl hKx hPx)) rfl rfl hl.1 rfl (lv_room (Nat.le_of_ble_eq_true rfl)) dL_law_602 ⟨Nat.le_of_ble_eq_true rfl, Nat.le_of_ble_eq_true rfl⟩) hS hxB hPm dx (fun H locs hPx hPm hS => ?_)
        refine lv_aload_n hx hb dL_law_605 rfl (lv_at hl 2 rfl) ?_
        refine lv_aload_n hx hb dL_law_606 rfl (lv_at hl 0 rfl) ?_
        refine lv_iload_n hx hb dL_law_607 rfl (lv_at hl 3 rfl) ?_
        refine lv_iconst (v := 1) hx hb dL_law_608 (by decide) ?_
        refine lv_iadd hx hb dL_law_609 ?_
        refine va_sld hx hb hX hbl hbA hS v1 dL_law_610 ?_
        refine lv_aload_n hx hb dL_law_611 rfl (lv_at hl 0 rfl) ?_
        refine lv_iload_n hx hb dL_law_612 rfl (lv_at hl 3 rfl) ?_
        refine lv_iconst (v := 2) hx hb dL_law_613 (by decide) ?_
        refine lv_iadd hx hb dL_law_614 ?_
        refine va_sld hx hb hX hbl hbA hS v2 dL_law_615 ?_
        refine gl_m (va_runV (As := [.int (xs (i3 + 1).toNatClampNeg), .int (xs (i3 + 2).toNatClampNeg)]) (rest := [.int r]) hFx (tX8_holds l dC dI kI kZ ad2 (xs (i3 + 1).toNatClampNeg) (xs (i3 + 2).toNatClampNeg) Mm eM) ⟨gc_B hFx ck_yX8_holds lkM_L_88 ⟨Nat.le_of_ble_eq_true rfl, Nat.le_of_ble_eq_true rfl⟩ rfl rfl, hg _ vi_yX8_holds, hg _ vs_yX8_holds⟩ (gp_V m_KnB (m_KnW hKm) hPm (m_rc8 (c := 0) rfl hKm hPm)) rfl rfl hl.1 rfl (lv_room (Nat.le_of_ble_eq_true rfl)) dL_law_616 ⟨Nat.le_of_ble_eq_true rfl, Nat.le_of_ble_eq_true rfl⟩) hS hmB hPx dm (fun H locs hPx hPm hS => ?_)
        refine lv_icmp_eq (tgt := 854) hx hb dL_law_619 (by decide) (fun _ => ?_) (fun cz => absurd rfl cz)
        exact hinc Mx Mm H locs hR hPx hPm hS
      by_cases c18 : op = 18
      · refine lv_tableIn (off := 592) (tgt := 624) hx hb dL_law_32 (by rw [c18]; decide) (by rw [c18]; decide) (by rw [c18]; rfl) (by decide) ?_
        obtain ⟨r, eX, eM⟩ := s_worn Mx Mm hR 
        refine lv_aload_n hx hb dL_law_624 rfl (lv_at hl 1 rfl) ?_
        refine gl_x (va_runV (As := []) (rest := []) hFx (tX7_worn l dC dI kI ad  Mx eX) ⟨gc_B hFx ck_yX7_worn lkM_L_89 ⟨Nat.le_of_ble_eq_true rfl, Nat.le_of_ble_eq_true rfl⟩ rfl rfl, hg _ vi_yX7_worn, hg _ vs_yX7_worn⟩ (gp_V x_KnB (x_KnW hKx) hPx (x_rc7 (c := 0) rfl hKx hPx)) rfl rfl hl.1 rfl (lv_room (Nat.le_of_ble_eq_true rfl)) dL_law_625 ⟨Nat.le_of_ble_eq_true rfl, Nat.le_of_ble_eq_true rfl⟩) hS hxB hPm dx (fun H locs hPx hPm hS => ?_)
        refine lv_aload_n hx hb dL_law_628 rfl (lv_at hl 2 rfl) ?_
        refine gl_m (va_runV (As := []) (rest := [.int r]) hFx (tX8_worn l dC dI kI kZ ad2  Mm eM) ⟨gc_B hFx ck_yX8_worn lkM_L_92 ⟨Nat.le_of_ble_eq_true rfl, Nat.le_of_ble_eq_true rfl⟩ rfl rfl, hg _ vi_yX8_worn, hg _ vs_yX8_worn⟩ (gp_V m_KnB (m_KnW hKm) hPm (m_rc8 (c := 0) rfl hKm hPm)) rfl rfl hl.1 rfl (lv_room (Nat.le_of_ble_eq_true rfl)) dL_law_629 ⟨Nat.le_of_ble_eq_true rfl, Nat.le_of_ble_eq_true rfl⟩) hS hmB hPx dm (fun H locs hPx hPm hS => ?_)
        refine lv_icmp_eq (tgt := 854) hx hb dL_law_632 (by decide) (fun _ => ?_) (fun cz => absurd rfl cz)
        exact hinc Mx Mm H locs hR hPx hPm hS
      by_cases c19 : op = 19
      · refine lv_tableIn (off := 605) (tgt := 637) hx hb dL_law_32 (by rw [c19]; decide) (by rw [c19]; decide) (by rw [c19]; rfl) (by decide) ?_
        obtain ⟨r, Mx2, Mm2, eX, eM, hR2⟩ := s_thought Mx Mm hR (xs (i3 + 1).toNatClampNeg) (xs (i3 + 2).toNatClampNeg)
        refine lv_aload_n hx hb dL_law_637 rfl (lv_at hl 1 rfl) ?_
        refine lv_aload_n hx hb dL_law_638 rfl (lv_at hl 0 rfl) ?_
        refine lv_iload_n hx hb dL_law_639 rfl (lv_at hl 3 rfl) ?_
        refine lv_iconst (v := 1) hx hb dL_law_640 (by decide) ?_
        refine lv_iadd hx hb dL_law_641 ?_
        refine va_sld hx hb hX hbl hbA hS v1 dL_law_642 ?_
        refine lv_aload_n hx hb dL_law_643 rfl (lv_at hl 0 rfl) ?_
        refine lv_iload_n hx hb dL_law_644 rfl (lv_at hl 3 rfl) ?_
        refine lv_iconst (v := 2) hx hb dL_law_645 (by decide) ?_
        refine lv_iadd hx hb dL_law_646 ?_
        refine va_sld hx hb hX hbl hbA hS v2 dL_law_647 ?_
        refine gl_x (va_runV (As := [.int (xs (i3 + 1).toNatClampNeg), .int (xs (i3 + 2).toNatClampNeg)]) (rest := []) hFx (tX7_thought l dC dI kI ad (xs (i3 + 1).toNatClampNeg) (xs (i3 + 2).toNatClampNeg) Mx eX) ⟨gc_B hFx ck_yX7_thought lkM_L_93 ⟨Nat.le_of_ble_eq_true rfl, Nat.le_of_ble_eq_true rfl⟩ rfl rfl, hg _ vi_yX7_thought, hg _ vs_yX7_thought⟩ (gp_V x_KnB (x_KnW hKx) hPx (x_rc7 (c := 0) rfl hKx hPx)) rfl rfl hl.1 rfl (lv_room (Nat.le_of_ble_eq_true rfl)) dL_law_648 ⟨Nat.le_of_ble_eq_true rfl, Nat.le_of_ble_eq_true rfl⟩) hS hxB hPm dx (fun H locs hPx hPm hS => ?_)
        refine lv_aload_n hx hb dL_law_651 rfl (lv_at hl 2 rfl) ?_
        refine lv_aload_n hx hb dL_law_652 rfl (lv_at hl 0 rfl) ?_
        refine lv_iload_n hx hb dL_law_653 rfl (lv_at hl 3 rfl) ?_
        refine lv_iconst (v := 1) hx hb dL_law_654 (by decide) ?_
        refine lv_iadd hx hb dL_law_655 ?_
        refine va_sld hx hb hX hbl hbA hS v1 dL_law_656 ?_
        refine lv_aload_n hx hb dL_law_657 rfl (lv_at hl 0 rfl) ?_
        refine lv_iload_n hx hb dL_law_658 rfl (lv_at hl 3 rfl) ?_
        refine lv_iconst (v := 2) hx hb dL_law_659 (by decide) ?_
        refine lv_iadd hx hb dL_law_660 ?_
        refine va_sld hx hb hX hbl hbA hS v2 dL_law_661 ?_
        refine gl_m (va_runV (As := [.int (xs (i3 + 1).toNatClampNeg), .int (xs (i3 + 2).toNatClampNeg)]) (rest := [.int r]) hFx (tX8_thought l dC dI kI kZ ad2 (xs (i3 + 1).toNatClampNeg) (xs (i3 + 2).toNatClampNeg) Mm eM) ⟨gc_B hFx ck_yX8_thought lkM_L_96 ⟨Nat.le_of_ble_eq_true rfl, Nat.le_of_ble_eq_true rfl⟩ rfl rfl, hg _ vi_yX8_thought, hg _ vs_yX8_thought⟩ (gp_V m_KnB (m_KnW hKm) hPm (m_rc8 (c := 0) rfl hKm hPm)) rfl rfl hl.1 rfl (lv_room (Nat.le_of_ble_eq_true rfl)) dL_law_662 ⟨Nat.le_of_ble_eq_true rfl, Nat.le_of_ble_eq_true rfl⟩) hS hmB hPx dm (fun H locs hPx hPm hS => ?_)
        refine lv_icmp_eq (tgt := 854) hx hb dL_law_665 (by decide) (fun _ => ?_) (fun cz => absurd rfl cz)
        exact hinc Mx2 Mm2 H locs hR2 hPx hPm hS
      by_cases c20 : op = 20
      · refine lv_tableIn (off := 638) (tgt := 670) hx hb dL_law_32 (by rw [c20]; decide) (by rw [c20]; decide) (by rw [c20]; rfl) (by decide) ?_
        obtain ⟨r, Mx2, Mm2, eX, eM, hR2⟩ := s_leftOut Mx Mm hR (xs (i3 + 1).toNatClampNeg)
        refine lv_aload_n hx hb dL_law_670 rfl (lv_at hl 1 rfl) ?_
        refine lv_aload_n hx hb dL_law_671 rfl (lv_at hl 0 rfl) ?_
        refine lv_iload_n hx hb dL_law_672 rfl (lv_at hl 3 rfl) ?_
        refine lv_iconst (v := 1) hx hb dL_law_673 (by decide) ?_
        refine lv_iadd hx hb dL_law_674 ?_
        refine va_sld hx hb hX hbl hbA hS v1 dL_law_675 ?_
        refine gl_x (va_runV (As := [.int (xs (i3 + 1).toNatClampNeg)]) (rest := []) hFx (tX7_leftOut l dC dI kI ad (xs (i3 + 1).toNatClampNeg) Mx eX) ⟨gc_B hFx ck_yX7_leftOut lkM_L_97 ⟨Nat.le_of_ble_eq_true rfl, Nat.le_of_ble_eq_true rfl⟩ rfl rfl, hg _ vi_yX7_leftOut, hg _ vs_yX7_leftOut⟩ (gp_V x_KnB (x_KnW hKx) hPx (x_rc7 (c := 0) rfl hKx hPx)) rfl rfl hl.1 rfl (lv_room (Nat.le_of_ble_eq_true rfl)) dL_law_676 ⟨Nat.le_of_ble_eq_true rfl, Nat.le_of_ble_eq_true rfl⟩) hS hxB hPm dx (fun H locs hPx hPm hS => ?_)
        refine lv_aload_n hx hb dL_law_679 rfl (lv_at hl 2 rfl) ?_
        refine lv_aload_n hx hb dL_law_680 rfl (lv_at hl 0 rfl) ?_
        refine lv_iload_n hx hb dL_law_681 rfl (lv_at hl 3 rfl) ?_
        refine lv_iconst (v := 1) hx hb dL_law_682 (by decide) ?_
        refine lv_iadd hx hb dL_law_683 ?_
        refine va_sld hx hb hX hbl hbA hS v1 dL_law_684 ?_
        refine gl_m (va_runV (As := [.int (xs (i3 + 1).toNatClampNeg)]) (rest := [.int r]) hFx (tX8_leftOut l dC dI kI kZ ad2 (xs (i3 + 1).toNatClampNeg) Mm eM) ⟨gc_B hFx ck_yX8_leftOut lkM_L_100 ⟨Nat.le_of_ble_eq_true rfl, Nat.le_of_ble_eq_true rfl⟩ rfl rfl, hg _ vi_yX8_leftOut, hg _ vs_yX8_leftOut⟩ (gp_V m_KnB (m_KnW hKm) hPm (m_rc8 (c := 0) rfl hKm hPm)) rfl rfl hl.1 rfl (lv_room (Nat.le_of_ble_eq_true rfl)) dL_law_685 ⟨Nat.le_of_ble_eq_true rfl, Nat.le_of_ble_eq_true rfl⟩) hS hmB hPx dm (fun H locs hPx hPm hS => ?_)
        refine lv_icmp_eq (tgt := 854) hx hb dL_law_688 (by decide) (fun _ => ?_) (fun cz => absurd rfl cz)
        exact hinc Mx2 Mm2 H locs hR2 hPx hPm hS
      by_cases c21 : op = 21
      · refine lv_tableIn (off := 661) (tgt := 693) hx hb dL_law_32 (by rw [c21]; decide) (by rw [c21]; decide) (by rw [c21]; rfl) (by decide) ?_
        obtain ⟨r, Mx2, Mm2, eX, eM, hR2⟩ := s_strengths Mx Mm hR (xs (i3 + 1).toNatClampNeg) (xs (i3 + 2).toNatClampNeg)
        refine lv_aload_n hx hb dL_law_693 rfl (lv_at hl 1 rfl) ?_
        refine lv_aload_n hx hb dL_law_694 rfl (lv_at hl 0 rfl) ?_
        refine lv_iload_n hx hb dL_law_695 rfl (lv_at hl 3 rfl) ?_
        refine lv_iconst (v := 1) hx hb dL_law_696 (by decide) ?_
        refine lv_iadd hx hb dL_law_697 ?_
        refine va_sld hx hb hX hbl hbA hS v1 dL_law_698 ?_
        refine lv_aload_n hx hb dL_law_699 rfl (lv_at hl 0 rfl) ?_
        refine lv_iload_n hx hb dL_law_700 rfl (lv_at hl 3 rfl) ?_
        refine lv_iconst (v := 2) hx hb dL_law_701 (by decide) ?_
        refine lv_iadd hx hb dL_law_702 ?_
        refine va_sld hx hb hX hbl hbA hS v2 dL_law_703 ?_
        refine gl_x (va_runV (As := [.int (xs (i3 + 1).toNatClampNeg), .int (xs (i3 + 2).toNatClampNeg)]) (rest := []) hFx (tX7_strengths l dC dI kI ad (xs (i3 + 1).toNatClampNeg) (xs (i3 + 2).toNatClampNeg) Mx eX) ⟨gc_B hFx ck_yX7_strengths lkM_L_101 ⟨Nat.le_of_ble_eq_true rfl, Nat.le_of_ble_eq_true rfl⟩ rfl rfl, hg _ vi_yX7_strengths, hg _ vs_yX7_strengths⟩ (gp_V x_KnB (x_KnW hKx) hPx (x_rc7 (c := 0) rfl hKx hPx)) rfl rfl hl.1 rfl (lv_room (Nat.le_of_ble_eq_true rfl)) dL_law_704 ⟨Nat.le_of_ble_eq_true rfl, Nat.le_of_ble_eq_true rfl⟩) hS hxB hPm dx (fun H locs hPx hPm hS => ?_)
        refine lv_aload_n hx hb dL_law_707 rfl (lv_at hl 2 rfl) ?_
        refine lv_aload_n hx hb dL_law_708 rfl (lv_at hl 0 rfl) ?_
        refine lv_iload_n hx hb dL_law_709 rfl (lv_at hl 3 rfl) ?_
        refine lv_iconst (v := 1) hx hb dL_law_710 (by decide) ?_
        refine lv_iadd hx hb dL_law_711 ?_
        refine va_sld hx hb hX hbl hbA hS v1 dL_law_712 ?_
        refine lv_aload_n hx hb dL_law_713 rfl (lv_at hl 0 rfl) ?_
        refine lv_iload_n hx hb dL_law_714 rfl (lv_at hl 3 rfl) ?_
        refine lv_iconst (v := 2) hx hb dL_law_715 (by decide) ?_
        refine lv_iadd hx hb dL_law_716 ?_
        refine va_sld hx hb hX hbl hbA hS v2 dL_law_717 ?_
        refine gl_m (va_runV (As := [.int (xs (i3 + 1).toNatClampNeg), .int (xs (i3 + 2).toNatClampNeg)]) (rest := [.int r]) hFx (tX8_strengths l dC dI kI kZ ad2 (xs (i3 + 1).toNatClampNeg) (xs (i3 + 2).toNatClampNeg) Mm eM) ⟨gc_B hFx ck_yX8_strengths lkM_L_104 ⟨Nat.le_of_ble_eq_true rfl, Nat.le_of_ble_eq_true rfl⟩ rfl rfl, hg _ vi_yX8_strengths, hg _ vs_yX8_strengths⟩ (gp_V m_KnB (m_KnW hKm) hPm (m_rc8 (c := 0) rfl hKm hPm)) rfl rfl hl.1 rfl (lv_room (Nat.le_of_ble_eq_true rfl)) dL_law_718 ⟨Nat.le_of_ble_eq_true rfl, Nat.le_of_ble_eq_true rfl⟩) hS hmB hPx dm (fun H locs hPx hPm hS => ?_)
        refine lv_icmp_eq (tgt := 854) hx hb dL_law_721 (by decide) (fun _ => ?_) (fun cz => absurd rfl cz)
        exact hinc Mx2 Mm2 H locs hR2 hPx hPm hS
      by_cases c22 : op = 22
      · refine lv_tableIn (off := 694) (tgt := 726) hx hb dL_law_32 (by rw [c22]; decide) (by rw [c22]; decide) (by rw [c22]; rfl) (by decide) ?_
        obtain ⟨r, Mx2, Mm2, eX, eM, hR2⟩ := s_write Mx Mm hR (xs (i3 + 1).toNatClampNeg) (xs (i3 + 2).toNatClampNeg)
        refine lv_aload_n hx hb dL_law_726 rfl (lv_at hl 1 rfl) ?_
        refine lv_aload_n hx hb dL_law_727 rfl (lv_at hl 0 rfl) ?_
        refine lv_iload_n hx hb dL_law_728 rfl (lv_at hl 3 rfl) ?_
        refine lv_iconst (v := 1) hx hb dL_law_729 (by decide) ?_
        refine lv_iadd hx hb dL_law_730 ?_
        refine va_sld hx hb hX hbl hbA hS v1 dL_law_731 ?_
        refine lv_aload_n hx hb dL_law_732 rfl (lv_at hl 0 rfl) ?_
        refine lv_iload_n hx hb dL_law_733 rfl (lv_at hl 3 rfl) ?_
        refine lv_iconst (v := 2) hx hb dL_law_734 (by decide) ?_
        refine lv_iadd hx hb dL_law_735 ?_
        refine va_sld hx hb hX hbl hbA hS v2 dL_law_736 ?_
        refine gl_x (va_runV (As := [.int (xs (i3 + 1).toNatClampNeg), .int (xs (i3 + 2).toNatClampNeg)]) (rest := []) hFx (tX7_write l dC dI kI ad (xs (i3 + 1).toNatClampNeg) (xs (i3 + 2).toNatClampNeg) Mx eX) ⟨gc_B hFx ck_yX7_write lkM_L_105 ⟨Nat.le_of_ble_eq_true rfl, Nat.le_of_ble_eq_true rfl⟩ rfl rfl, hg _ vi_yX7_write, hg _ vs_yX7_write⟩ (gp_V x_KnB (x_KnW hKx) hPx (x_rc7 (c := 0) rfl hKx hPx)) rfl rfl hl.1 rfl (lv_room (Nat.le_of_ble_eq_true rfl)) dL_law_737 ⟨Nat.le_of_ble_eq_true rfl, Nat.le_of_ble_eq_true rfl⟩) hS hxB hPm dx (fun H locs hPx hPm hS => ?_)
        refine lv_aload_n hx hb dL_law_740 rfl (lv_at hl 2 rfl) ?_
        refine lv_aload_n hx hb dL_law_741 rfl (lv_at hl 0 rfl) ?_
        refine lv_iload_n hx hb dL_law_742 rfl (lv_at hl 3 rfl) ?_
        refine lv_iconst (v := 1) hx hb dL_law_743 (by decide) ?_
        refine lv_iadd hx hb dL_law_744 ?_
        refine va_sld hx hb hX hbl hbA hS v1 dL_law_745 ?_
        refine lv_aload_n hx hb dL_law_746 rfl (lv_at hl 0 rfl) ?_
        refine lv_iload_n hx hb dL_law_747 rfl (lv_at hl 3 rfl) ?_
        refine lv_iconst (v := 2) hx hb dL_law_748 (by decide) ?_
        refine lv_iadd hx hb dL_law_749 ?_
        refine va_sld hx hb hX hbl hbA hS v2 dL_law_750 ?_
        refine gl_m (va_runV (As := [.int (xs (i3 + 1).toNatClampNeg), .int (xs (i3 + 2).toNatClampNeg)]) (rest := [.int r]) hFx (tX8_write l dC dI kI kZ ad2 (xs (i3 + 1).toNatClampNeg) (xs (i3 + 2).toNatClampNeg) Mm eM) ⟨gc_B hFx ck_yX8_write lkM_L_108 ⟨Nat.le_of_ble_eq_true rfl, Nat.le_of_ble_eq_true rfl⟩ rfl rfl, hg _ vi_yX8_write, hg _ vs_yX8_write⟩ (gp_V m_KnB (m_KnW hKm) hPm (m_rc8 (c := 0) rfl hKm hPm)) rfl rfl hl.1 rfl (lv_room (Nat.le_of_ble_eq_true rfl)) dL_law_751 ⟨Nat.le_of_ble_eq_true rfl, Nat.le_of_ble_eq_true rfl⟩) hS hmB hPx dm (fun H locs hPx hPm hS => ?_)
        refine lv_icmp_eq (tgt := 854) hx hb dL_law_754 (by decide) (fun _ => ?_) (fun cz => absurd rfl cz)
        exact hinc Mx2 Mm2 H locs hR2 hPx hPm hS
      by_cases c23 : op = 23
      · refine lv_tableIn (off := 727) (tgt := 759) hx hb dL_law_32 (by rw [c23]; decide) (by rw [c23]; decide) (by rw [c23]; rfl) (by decide) ?_
        obtain ⟨r, Mx2, Mm2, eX, eM, hR2⟩ := s_tear Mx Mm hR 
        refine lv_aload_n hx hb dL_law_759 rfl (lv_at hl 1 rfl) ?_
        refine gl_x (va_runV (As := []) (rest := []) hFx (tX7_tear l dC dI kI ad  Mx eX) ⟨gc_B hFx ck_yX7_tear lkM_L_109 ⟨Nat.le_of_ble_eq_true rfl, Nat.le_of_ble_eq_true rfl⟩ rfl rfl, hg _ vi_yX7_tear, hg _ vs_yX7_tear⟩ (gp_V x_KnB (x_KnW hKx) hPx (x_rc7 (c := 0) rfl hKx hPx)) rfl rfl hl.1 rfl (lv_room (Nat.le_of_ble_eq_true rfl)) dL_law_760 ⟨Nat.le_of_ble_eq_true rfl, Nat.le_of_ble_eq_true rfl⟩) hS hxB hPm dx (fun H locs hPx hPm hS => ?_)
        refine lv_aload_n hx hb dL_law_763 rfl (lv_at hl 2 rfl) ?_
        refine gl_m (va_runV (As := []) (rest := [.int r]) hFx (tX8_tear l dC dI kI kZ ad2  Mm eM) ⟨gc_B hFx ck_yX8_tear lkM_L_112 ⟨Nat.le_of_ble_eq_true rfl, Nat.le_of_ble_eq_true rfl⟩ rfl rfl, hg _ vi_yX8_tear, hg _ vs_yX8_tear⟩ (gp_V m_KnB (m_KnW hKm) hPm (m_rc8 (c := 0) rfl hKm hPm)) rfl rfl hl.1 rfl (lv_room (Nat.le_of_ble_eq_true rfl)) dL_law_764 ⟨Nat.le_of_ble_eq_true rfl, Nat.le_of_ble_eq_true rfl⟩) hS hmB hPx dm (fun H locs hPx hPm hS => ?_)
        refine lv_icmp_eq (tgt := 854) hx hb dL_law_767 (by decide) (fun _ => ?_) (fun cz => absurd rfl cz)
        exact hinc Mx2 Mm2 H locs hR2 hPx hPm hS
      by_cases c24 : op = 24
      · refine lv_tableIn (off := 740) (tgt := 772) hx hb dL_law_32 (by rw [c24]; decide) (by rw [c24]; decide) (by rw [c24]; rfl) (by decide) ?_
        obtain ⟨r, eX, eM⟩ := s_judge Mx Mm hR 
        refine lv_aload_n hx hb dL_law_772 rfl (lv_at hl 1 rfl) ?_
        refine gl_x (va_runV (As := []) (rest := []) hFx (tX7_judge l dC dI kI ad  Mx eX) ⟨gc_B hFx ck_yX7_judge lkM_L_113 ⟨Nat.le_of_ble_eq_true rfl, Nat.le_of_ble_eq_true rfl⟩ rfl rfl, hg _ vi_yX7_judge, hg _ vs_yX7_judge⟩ (gp_V x_KnB (x_KnW hKx) hPx (x_rc7 (c := 0) rfl hKx hPx)) rfl rfl hl.1 rfl (lv_room (Nat.le_of_ble_eq_true rfl)) dL_law_773 ⟨Nat.le_of_ble_eq_true rfl, Nat.le_of_ble_eq_true rfl⟩) hS hxB hPm dx (fun H locs hPx hPm hS => ?_)
        refine lv_aload_n hx hb dL_law_776 rfl (lv_at hl 2 rfl) ?_
        refine gl_m (va_runV (As := []) (rest := [.int r]) hFx (tX8_judge l dC dI kI kZ ad2  Mm eM) ⟨gc_B hFx ck_yX8_judge lkM_L_116 ⟨Nat.le_of_ble_eq_true rfl, Nat.le_of_ble_eq_true rfl⟩ rfl rfl, hg _ vi_yX8_judge, hg _ vs_yX8_judge⟩ (gp_V m_KnB (m_KnW hKm) hPm (m_rc8 (c := 0) rfl hKm hPm)) rfl rfl hl.1 rfl (lv_room (Nat.le_of_ble_eq_true rfl)) dL_law_777 ⟨Nat.le_of_ble_eq_true rfl, Nat.le_of_ble_eq_true rfl⟩) hS hmB hPx dm (fun H locs hPx hPm hS => ?_)
        refine lv_icmp_eq (tgt := 854) hx hb dL_law_780 (by decide) (fun _ => ?_) (fun cz => absurd rfl cz)
        exact hinc Mx Mm H locs hR hPx hPm hS
      by_cases c25 : op = 25
      · refine lv_tableIn (off := 753) (tgt := 785) hx hb dL_law_32 (by rw [c25]; decide) (by rw [c25]; decide) (by rw [c25]; rfl) (by decide) ?_
        obtain ⟨r, Mx2, Mm2, eX, eM, hR2⟩ := s_seed Mx Mm hR (xs (i3 + 1).toNatClampNeg)
        refine lv_aload_n hx hb dL_law_785 rfl (lv_at hl 1 rfl) ?_
        refine lv_aload_n hx hb dL_law_786 rfl (lv_at hl 0 rfl) ?_
        refine lv_iload_n hx hb dL_law_787 rfl (lv_at hl 3 rfl) ?_
        refine lv_iconst (v := 1) hx hb dL_law_788 (by decide) ?_
        refine lv_iadd hx hb dL_law_789 ?_
        refine va_sld hx hb hX hbl hbA hS v1 dL_law_790 ?_
        refine gl_x (va_runV (As := [.int (xs (i3 + 1).toNatClampNeg)]) (rest := []) hFx (tX7_seed l dC dI kI ad (xs (i3 + 1).toNatClampNeg) Mx eX) ⟨gc_B hFx ck_yX7_seed lkM_L_117 ⟨Nat.le_of_ble_eq_true rfl, Nat.le_of_ble_eq_true rfl⟩ rfl rfl, hg _ vi_yX7_seed, hg _ vs_yX7_seed⟩ (gp_V x_KnB (x_KnW hKx) hPx (x_rc7 (c := 0) rfl hKx hPx)) rfl rfl hl.1 rfl (lv_room (Nat.le_of_ble_eq_true rfl)) dL_law_791 ⟨Nat.le_of_ble_eq_true rfl, Nat.le_of_ble_eq_true rfl⟩) hS hxB hPm dx (fun H locs hPx hPm hS => ?_)
        refine lv_aload_n hx hb dL_law_794 rfl (lv_at hl 2 rfl) ?_
        refine lv_aload_n hx hb dL_law_795 rfl (lv_at hl 0 rfl) ?_
        refine lv_iload_n hx hb dL_law_796 rfl (lv_at hl 3 rfl) ?_
        refine lv_iconst (v := 1) hx hb dL_law_797 (by decide) ?_
        refine lv_iadd hx hb dL_law_798 ?_
        refine va_sld hx hb hX hbl hbA hS v1 dL_law_799 ?_
        refine gl_m (va_runV (As := [.int (xs (i3 + 1).toNatClampNeg)]) (rest := [.int r]) hFx (tX8_seed l dC dI kI kZ ad2 (xs (i3 + 1).toNatClampNeg) Mm eM) ⟨gc_B hFx ck_yX8_seed lkM_L_120 ⟨Nat.le_of_ble_eq_true rfl, Nat.le_of_ble_eq_true rfl⟩ rfl rfl, hg _ vi_yX8_seed, hg _ vs_yX8_seed⟩ (gp_V m_KnB (m_KnW hKm) hPm (m_rc8 (c := 0) rfl hKm hPm)) rfl rfl hl.1 rfl (lv_room (Nat.le_of_ble_eq_true rfl)) dL_law_800 ⟨Nat.le_of_ble_eq_true rfl, Nat.le_of_ble_eq_true rfl⟩) hS hmB hPx dm (fun H locs hPx hPm hS => ?_)
        refine lv_icmp_eq (tgt := 854) hx hb dL_law_803 (by decide) (fun _ => ?_) (fun cz => absurd rfl cz)
        exact hinc Mx2 Mm2 H locs hR2 hPx hPm hS
      by_cases c26 : op = 26
      · refine lv_tableIn (off := 776) (tgt := 808) hx hb dL_law_32 (by rw [c26]; decide) (by rw [c26]; decide) (by rw [c26]; rfl) (by decide) ?_
        obtain ⟨r, Mx2, Mm2, eX, eM, hR2⟩ := s_keep Mx Mm hR (xs (i3 + 1).toNatClampNeg)
        refine lv_aload_n hx hb dL_law_808 rfl (lv_at hl 1 rfl) ?_
        refine lv_aload_n hx hb dL_law_809 rfl (lv_at hl 0 rfl) ?_
        refine lv_iload_n hx hb dL_law_810 rfl (lv_at hl 3 rfl) ?_
        refine lv_iconst (v := 1) hx hb dL_law_811 (by decide) ?_
        refine lv_iadd hx hb dL_law_812 ?_
        refine va_sld hx hb hX hbl hbA hS v1 dL_law_813 ?_
        refine gl_x (va_runV (As := [.int (xs (i3 + 1).toNatClampNeg)]) (rest := []) hFx (tX7_keep l dC dI kI ad (xs (i3 + 1).toNatClampNeg) Mx eX) ⟨gc_B hFx ck_yX7_keep lkM_L_121 ⟨Nat.le_of_ble_eq_true rfl, Nat.le_of_ble_eq_true rfl⟩ rfl rfl, hg _ vi_yX7_keep, hg _ vs_yX7_keep⟩ (gp_V x_KnB (x_KnW hKx) hPx (x_rc7 (c := 0) rfl hKx hPx)) rfl rfl hl.1 rfl (lv_room (Nat.le_of_ble_eq_true rfl)) dL_law_814 ⟨Nat.le_of_ble_eq_true rfl, Nat.le_of_ble_eq_true rfl⟩) hS hxB hPm dx (fun H locs hPx hPm hS => ?_)
        refine lv_aload_n hx hb dL_law_817 rfl (lv_at hl 2 rfl) ?_
        refine lv_aload_n hx hb dL_law_818 rfl (lv_at hl 0 rfl) ?_
        refine lv_iload_n hx hb dL_law_819 rfl (lv_at hl 3 rfl) ?_
        refine lv_iconst (v := 1) hx hb dL_law_820 (by decide) ?_
        refine lv_iadd hx hb dL_law_821 ?_
        refine va_sld hx hb hX hbl hbA hS v1 dL_law_822 ?_
        refine gl_m (va_runV (As := [.int (xs (i3 + 1).toNatClampNeg)]) (rest := [.int r]) hFx (tX8_keep l dC dI kI kZ ad2 (xs (i3 + 1).toNatClampNeg) Mm eM) ⟨gc_B hFx ck_yX8_keep lkM_L_124 ⟨Nat.le_of_ble_eq_true rfl, Nat.le_of_ble_eq_true rfl⟩ rfl rfl, hg _ vi_yX8_keep, hg _ vs_yX8_keep⟩ (gp_V m_KnB (m_KnW hKm) hPm (m_rc8 (c := 0) rfl hKm hPm)) rfl rfl hl.1 rfl (lv_room (Nat.le_of_ble_eq_true rfl)) dL_law_823 ⟨Nat.le_of_ble_eq_true rfl, Nat.le_of_ble_eq_true rfl⟩) hS hmB hPx dm (fun H locs hPx hPm hS => ?_)
        refine lv_icmp_eq (tgt := 854) hx hb dL_law_826 (by decide) (fun _ => ?_) (fun cz => absurd rfl cz)
        exact hinc Mx2 Mm2 H locs hR2 hPx hPm hS
      by_cases c27 : op = 27
      · refine lv_tableIn (off := 799) (tgt := 831) hx hb dL_law_32 (by rw [c27]; decide) (by rw [c27]; decide) (by rw [c27]; rfl) (by decide) ?_
        obtain ⟨r, Mx2, Mm2, eX, eM, hR2⟩ := s_goBack Mx Mm hR (xs (i3 + 1).toNatClampNeg)
        refine lv_aload_n hx hb dL_law_831 rfl (lv_at hl 1 rfl) ?_
        refine lv_aload_n hx hb dL_law_832 rfl (lv_at hl 0 rfl) ?_
        refine lv_iload_n hx hb dL_law_833 rfl (lv_at hl 3 rfl) ?_
        refine lv_iconst (v := 1) hx hb dL_law_834 (by decide) ?_
        refine lv_iadd hx hb dL_law_835 ?_
        refine va_sld hx hb hX hbl hbA hS v1 dL_law_836 ?_
        refine gl_x (va_runV (As := [.int (xs (i3 + 1).toNatClampNeg)]) (rest := []) hFx (tX7_goBack l dC dI kI ad (xs (i3 + 1).toNatClampNeg) Mx eX) ⟨gc_B hFx ck_yX7_goBack lkM_L_125 ⟨Nat.le_of_ble_eq_true rfl, Nat.le_of_ble_eq_true rfl⟩ rfl rfl, hg _ vi_yX7_goBack, hg _ vs_yX7_goBack⟩ (gp_V x_KnB (x_KnW hKx) hPx (x_rc7 (c := 0) rfl hKx hPx)) rfl rfl hl.1 rfl (lv_room (Nat.le_of_ble_eq_true rfl)) dL_law_837 ⟨Nat.le_of_ble_eq_true rfl, Nat.le_of_ble_eq_true rfl⟩) hS hxB hPm dx (fun H locs hPx hPm hS => ?_)
        refine lv_aload_n hx hb dL_law_840 rfl (lv_at hl 2 rfl) ?_
        refine lv_aload_n hx hb dL_law_841 rfl (lv_at hl 0 rfl) ?_
        refine lv_iload_n hx hb dL_law_842 rfl (lv_at hl 3 rfl) ?_
        refine lv_iconst (v := 1) hx hb dL_law_843 (by decide) ?_
        refine lv_iadd hx hb dL_law_844 ?_
        refine va_sld hx hb hX hbl hbA hS v1 dL_law_845 ?_
        refine gl_m (va_runV (As := [.int (xs (i3 + 1).toNatClampNeg)]) (rest := [.int r]) hFx (tX8_goBack l dC dI kI kZ ad2 (xs (i3 + 1).toNatClampNeg) Mm eM) ⟨gc_B hFx ck_yX8_goBack lkM_L_128 ⟨Nat.le_of_ble_eq_true rfl, Nat.le_of_ble_eq_true rfl⟩ rfl rfl, hg _ vi_yX8_goBack, hg _ vs_yX8_goBack⟩ (gp_V m_KnB (m_KnW hKm) hPm (m_rc8 (c := 0) rfl hKm hPm)) rfl rfl hl.1 rfl (lv_room (Nat.le_of_ble_eq_true rfl)) dL_law_846 ⟨Nat.le_of_ble_eq_true rfl, Nat.le_of_ble_eq_true rfl⟩) hS hmB hPx dm (fun H locs hPx hPm hS => ?_)
        refine lv_icmp_eq (tgt := 854) hx hb dL_law_849 (by decide) (fun _ => ?_) (fun cz => absurd rfl cz)
        exact hinc Mx2 Mm2 H locs hR2 hPx hPm hS
      have n0 := lv_neT (a := 0) c0 (by decide)
      have n1 := lv_neT (a := 1) c1 (by decide)
      have n2 := lv_neT (a := 2) c2 (by decide)
      have n3 := lv_neT (a := 3) c3 (by decide)
      have n4 := lv_neT (a := 4) c4 (by decide)
      have n5 := lv_neT (a := 5) c5 (by decide)
      have n6 := lv_neT (a := 6) c6 (by decide)
      have n7 := lv_neT (a := 7) c7 (by decide)
      have n8 := lv_neT (a := 8) c8 (by decide)
      have n9 := lv_neT (a := 9) c9 (by decide)
      have n10 := lv_neT (a := 10) c10 (by decide)
      have n11 := lv_neT (a := 11) c11 (by decide)
      have n12 := lv_neT (a := 12) c12 (by decide)
      have n13 := lv_neT (a := 13) c13 (by decide)
      have n14 := lv_neT (a := 14) c14 (by decide)
      have n15 := lv_neT (a := 15) c15 (by decide)
      have n16 := lv_neT (a := 16) c16 (by decide)
      have n17 := lv_neT (a := 17) c17 (by decide)
      have n18 := lv_neT (a := 18) c18 (by decide)
      have n19 := lv_neT (a := 19) c19 (by decide)
      have n20 := lv_neT (a := 20) c20 (by decide)
      have n21 := lv_neT (a := 21) c21 (by decide)
      have n22 := lv_neT (a := 22) c22 (by decide)
      have n23 := lv_neT (a := 23) c23 (by decide)
      have n24 := lv_neT (a := 24) c24 (by decide)
      have n25 := lv_neT (a := 25) c25 (by decide)
      have n26 := lv_neT (a := 26) c26 (by decide)
      have n27 := lv_neT (a := 27) c27 (by decide)
      refine lv_tableOut (tgt := 854) hx hb dL_law_32 (by omega) (by decide) ?_
      exact hinc Mx Mm H locs hR hPx hPm hS
set_option maxHeartbeats 40000000 in
set_option maxRecDepth 100000 in
theorem law_start {p : Program} {e : Env} {s : State} {m : MethodId} {below : List Frame} {meth : Method} {c : Code} (l : Launch) {b L : Nat} {xs : Nat → Int32} (hL : L ≤ 256) (C0 : lw_At p s m meth c b L xs) (RR : (Nat → Nat → Int32) → MM → Prop) (SA : SimAll RR) {M0 : MM} (hB : FX8_begins (um (m_Mi, 0) 1 3 10) = some M0) (hR : RR x_M0 M0) : W p l e room_1 s m #[Value.ref b] below meth c s.heap [] 0 0 (lw_Z below #[Value.ref b] s) (entryFrame m ([Value.ref b] : List Value).toArray 4) := by
  obtain ⟨hx, hb, hr, hml, hown, hts, hX, hbl, hlocks, hgv⟩ := id C0
  have hown : s.vm.findClass RL = some m.cls := hown
  have hg : ∀ w ∈ lw_good, w.before #[Value.ref b] s = true := fun w h => hts w (List.mem_filter.mp h).1
  have hFx : gFix p c code 4 s m #[Value.ref b] RL := ⟨hx, hb, hml, hown, hg⟩
  have hA : ∀ q : Nat, s.heap.size ≤ q → (fun q : Nat => s.heap.size ≤ q) q := fun _ h => h
  have hN : NestOK s := nestOK_of hts
  obtain ⟨kI, kZ, hkI, hkZ⟩ := law_kI hg
  obtain ⟨c0, i0, k0⟩ := u_known (C := RX0) (T := TX0) (N := 3) (n := 3) hg inX0 (hg _ is_X0)
  obtain ⟨c1, i1, k1⟩ := u_known (C := RX1) (T := TX1) (N := 10) (n := 10) hg inX1 (hg _ is_X1)
  obtain ⟨c2, i2, k2⟩ := u_known (C := RX2) (T := TX2) (N := 7) (n := 7) hg inX2 (hg _ is_X2)
  obtain ⟨c3, i3, k3⟩ := u_known (C := RX3) (T := TX3) (N := 6) (n := 6) hg inX3 (hg _ is_X3)
  obtain ⟨c4, i4, k4⟩ := u_known (C := RX4) (T := TX4) (N := 3) (n := 3) hg inX4 (hg _ is_X4)
  obtain ⟨c5, i5, k5⟩ := u_known (C := RX5) (T := TX5) (N := 3) (n := 3) hg inX5 (hg _ is_X5)
  obtain ⟨c6, i6, k6⟩ := u_known (C := RX6) (T := TX6) (N := 1) (n := 1) hg inX6 (hg _ is_X6)
  obtain ⟨c7, i7, k7⟩ := u_known (C := RX7) (T := TX7) (N := 14) (n := 14) hg inX7 (hg _ is_X7)
  obtain ⟨c8, i8, k8⟩ := u_known (C := RX8) (T := TX8) (N := 29) (n := 29) hg inX8 (hg _ is_X8)
  obtain ⟨dC, dI, hKc⟩ : ∃ (dC : Nat → ClassId) (dI : Nat → Nat → Nat), ∀ (k : Nat) (q : vw_C), vwCl[k]? = some q → u_Kn s q.1 q.2.1 q.2.2 (dC k) (dI k) := by
    refine ⟨fun k => match k with | 0 => c0 | 1 => c1 | 2 => c2 | 3 => c3 | 4 => c4 | 5 => c5 | 6 => c6 | 7 => c7 | _ => c8, fun k => match k with | 0 => i0 | 1 => i1 | 2 => i2 | 3 => i3 | 4 => i4 | 5 => i5 | 6 => i6 | 7 => i7 | _ => i8, ?_⟩
    intro k q hq
    match k, hq with
    | 0, hq => cases hq; exact k0
    | 1, hq => cases hq; exact k1
    | 2, hq => cases hq; exact k2
    | 3, hq => cases hq; exact k3
    | 4, hq => cases hq; exact k4
    | 5, hq => cases hq; exact k5
    | 6, hq => cases hq; exact k6
    | 7, hq => cases hq; exact k7
    | 8, hq => cases hq; exact k8
    | k + 9, hq => simp [vwCl] at hq
  have hK2 : va_K (dC, dI) vwCl [(kI, .int), (kZ, .boolean)] s := by
    refine ⟨hKc, fun k q h => ?_⟩
    match k, h with
    | 0, h => cases h; exact hkI
    | 1, h => cases h; exact hkZ
    | k + 2, h => simp at h
  have hK : va_K (dC, dI) vwCl [(kI, .int)] s := hK2.sub [0] rfl
  have hP : va_P (dC, dI) vwCl [] s.heap := fun k q h => by simp at h
  have hD : va_D (fun q : Nat => s.heap.size ≤ q) [] := ⟨fun i j p q h => by simp at h, fun k q h => by simp at h⟩
  have hS : va_S (fun q : Nat => s.heap.size ≤ q) s.heap s.heap [] := va_S.rf
  have hl := lv_entry ([.ref b]) (n := 4) (Nat.le_of_ble_eq_true rfl)
  rw [lg_entry_eq]
  generalize (lg_sl ([.ref b]) ++ List.replicate (4 - (lg_sl ([.ref b])).length) Slot.unset).toArray = ls at hl ⊢
  have hl : lv_has ls 4 [(0, .ref b)] := hl
  refine va_new (ci := 7) (fs := [.null, .null, .null, .null, .null, .null, .null, .null, .null, .null, .int 0, .int 0, .null, .null]) (C := RX7) (T := TX7) (N := 14) hx hb hg inX7 tyX7 tyX7_ok hown (hg _ cl_L_7) (hg _ is_X7) (hg _ ini_X7) hK hP hD hS hA rfl (fun j hj => by rcases (show j = 0 ∨ j = 1 ∨ j = 2 ∨ j = 3 ∨ j = 4 ∨ j = 5 ∨ j = 6 ∨ j = 7 ∨ j = 8 ∨ j = 9 ∨ j = 10 ∨ j = 11 ∨ j = 12 ∨ j = 13 by omega) with rfl | rfl | rfl | rfl | rfl | rfl | rfl | rfl | rfl | rfl | rfl | rfl | rfl | rfl <;> rfl) (Nat.le_of_ble_eq_true rfl) (Nat.le_of_ble_eq_true rfl) dL_law_0 (fun h0 H hP hD hS => ?_)
  refine W.cs (cells' := 1) (slots' := 14) rfl rfl ?_
  have hP : va_P (dC, dI) vwCl [(h0, .inr (7, [.null, .null, .null, .null, .null, .null, .null, .null, .null, .null, .int 0, .int 0, .null, .null]))] H := hP
  have hD : va_D (fun q : Nat => s.heap.size ≤ q) [(h0, .inr (7, [.null, .null, .null, .null, .null, .null, .null, .null, .null, .null, .int 0, .int 0, .null, .null]))] := hD
  refine lv_dup hx hb dL_law_3 rfl ?_
  have hFc := va_free (wc := [(h0, .inr (7, [.null, .null, .null, .null, .null, .null, .null, .null, .null, .null, .int 0, .int 0, .null, .null]))]) hD hS hA [0] rfl
  refine va_callv (va_runI (As := []) (rest := [.ref h0]) hFx (tX7_init l dC dI kI h0 H.size) ⟨gc_B2 hFx ck_yX7_init lkM_L_9 ⟨Nat.le_of_ble_eq_true rfl, Nat.le_of_ble_eq_true rfl⟩ rfl rfl, rfl, hg _ vi_yX7_init⟩ (kn0S hP hK hN) rfl rfl hl.1 rfl (lv_room (Nat.le_of_ble_eq_true rfl)) dL_law_4 ⟨Nat.le_of_ble_eq_true rfl, Nat.le_of_ble_eq_true rfl⟩) hS (fun q _ h => hFc q h) hFc (fun u t H1 locs ht hvm hw hB1 hz1 hk1 hS => ?_)
  obtain ⟨ad, e0, hP1, hD1⟩ := hB1
  rw [ht] at hP1
  have hDx : va_D (fun q : Nat => s.heap.size ≤ q) (x_w kI ad x_M0) := hD1.weaken (fun _ _ _ hh => hFc _ hh)
  subst e0
  generalize H1 = H at hP1 hS ⊢
  refine W.cs (cells' := 39) (slots' := 860) rfl rfl ?_
  refine lv_astore_n (lv' := [(1, .ref (ad 0)), (0, .ref b)]) hx hb dL_law_7 rfl hl (by decide) rfl (fun ls hl => ?_)
  refine va_new (ci := 8) (fs := [.null, .null, .null, .null, .int 0, .null, .null, .long 0, .null, .int 0, .int 0, .null, .int 0, .null, .int 0, .int 0, .int 0, .int 0, .int 0, .int 0, .int 0, .null, .null, .int 0, .int 0, .null, .null, .null, .null]) (C := RX8) (T := TX8) (N := 29) hx hb hg inX8 tyX8 tyX8_ok hown (hg _ cl_L_10) (hg _ is_X8) (hg _ ini_X8) hK hP1 hDx hS hA rfl (fun j hj => by rcases (show j = 0 ∨ j = 1 ∨ j = 2 ∨ j = 3 ∨ j = 4 ∨ j = 5 ∨ j = 6 ∨ j = 7 ∨ j = 8 ∨ j = 9 ∨ j = 10 ∨ j = 11 ∨ j = 12 ∨ j = 13 ∨ j = 14 ∨ j = 15 ∨ j = 16 ∨ j = 17 ∨ j = 18 ∨ j = 19 ∨ j = 20 ∨ j = 21 ∨ j = 22 ∨ j = 23 ∨ j = 24 ∨ j = 25 ∨ j = 26 ∨ j = 27 ∨ j = 28 by omega) with rfl | rfl | rfl | rfl | rfl | rfl | rfl | rfl | rfl | rfl | rfl | rfl | rfl | rfl | rfl | rfl | rfl | rfl | rfl | rfl | rfl | rfl | rfl | rfl | rfl | rfl | rfl | rfl | rfl <;> rfl) (Nat.le_of_ble_eq_true rfl) (Nat.le_of_ble_eq_true rfl) dL_law_8 (fun h1 H hP hD hS => ?_)
  refine W.cs (cells' := 40) (slots' := 889) rfl rfl ?_
  refine lv_dup hx hb dL_law_11 rfl ?_
  have hPx := vP_l hP
  have hPo := vP_r hP
  have hFo : ∀ q : Nat, va_A [(h1, .inr (8, [.null, .null, .null, .null, .int 0, .null, .null, .long 0, .null, .int 0, .int 0, .null, .int 0, .null, .int 0, .int 0, .int 0, .int 0, .int 0, .int 0, .int 0, .null, .null, .int 0, .int 0, .null, .null, .null, .null]))] H.size q → s.heap.size ≤ q := by
    intro q hq
    rcases hq with ⟨k, e, h⟩ | h
    · exact hD.2 _ _ (vP_g h)
    · exact hA q (Nat.le_trans hS.1 h)
  have hxl : ∀ i, i < 39 → ad i < H.size ∧ ad i ≠ h1 := by
    intro i hi
    refine ⟨(hPx i _ (x_at hi)).lt, fun q => ?_⟩
    have z := hD.1 i 39 _ (h1, .inr (8, [.null, .null, .null, .null, .int 0, .null, .null, .long 0, .null, .int 0, .int 0, .null, .int 0, .null, .int 0, .int 0, .int 0, .int 0, .int 0, .int 0, .int 0, .null, .null, .int 0, .int 0, .null, .null, .null, .null])) (by rw [List.getElem?_append_left (by simp [x_w]; exact hi)]; exact x_at hi) (by rw [List.getElem?_append_right (by simp [x_w])]; simp [x_w]) q
    omega
  have hxi : ad_inj_x ad := fun i j hi hj e => hD.1 i j _ _ (by rw [List.getElem?_append_left (by simp [x_w]; exact hi)]; exact x_at hi) (by rw [List.getElem?_append_left (by simp [x_w]; exact hj)]; exact x_at hj) e
  have hxB : ∀ q, x_A ad q → s.heap.size ≤ q := fun q ⟨i, hi, e⟩ => by rw [e]; exact hD.2 i _ (by rw [List.getElem?_append_left (by simp [x_w]; exact hi)]; exact x_at hi)
  refine va_callv (va_runI (As := []) (rest := [.ref h1]) hFx (tX8_init l dC dI kI kZ h1 H.size hB) ⟨gc_B2 hFx ck_yX8_init lkM_L_12 ⟨Nat.le_of_ble_eq_true rfl, Nat.le_of_ble_eq_true rfl⟩ rfl rfl, rfl, hg _ vi_yX8_init⟩ (kn0S hPo hK2 hN) rfl rfl hl.1 rfl (lv_room (Nat.le_of_ble_eq_true rfl)) dL_law_12 ⟨Nat.le_of_ble_eq_true rfl, Nat.le_of_ble_eq_true rfl⟩) hS (fun q _ h => hFo q h) hFo (fun u t H1 locs ht hvm hw hB1 hz1 hk1 hS => ?_)
  obtain ⟨ad2, e0, hPm, hDm⟩ := hB1
  rw [ht] at hPm
  subst e0
  have hma : ∀ i, i < 16 → ad2 i = ad2 0 ∨ H.size ≤ ad2 i := by
    intro i hi
    rcases hDm.2 i _ (m_at hi) with ⟨k, e, h⟩ | h
    · match k, h with
      | 0, h => have h2 : some (ad2 0, _) = some (ad2 i, e) := h; exact Or.inl (congrArg Prod.fst (Option.some.inj h2)).symm
      | k + 1, h => simp at h
    · exact Or.inr h
  have hmB : ∀ q, m_A ad2 q → s.heap.size ≤ q := fun q ⟨i, hi, e⟩ => by rw [e]; exact hFo _ (hDm.2 i _ (m_at hi))
  have hmi : ad_inj_m ad2 := fun i j hi hj e => hDm.1 i j _ _ (m_at hi) (m_at hj) e
  have dxm : ∀ i j, i < 39 → j < 16 → ad i ≠ ad2 j := by
    intro i j hi hj q
    obtain ⟨a1, a2⟩ := hxl i hi
    rcases hma j hj with h | h
    · exact a2 (by rw [q, h])
    · omega
  have dx : ∀ i, i < 16 → ¬ x_A ad (ad2 i) := fun i hi ⟨j, hj, e⟩ => dxm j i hj hi e.symm
  have dm : ∀ i, i < 39 → ¬ m_A ad2 (ad i) := fun i hi ⟨j, hj, e⟩ => dxm i j hi hj e
  have hPx1 : va_P (dC, dI) vwCl (x_w kI ad x_M0) H1 := by
    refine hPx.kept fun k q hq => ?_
    rcases Nat.lt_or_ge k 39 with z | z
    · rw [x_at z] at hq
      cases hq
      refine hk1 _ (hxl k z).1 (fun h => ?_)
      rcases h with ⟨k2, e, h⟩ | h
      · match k2, h with
        | 0, h => have h2 : some (ad2 0, _) = some (ad k, e) := h; exact (hxl k z).2 (congrArg Prod.fst (Option.some.inj h2)).symm
        | k2 + 1, h => simp at h
      · exact absurd (hxl k z).1 (Nat.not_lt.mpr h)
    · rw [List.getElem?_eq_none (by simp [x_w]; exact z)] at hq
      cases hq
  generalize H1 = H at hPx1 hPm hS ⊢
  refine W.cs (cells' := 55) (slots' := 1800) rfl rfl ?_
  refine lv_astore_n (lv' := [(2, .ref (ad2 0)), (1, .ref (ad 0)), (0, .ref b)]) hx hb dL_law_15 rfl hl (by decide) rfl (fun ls hl => ?_)
  refine lv_iconst (v := 0) hx hb dL_law_16 (by decide) ?_
  refine lv_istore_n (lv' := [(3, .int 0), (2, .ref (ad2 0)), (1, .ref (ad 0)), (0, .ref b)]) hx hb dL_law_17 rfl hl (by decide) rfl (fun ls hl => ?_)
  exact law_loop l hL C0 RR SA ⟨hK, hxi, hN⟩ ⟨hK2, hmi, hN⟩ hxB hmB dx dm (L + 1) 0 0 x_M0 M0 _ _ _ (Nat.zero_le L) (by omega) nI_0.symm hR hPx1 hPm hS (lv_sub hl [3, 2, 1, 0] rfl)
