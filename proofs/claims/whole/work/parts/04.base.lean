/-! ===== the frame of this proof: words that any method may use, flat memories, calls ===== -/
def lw_good : List Cond := lw_tbl.filter goodWord
theorem lw_in {w : Cond} (h : w ∈ lw_tbl) (g : goodWord w = true) : w ∈ lw_good := List.mem_filter.mpr ⟨h, g⟩
theorem lw_gg {w : Cond} (h : w ∈ lw_good) : (w.onTables && w.keeps) = true ∨ ∃ ty, w = .arrayClass ty := good_of_word (List.mem_filter.mp h).2
/-- the words of every method: its own code, then all that are good -/
def wsA (y : MethodName) (b : ByteArray) (n : Nat) (ret : Option FieldType) : List Cond := .code y b n ret :: lw_good
theorem wsA_good {y : MethodName} {b : ByteArray} {n : Nat} {ret : Option FieldType} (h : Cond.code y b n ret ∈ lw_good) : GoodIn lw_good (wsA y b n ret) := by
  intro w hw
  rcases List.mem_cons.mp hw with rfl | hw
  · exact ⟨h, lw_gg h⟩
  · exact ⟨hw, lw_gg hw⟩
/-- links that are private to nest mates: each is carried as a fact of the state -/
def isNestW : Cond → Bool
  | .fieldLinkNest _ _ _ _ _ _ => true
  | .methodLinkNest _ _ _ _ => true
  | _ => false
def nestW : List Cond := lw_tbl.filter isNestW
theorem nest_in {w : Cond} (h : w ∈ lw_tbl) (g : isNestW w = true) : w ∈ nestW := List.mem_filter.mpr ⟨h, g⟩
def NestOK (U : State) : Prop := ∀ w ∈ nestW, va_Nw w U
theorem nestOK_warm {s U : State} (hW : s.WarmedH U.vm) (h : NestOK s) : NestOK U := by
  intro w hw
  have h1 := h w hw
  have h2 := (List.mem_filter.mp hw).2
  cases w <;> first | exact va_Nw.warmF hW h1 | exact va_Nw.warmM hW h1 | exact Bool.noConfusion h2
theorem nest_tab {w : Cond} (h : isNestW w = true) : w.onTables = true := by
  cases w <;> first | rfl | exact Bool.noConfusion h
theorem nestOK_blind {s U : State} (hv : s.vm = U.vm) (h : NestOK s) : NestOK U := fun w hw => va_Nw.same (nest_tab (List.mem_filter.mp hw).2) hv (h w hw)
theorem nestOK_of {A : Array Value} {U : State} (h : ∀ w ∈ lw_tbl, w.before A U = true) : NestOK U := fun w hw => va_Nw.of (nest_tab (List.mem_filter.mp hw).2) (h w (List.mem_filter.mp hw).1)
theorem nest_use {w : Cond} {A : Array Value} {U : State} (h : NestOK U) (hw : w ∈ nestW) : w.before A U = true := va_Nw.use (nest_tab (List.mem_filter.mp hw).2) (h w hw)
-- a memory: a cell's number, a place, its int
def upd2 (M : Nat → Nat → Int32) (c k : Nat) (v : Int32) : Nat → Nat → Int32 := fun a => if a = c then upd (M a) k v else M a
theorem upd2_at (M : Nat → Nat → Int32) (c k : Nat) (v : Int32) (a b : Nat) : upd2 M c k v a b = if a = c ∧ b = k then v else M a b := by
  unfold upd2 upd
  by_cases h : a = c
  · rw [if_pos h]
    by_cases h2 : b = k
    · rw [if_pos h2, if_pos ⟨h, h2⟩]
    · rw [if_neg h2, if_neg (fun q => h2 q.2)]
  · rw [if_neg h, if_neg (fun q => h q.1)]
theorem upd2_c (M : Nat → Nat → Int32) (c k : Nat) (v : Int32) : upd2 M c k v c = upd (M c) k v := by unfold upd2; rw [if_pos rfl]
theorem upd2_n (M : Nat → Nat → Int32) (k : Nat) (v : Int32) {a c : Nat} (h : a ≠ c) : upd2 M c k v a = M a := by unfold upd2; rw [if_neg h]
-- the shapes of the pure texts
def jn {α β : Type} (k : α) (f : α → β) : β := f k
def lt {α β : Type} (k : α) (f : α → β) : β := f k
def bd {α β γ : Type} (o : Option (α × β)) (f : α → β → Option γ) : Option γ := match o with
  | none => none
  | some q => f q.1 q.2
def bo {α γ : Type} (o : Option α) (f : α → Option γ) : Option γ := match o with
  | none => none
  | some q => f q
abbrev inb (i : Int32) (n : Nat) : Prop := 0 ≤ i.toInt ∧ i.toInt < (n : Int)
abbrev bo01 (v : Int32) : Prop := v = 0 ∨ v = 1
theorem bd_use {α β γ : Type} {o : Option (α × β)} {f : α → β → Option γ} {r : γ} (h : bd o f = some r) : ∃ a b, o = some (a, b) ∧ f a b = some r := by
  cases o with
  | none => cases h
  | some q => exact ⟨q.1, q.2, rfl, h⟩
theorem bo_use {α γ : Type} {o : Option α} {f : α → Option γ} {r : γ} (h : bo o f = some r) : ∃ a, o = some a ∧ f a = some r := by
  cases o with
  | none => cases h
  | some q => exact ⟨q, rfl, h⟩
theorem jn_use {α β : Type} {k : α} {f : α → Option β} {r : β} (h : jn k f = some r) : ∃ J, J = k ∧ f J = some r := ⟨k, rfl, h⟩
theorem lt_use {α β : Type} {k y : α} {f : α → Option β} {r : β} (e : y = k) (h : lt k f = some r) : f y = some r := by subst e; exact h
theorem if_use {c : Prop} [Decidable c] {α : Type} {A : Option α} {r : α} (h : (if c then A else none) = some r) : c ∧ A = some r := by
  by_cases q : c
  · rw [if_pos q] at h; exact ⟨q, h⟩
  · rw [if_neg q] at h; cases h
theorem ifn_use {c : Prop} [Decidable c] {α : Type} {A : Option α} {r : α} (h : (if c then none else A) = some r) : ¬ c ∧ A = some r := by
  by_cases q : c
  · rw [if_pos q] at h; cases h
  · rw [if_neg q] at h; exact ⟨q, h⟩
theorem ife_t {c : Prop} [Decidable c] {α : Type} {A B : Option α} {r : α} (q : c) (h : (if c then A else B) = some r) : A = some r := (if_pos q).symm.trans h
theorem ife_f {c : Prop} [Decidable c] {α : Type} {A B : Option α} {r : α} (q : ¬ c) (h : (if c then A else B) = some r) : B = some r := (if_neg q).symm.trans h
theorem exK {σ R : Type} {Lp : σ → Option R} {k : σ} {r : R} (h : Lp k = some r) : ∃ K, K = k ∧ Lp K = some r := ⟨k, rfl, h⟩
theorem useK1 {a : Type} {R : Type} {K k : a → R} (e : K = k) {x : a} {r : R} (h : K x = r) : k x = r := by subst e; exact h
theorem useK2 {a b : Type} {R : Type} {K k : a → b → R} (e : K = k) {x : a} {y : b} {r : R} (h : K x y = r) : k x y = r := by subst e; exact h
theorem useK3 {a b c : Type} {R : Type} {K k : a → b → c → R} (e : K = k) {x : a} {y : b} {z : c} {r : R} (h : K x y z = r) : k x y z = r := by subst e; exact h
theorem useK4 {a b c d : Type} {R : Type} {K k : a → b → c → d → R} (e : K = k) {x : a} {y : b} {z : c} {w : d} {r : R} (h : K x y z w = r) : k x y z w = r := by subst e; exact h
theorem useK5 {a b c d f : Type} {R : Type} {K k : a → b → c → d → f → R} (e : K = k) {x : a} {y : b} {z : c} {w : d} {v : f} {r : R} (h : K x y z w v = r) : k x y z w v = r := by subst e; exact h
theorem useK6 {a b c d f g : Type} {R : Type} {K k : a → b → c → d → f → g → R} (e : K = k) {x : a} {y : b} {z : c} {w : d} {v : f} {u : g} {r : R} (h : K x y z w v u = r) : k x y z w v u = r := by subst e; exact h
theorem useK7 {a b c d f g i : Type} {R : Type} {K k : a → b → c → d → f → g → i → R} (e : K = k) {x : a} {y : b} {z : c} {w : d} {v : f} {u : g} {t : i} {r : R} (h : K x y z w v u t = r) : k x y z w v u t = r := by subst e; exact h
theorem inb_vp {i : Int32} {n : Nat} (h : inb i n) : vp_in i n := vp_in_iff.mpr h
theorem narrow_b01 {v : Int32} (h : bo01 v) : narrow .boolean (.int v) = .int v := by
  rcases h with rfl | rfl <;> rfl
theorem fits_b01 {v : Int32} (h : bo01 v) : fits .boolean (.int v) = true := by
  rcases h with rfl | rfl <;> rfl

section GC
variable {p : Program} {l : Launch} {e : Env} {R : Room} {s : State} {m : MethodId} {args : Array Value} {below : List Frame} {meth : Method} {c : Code} {H : Heap} {locs : List Loc} {cells slots : Nat} {Q : State → Prop}
variable {cc : ByteArray} {pc nL : Nat} {ls : Array Slot} {rest st0 : List Value} {A : Nat → Prop} {H0 : Heap} {own : String}
/-- a world of memories of a kind, and what stays -/
def gI {S : Type} (Wd : S → Heap → Prop) (Kn : State → Prop) (M : S) (U : State) : Prop := Wd M U.heap ∧ Kn U
def knB (Kn : State → Prop) : Prop := ∀ (a : Array Value) (U : State) (g : JFrame) (mk : MethodId), Kn U → Kn (U.calling g mk a)
def knW (Kn : State → Prop) (s : State) : Prop := ∀ U : State, s.WarmedH U.vm → Kn U
/-- what a method that is called is, but for its link -/
def gCK (y : MethodName) (bytes : ByteArray) (maxL : Nat) (ret : Option FieldType) (n : Nat) : Prop := Cond.code y bytes maxL ret ∈ lw_good ∧ Cond.initialized y.cls ∈ lw_good ∧ (y.cls ≠ "java/lang/invoke/MethodHandle" ∧ y.cls ≠ "java/lang/invoke/VarHandle") ∧ (parseMethodDescriptor y.desc).map (fun d => d.parameters.length) = some n
theorem gCK_len {y : MethodName} {bytes : ByteArray} {maxL : Nat} {ret : Option FieldType} {n : Nat} (h : gCK y bytes maxL ret n) : ∀ sig, parseMethodDescriptor y.desc = some sig → n = sig.parameters.length := by
  intro sig hs
  have h2 := h.2.2.2
  rw [hs] at h2
  exact (Option.some.inj h2).symm
theorem gc_blind {S : Type} {Wd : S → Heap → Prop} {Kn : State → Prop} (hB : knB Kn) (M : S) (av : List Value) : FrameBlind (va_Pc av (gI Wd Kn M)) := fun a U g mk q => ⟨q.1, q.2.1, hB a U g mk q.2.2⟩
abbrev gFix (p : Program) (c : Code) (cc : ByteArray) (nL : Nat) (s : State) (m : MethodId) (args : Array Value) (own : String) : Prop := p.tables.exec = Jvm.exec ∧ c.code = cc ∧ c.maxLocals = nL ∧ s.vm.findClass own = some m.cls ∧ ∀ w ∈ lw_good, w.before args s = true
theorem gc_B {y : MethodName} {bytes : ByteArray} {maxL n index : Nat} {ret : Option FieldType} {rm : Room} (F : gFix p c cc nL s m args own) (ck : gCK y bytes maxL ret n) (hl : Cond.methodLink own index y ∈ lw_good) (hR : rm.frames + 1 ≤ R.frames ∧ 8 + (maxL + 11) + rm.locals ≤ R.locals) (hc : rm.cells = 0) (hs : rm.slots = 0) : CallB R s args own index y bytes maxL ret (wsA y bytes maxL ret) rm 0 0 n :=
  ⟨hc, hs, hR.1, hR.2, pay_in F.2.2.2.2 (wsA_good ck.1), List.mem_cons_self, F.2.2.2.2 _ ck.1, F.2.2.2.2 _ ck.2.1, ck.2.2.1, gCK_len ck, F.2.2.2.2 _ hl⟩
theorem gc_N {y : MethodName} {bytes : ByteArray} {maxL n index : Nat} {ret : Option FieldType} {rm : Room} {host : String} (F : gFix p c cc nL s m args own) (hN : NestOK s) (ck : gCK y bytes maxL ret n) (hl : Cond.methodLinkNest own index y host ∈ nestW) (hR : rm.frames + 1 ≤ R.frames ∧ 8 + (maxL + 11) + rm.locals ≤ R.locals) (hc : rm.cells = 0) (hs : rm.slots = 0) : va_CN R s args own index y host bytes maxL ret (wsA y bytes maxL ret) rm 0 0 n :=
  ⟨⟨hc, hs, hR.1, hR.2, pay_in F.2.2.2.2 (wsA_good ck.1), List.mem_cons_self⟩, F.2.2.2.2 _ ck.1, F.2.2.2.2 _ ck.2.1, ck.2.2.1, gCK_len ck, nest_use hN hl⟩
/-- behind a call that answers an int -/
theorem gc_i {S : Type} {Wd : S → Heap → Prop} {Kn : State → Prop} {a : Array Value} {r0 : Int32} {M1 : S} (hr : va_Run p l e R s m args below meth c H locs cells slots 0 0 (F0 m pc ls st0) rest (va_Qi (fun (r : Int32) (u : S) => r = r0 ∧ u = M1) (gI Wd Kn) A a) A) (hS : va_S A H0 H locs)
    (kk : ∀ (H : Heap) (locs : List Loc), Wd M1 H → va_S A H0 H locs → W p l e R s m args below meth c H locs cells slots Q (F0 m (pc + 3) ls (.int r0 :: rest))) : W p l e R s m args below meth c H locs cells slots Q (F0 m pc ls st0) :=
  va_calli hr hS (fun _ _ h => h) (fun _ h => h) (fun r u t H1 locs1 ht _ hw hB _ _ hS1 => by
    obtain ⟨rfl, rfl⟩ := hw
    exact kk H1 locs1 (ht ▸ hB.1) hS1)
theorem gc_v {S : Type} {Wd : S → Heap → Prop} {Kn : State → Prop} {a : Array Value} {M1 : S} (hr : va_Run p l e R s m args below meth c H locs cells slots 0 0 (F0 m pc ls st0) rest (va_Qv (fun u : S => u = M1) (gI Wd Kn) A a) A) (hS : va_S A H0 H locs)
    (kk : ∀ (H : Heap) (locs : List Loc), Wd M1 H → va_S A H0 H locs → W p l e R s m args below meth c H locs cells slots Q (F0 m (pc + 3) ls rest)) : W p l e R s m args below meth c H locs cells slots Q (F0 m pc ls st0) :=
  va_callv hr hS (fun _ _ h => h) (fun _ h => h) (fun u t H1 locs1 ht _ hw hB _ _ hS1 => by
    subst hw
    exact kk H1 locs1 (ht ▸ hB.1) hS1)
theorem gp_V {S : Type} {Wd : S → Heap → Prop} {Kn : State → Prop} {C : String} {b : Addr} {As : List Value} {M : S} (hB : knB Kn) (hW : knW Kn s) (hM : Wd M H) (hrecv : ∃ cell : Cell, H[b]? = some cell ∧ cell.vm.isStatics = false ∧ s.vm.findClass C = some cell.cls) : PreV s H C b (va_Pc (.ref b :: As) (gI Wd Kn M)) As :=
  ⟨gc_blind hB M _, hrecv, fun U hU hWU => ⟨rfl, by rw [hU]; exact hM, hW U hWU⟩⟩
theorem gp_S {S : Type} {Wd : S → Heap → Prop} {Kn : State → Prop} {As : List Value} {M : S} (hB : knB Kn) (hW : knW Kn s) (hM : Wd M H) : PreS s H (va_Pc As (gI Wd Kn M)) As :=
  ⟨gc_blind hB M _, fun U hU hWU => ⟨rfl, by rw [hU]; exact hM, hW U hWU⟩⟩
end GC
theorem useK0 {R : Type} {K k : R} (e : K = k) {r : R} (h : K = r) : k = r := by subst e; exact h
theorem vp_eq {D : va_G} {cl : List vw_C} {ws ws' : va_W} {H : Heap} (e : ws = ws') (h : va_P D cl ws H) : va_P D cl ws' H := e ▸ h
abbrev ix (i : Int32) : Nat := i.toNatClampNeg
def fuelN : Nat := 100000
