/-! ===== reading, the reference's side; sheets on both sides ===== -/
def setR (M : MM) (c : Nat) (r : Nat → Int32) : MM := (fun a => if a = c then r else M.1 a, M.2)
theorem setR_c (M : MM) (c : Nat) (r : Nat → Int32) : (setR M c r).1 c = r := if_pos rfl
theorem setR_n (M : MM) (r : Nat → Int32) {a c : Nat} (h : a ≠ c) : (setR M c r).1 a = M.1 a := if_neg h
theorem setR_2 (M : MM) (c : Nat) (r : Nat → Int32) : (setR M c r).2 = M.2 := rfl
theorem um_setR (M : MM) (c k : Nat) (v : Int32) : um M c k v = setR M c (upd (M.1 c) k v) := by
  unfold um setR upd2
  refine Prod.ext ?_ rfl
  funext a
  show (if a = c then upd (M.1 a) k v else M.1 a) = if a = c then upd (M.1 c) k v else M.1 a
  by_cases h : a = c
  · rw [if_pos h, if_pos h, h]
  · rw [if_neg h, if_neg h]
theorem setR_setR (M : MM) (c : Nat) (r r2 : Nat → Int32) : setR (setR M c r) c r2 = setR M c r2 := by
  unfold setR
  refine Prod.ext ?_ rfl
  funext a
  show (if a = c then r2 else if a = c then r else M.1 a) = if a = c then r2 else M.1 a
  by_cases h : a = c
  · rw [if_pos h, if_pos h]
  · rw [if_neg h, if_neg h, if_neg h]
theorem setR_self (M : MM) (c : Nat) : setR M c (M.1 c) = M := by
  unfold setR
  refine Prod.ext ?_ rfl
  funext a
  show (if a = c then M.1 c else M.1 a) = M.1 a
  by_cases h : a = c
  · rw [if_pos h, h]
  · rw [if_neg h]
theorem add_n (a f : Nat) : nI a + nI f = nI (a + f) := nI_add a f
abbrev mRow (c : Nat) : Prop := c = 3 ∨ c = 10 ∨ c = 11
theorem mlen {c : Nat} (h : mRow c) : m_len c = 17 := by rcases h with rfl | rfl | rfl <;> rfl
theorem m_reads {M : MM} {c : Nat} {by_ u : Nat → Int32} {kk no nf hh N f : Nat} (hc : mRow c) (C : CityI (M.1 1) kk no nf hh) (eu : M.1 c = u) (rI : RdI u N) (hN : N < 2 ^ 30) (hf : f < nf) : FX8_reads c (nI f) (by_ f) M = some (sConv (M.1 1) by_ u f, setR M c (sRead (M.1 1) by_ u f)) := by
  subst eu
  obtain ⟨-, -, -, hg3, -, hno, hnf, -, -, hF⟩ := C
  obtain ⟨⟨o, ho, eo⟩, -, hp, -, -⟩ := hF f hf
  obtain ⟨q, hq, eq⟩ := rI f (by omega)
  have e10 : (10 : Int32) + nI f = nI (10 + f) := add_n 10 f
  have e26 : (26 : Int32) + nI f = nI (26 + f) := add_n 26 f
  have e34 : (34 : Int32) + nI f = nI (34 + f) := add_n 34 f
  have e5 : (5 : Int32) + nI f = nI (5 + f) := add_n 5 f
  have i10 : ix (nI (10 + f)) = 10 + f := ix_n (by omega)
  have i26 : ix (nI (26 + f)) = 26 + f := ix_n (by omega)
  have i34 : ix (nI (34 + f)) = 34 + f := ix_n (by omega)
  have i5 : ix (nI (5 + f)) = 5 + f := ix_n (by omega)
  have io : ix (nI o) = o := ix_n (by omega)
  have b10 : inb (nI (10 + f)) 50 := inb_n (by omega) (by decide)
  have b26 : inb (nI (26 + f)) 50 := inb_n (by omega) (by decide)
  have b34 : inb (nI (34 + f)) 50 := inb_n (by omega) (by decide)
  have b5 : inb (nI (5 + f)) 17 := inb_n (by omega) (by decide)
  have bO : inb (nI o) 17 := inb_n (by omega) (by decide)
  have c1 : c ≠ 1 := by rcases hc with rfl | rfl | rfl <;> decide
  have nz : ¬ (1 + M.1 c (5 + f)) = 0 := by rw [eq, one_add]; exact nI_ne0 (by omega) (by omega)
  -- the ending
  have fin : ∀ v : Int32, v = sAfter (M.1 1) by_ (M.1 c) f → ∀ M2 : MM, M2 = setR M c (upd (M.1 c) o v) → (if inb (nI (5 + f)) 17 then (if inb (nI (5 + f)) 17 then (if (um M2 c (ix (nI (5 + f))) (M2.1 c (ix (nI (5 + f))) + 1)).1 1 3 ≤ M.1 c o then some ((0 : Int32), um M2 c (ix (nI (5 + f))) (M2.1 c (ix (nI (5 + f))) + 1)) else (if inb (nI o) 17 then (if (um M2 c (ix (nI (5 + f))) (M2.1 c (ix (nI (5 + f))) + 1)).1 c o < (um M2 c (ix (nI (5 + f))) (M2.1 c (ix (nI (5 + f))) + 1)).1 1 3 then some (0, um M2 c (ix (nI (5 + f))) (M2.1 c (ix (nI (5 + f))) + 1)) else some (1, um M2 c (ix (nI (5 + f))) (M2.1 c (ix (nI (5 + f))) + 1))) else none)) else none) else none) = some (sConv (M.1 1) by_ (M.1 c) f, setR M c (sRead (M.1 1) by_ (M.1 c) f)) := by
    intro v hv M2 hM2
    have s5 : M2.1 c (5 + f) = M.1 c (5 + f) := by rw [hM2, setR_c, upd_at, if_neg (by omega)]
    have sM : um M2 c (5 + f) (M.1 c (5 + f) + 1) = setR M c (sRead (M.1 1) by_ (M.1 c) f) := by
      rw [um_setR, hM2, setR_setR, setR_c]
      unfold sRead
      rw [eo, io, ← hv]
    have s3 : (setR M c (sRead (M.1 1) by_ (M.1 c) f)).1 1 3 = M.1 1 3 := by rw [setR_n _ _ (fun z => c1 z.symm)]
    have so : (setR M c (sRead (M.1 1) by_ (M.1 c) f)).1 c o = v := by
      rw [setR_c]
      unfold sRead
      rw [upd_at, if_neg (by omega), eo, io, upd_at, if_pos rfl, hv]
    rw [if_pos b5, if_pos b5, i5, s5, sM, s3, so]
    unfold sConv
    rw [eo, io, ← hv]
    by_cases h1 : M.1 1 3 ≤ M.1 c o
    · rw [if_pos h1, if_pos h1]
    · rw [if_neg h1, if_neg h1, if_pos bO]
      by_cases h2 : v < M.1 1 3
      · rw [if_pos h2, if_pos h2]
      · rw [if_neg h2, if_neg h2]
  unfold FX8_reads
  rw [e10, e26, e34, e5, mlen hc, if_pos b10, if_pos b26, i10, i26, i34, eo, if_pos bO, jn_s, jn_s, io]
  have hv0 : sAfter (M.1 1) by_ (M.1 c) f = if M.1 1 (26 + f) = 9 ∨ M.1 1 (34 + f) ≤ M.1 c (ix (M.1 1 (26 + f))) then sBound (M.1 c o + by_ f / (1 + M.1 c (5 + f))) else M.1 c o := by
    unfold sAfter
    rw [eo, io]
  have j51 : M.1 1 (26 + f) = 9 ∨ M.1 1 (34 + f) ≤ M.1 c (ix (M.1 1 (26 + f))) → ∀ k : MM → Option (Int32 × MM), (∀ v : Int32, v = sAfter (M.1 1) by_ (M.1 c) f → ∀ M2 : MM, M2 = setR M c (upd (M.1 c) o v) → k M2 = some (sConv (M.1 1) by_ (M.1 c) f, setR M c (sRead (M.1 1) by_ (M.1 c) f))) → (if inb (nI o) 17 then (if inb (nI (5 + f)) 17 then (if (1 + M.1 c (ix (nI (5 + f)))) = 0 then none else bo (FX8_bound (M.1 c o + by_ f / (1 + M.1 c (ix (nI (5 + f)))))) (fun r_4 => if inb (nI o) 17 then k (um M c o r_4) else none)) else none) else none) = some (sConv (M.1 1) by_ (M.1 c) f, setR M c (sRead (M.1 1) by_ (M.1 c) f)) := by
    intro hq k hk
    rw [if_pos bO, if_pos b5, i5, if_neg nz, bound_ok, bo_s, if_pos bO]
    refine hk _ ?_ _ (um_setR _ _ _ _)
    rw [hv0, if_pos hq]
  by_cases h9 : M.1 1 (26 + f) = 9
  · rw [if_pos h9]
    exact j51 (Or.inl h9) _ fin
  · rw [if_neg h9]
    obtain ⟨p, hp1, ep⟩ := hp.resolve_left h9
    have ip : ix (M.1 1 (26 + f)) = p := by rw [ep]; exact ix_n (by omega)
    have bp : inb (M.1 1 (26 + f)) 17 := by rw [ep]; exact inb_n (by omega) (by decide)
    rw [if_pos bp, if_pos b34, ip]
    by_cases h3 : M.1 c p < M.1 1 (34 + f)
    · rw [if_pos h3]
      refine fin (M.1 c o) ?_ M ?_
      · rw [hv0, ip, if_neg]
        rintro (z | z)
        · exact h9 z
        · have := i_lt.mp h3
          have := i_le.mp z
          omega
      · have e : upd (M.1 c) o (M.1 c o) = M.1 c := by
          funext j
          rw [upd_at]
          by_cases hj : j = o
          · rw [if_pos hj, hj]
          · rw [if_neg hj]
        rw [e, setR_self]
    · rw [if_neg h3]
      refine j51 (Or.inr ?_) _ fin
      rw [ip]
      exact i_le.mpr (by
        have : ¬ (M.1 c p).toInt < (M.1 1 (34 + f)).toInt := fun z => h3 (i_lt.mpr z)
        omega)
