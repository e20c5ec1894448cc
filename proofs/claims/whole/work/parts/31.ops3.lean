/-! ===== undo, images, worn, shun ===== -/
theorem sim_undo : Sim_undo RR := by
  intro Mx Mm h
  obtain ⟨kk, no, nf, hh, H⟩ := h
  obtain ⟨a1, a2, a3, a4, ⟨cnt, nx, hc, hn, x2, x1, m4, hE⟩, a6, a7, a8, a9, a10, a11⟩ := id H
  unfold FX7_undo FX8_undo FX4_pop
  rw [x2, m4]
  by_cases h0 : cnt = 0
  · subst h0
    rw [if_pos (show nI 0 = 0 from rfl), if_pos (show nI 0 = 0 from rfl), bd_s, if_pos rfl]
    exact ⟨_, _, _, rfl, rfl, kk, no, nf, hh, H⟩
  obtain ⟨c1, rfl⟩ : ∃ z, cnt = z + 1 := ⟨cnt - 1, by omega⟩
  have hz : ¬ nI (c1 + 1) = 0 := nI_ne0 (by omega) (by omega)
  rw [if_neg hz, if_neg hz, x1]
  have g1 : nI nx + 20 - 1 - (nI nx + 20 - 1) / 20 * 20 = nI ((nx + 19) % 20) := by
    have e1 : nI nx + 20 = nI (nx + 20) := add_n nx 20
    have e2 : nI (nx + 20) - 1 = nI (nx + 19) := nI_pred (nx + 19)
    rw [e1, e2]
    exact rem_n (a := nx + 19) (d := 20) (by omega) (by decide) (by decide)
  rw [g1]
  have g2 : upd2 Mx 27 1 (nI ((nx + 19) % 20)) 27 2 = nI (c1 + 1) := by rw [upd2_at, if_neg (by decide), x2]
  rw [g2, nI_pred]
  have g3 : upd2 (upd2 Mx 27 1 (nI ((nx + 19) % 20))) 27 2 (nI c1) 27 1 = nI ((nx + 19) % 20) := by rw [upd2_at, if_neg (by decide), upd2_at, if_pos ⟨rfl, rfl⟩]
  rw [g3]
  obtain ⟨Mb, eMb⟩ : ∃ Mb, Mb = upd2 (upd2 Mx 27 1 (nI ((nx + 19) % 20))) 27 2 (nI c1) := ⟨_, rfl⟩
  rw [← eMb]
  have b0 : ∀ a, a ≠ 27 → Mb a = Mx a := fun a ha => by rw [eMb, upd2_n _ _ _ ha, upd2_n _ _ _ ha]
  obtain ⟨M2, eF, mX, fr⟩ := x_fetch (M := Mb) (s := 28) (c := 17) (p := (nx + 19) % 20) (by decide) (by decide) (show 17 * ((nx + 19) % 20) + 17 ≤ 340 by omega)
  rw [eF, bo_s, bd_s, if_neg (show ¬ (1 : Int32) = 0 by decide)]
  have n4 : (um Mm 0 4 (nI c1)).1 0 4 = nI c1 := by rw [um_at, if_pos ⟨rfl, rfl⟩]
  have e17 : (17 : Int32) * nI c1 = nI (17 * c1) := mul_n 17 c1
  rw [n4, e17]
  have hcp := m_copies (M := um Mm 0 4 (nI c1)) (c0 := 4) (c2 := 3) (i := 17 * c1) (j := 0) (n := 17) (by decide) (show 17 * c1 + 17 ≤ 340 by omega) (by decide) (by decide) (by decide)
  have hcp2 : FX8_copies 4 (nI (17 * c1)) 3 0 17 (um Mm 0 4 (nI c1)) = some (setR (um Mm 0 4 (nI c1)) 3 (pt ((um Mm 0 4 (nI c1)).1 3) (fun k => (um Mm 0 4 (nI c1)).1 4 (17 * c1 + k)) 0 17)) := hcp
  rw [hcp2, bo_s]
  have r4 : (um Mm 0 4 (nI c1)).1 4 = Mm.1 4 := by rw [um_setR, setR_n _ _ (by decide)]
  have r3 : (um Mm 0 4 (nI c1)).1 3 = Mm.1 3 := by rw [um_setR, setR_n _ _ (by decide)]
  rw [r3, r4]
  have pin : ∀ k, k < 17 → pt (Mm.1 3) (fun k => Mm.1 4 (17 * c1 + k)) 0 17 k = Mm.1 4 (17 * c1 + k) := by
    intro k hk
    have := pt_in (g := Mm.1 3) (f := fun k => Mm.1 4 (17 * c1 + k)) (a := 0) hk
    rw [Nat.zero_add] at this
    exact this
  obtain ⟨I1, I2⟩ := hE c1 (by omega)
  have pl : (nx + 20 - (c1 + 1) + c1) % 20 = (nx + 19) % 20 := by omega
  refine ans ?_ ⟨kk, no, nf, hh, ?_⟩
  · rw [setR_n _ _ (by decide), n4, fr 27 (by decide) (by decide) (by decide), eMb, upd2_at, if_pos ⟨rfl, rfl⟩]
  refine RRk_mind H (fun i hi => ?_) ?_ (fun i hi => ?_) ?_ ?_ ?_ ?_ ?_ ?_ ?_ ?_
  · rw [fr i (by omega) (by omega) (by omega), b0 i (by omega)]
  · rw [fr 0 (by decide) (by decide) (by decide), b0 0 (by decide)]
  · rw [setR_n _ _ (by omega), um_setR, setR_n _ _ (by omega)]
  · rw [setR_n _ _ (by decide), um_at, if_neg (by decide)]
  · rw [setR_n _ _ (by decide), um_at, if_neg (by decide)]
  · rw [setR_n _ _ (by decide), um_at, if_neg (by decide)]
  · rw [setR_n _ _ (by decide), um_at, if_neg (by decide)]
  · rw [setR_c]
    refine mindX_iff.mpr fun k hk => ?_
    rw [mindX_iff.mp mX k hk, pin k hk, I2 k hk, pl, b0 29 (by decide)]
  · rw [setR_c]
    exact MindI_eq (fun k hk => pin k hk) I1
  · rw [setR_n _ _ (by decide), setR_n _ _ (by decide), r4, n4]
    refine ⟨c1, (nx + 19) % 20, by omega, by omega, ?_, ?_, rfl, fun i hi => ?_⟩
    · rw [fr 27 (by decide) (by decide) (by decide), eMb, upd2_at, if_pos ⟨rfl, rfl⟩]
    · rw [fr 27 (by decide) (by decide) (by decide), eMb, g3]
    · obtain ⟨J1, J2⟩ := hE i (by omega)
      refine ⟨J1, fun k hk => ?_⟩
      rw [J2 k hk, fr 29 (by decide) (by decide) (by decide), b0 29 (by decide)]
      rw [show ((nx + 19) % 20 + 20 - c1 + i) % 20 = (nx + 20 - (c1 + 1) + i) % 20 by omega]
  · show SeedR M2 Mm.2
    exact SeedR_eq (by rw [fr 0 (by decide) (by decide) (by decide), b0 0 (by decide)]) a11
theorem kbit : ∀ kb, kb < 4 → ∀ i, i < 2 → (sHas (nI kb) i ↔ kb.testBit i = true) := by decide +kernel
theorem kor : ∀ kb, kb < 4 → ∀ i, i < 2 → (kb ||| 2 ^ i) < 4 ∧ ∀ j, j < 2 → (kb ||| 2 ^ i).testBit j = (kb.testBit j || decide (j = i)) := by decide +kernel
theorem img_i {a : Int32} : (¬ (0 ≤ a.toInt ∧ a.toInt ≤ 1) → (∀ {α : Type} (A B C : α), (if a < 0 then A else (if a < 2 then B else A)) = A)) ∧ (0 ≤ a.toInt ∧ a.toInt ≤ 1 → (∀ {α : Type} (A B C : α), (if a < 0 then A else (if a < 2 then B else C)) = B)) := by
  have z0 : (0 : Int32).toInt = 0 := rfl
  have z2 : (2 : Int32).toInt = 2 := rfl
  constructor
  · intro q α A B C
    by_cases h0 : a < 0
    · rw [if_pos h0]
    · have g0 : ¬ a.toInt < (0 : Int32).toInt := fun z => h0 (i_lt.mpr z)
      rw [if_neg h0, if_neg (fun z => by have := i_lt.mp z; omega)]
  · intro q α A B C
    rw [if_neg (fun z => by have := i_lt.mp z; omega), if_pos (i_lt.mpr (by omega))]
theorem sim_keep : Sim_keep RR := by
  intro Mx Mm h a
  obtain ⟨kk, no, nf, hh, H⟩ := h
  obtain ⟨a1, a2, a3, a4, ⟨cnt, nx, hc, hn, x2, x1, m4, hE5⟩, ⟨kb, hkb, k10, kE⟩, a7, a8, a9, a10, sd, hsd, s1, s2⟩ := id H
  unfold FX7_keep FX8_keep
  rw [in_i (p := 0) (q := 1) rfl rfl, bo_s]
  by_cases q : ¬ (0 ≤ a.toInt ∧ a.toInt ≤ 1)
  · rw [img_i.1 q _ _ (some (0, Mx)), if_neg q, if_pos rfl]
    exact ⟨_, _, _, rfl, rfl, kk, no, nf, hh, H⟩
  replace q := Classical.not_not.mp q
  rw [img_i.2 q, if_pos q, if_neg (show ¬ (1 : Int32) = 0 by decide)]
  obtain ⟨i, hi, rfl⟩ := i_nat (a := a) (n := 2) ⟨by omega, by omega⟩
  have hst := x_store (M := Mx) (s := 30) (c := 17) (p := i) (by decide) (by decide) (show 17 * i + 17 ≤ 34 by omega)
  rw [hst, bo_s]
  obtain ⟨Mb, eMb⟩ : ∃ Mb, Mb = setX Mx 31 (pt (Mx 31) (mindFn Mx 17) (17 * i) 17) := ⟨_, rfl⟩
  rw [show setX Mx (30 + 1) (pt (Mx (30 + 1)) (mindFn Mx 17) (17 * i) 17) = Mb from eMb.symm]
  have b0 : ∀ a, a ≠ 31 → Mb a = Mx a := fun a ha => by rw [eMb, setX_n _ _ ha]
  rw [put_ok (c := 32) (show i < 2 from hi), bo_s]
  unfold FX4_clear
  rw [bo_s, b0 0 (by decide), s1]
  have g1 : upd2 Mb 32 i (nI sd) 0 10 = nI kb := by rw [upd2_n _ _ _ (by decide), b0 0 (by decide), k10]
  rw [g1, shl1 i (by omega), or_n]
  have e18 : (18 : Int32) * nI i = nI (18 * i) := mul_n 18 i
  have e1817 : nI (18 * i) + 17 = nI (18 * i + 17) := add_n (18 * i) 17
  have hcp := m_copies (M := Mm) (c0 := 3) (c2 := 5) (i := 0) (j := 18 * i) (n := 17) (by decide) (by decide) (show 18 * i + 17 ≤ 36 by omega) (by decide) (by decide)
  have ef : (fun k => Mm.1 3 (0 + k)) = Mm.1 3 := by funext k; rw [Nat.zero_add]
  rw [ef] at hcp
  have hcp2 : FX8_copies 3 0 5 (nI (18 * i)) 17 Mm = some (setR Mm 5 (pt (Mm.1 5) (Mm.1 3) (18 * i) 17)) := hcp
  rw [e18, hcp2, bo_s, e1817, if_pos (inb_n (by omega) (by decide)), if_pos (inb_n hi (by decide)), ix_n (by omega), ix_n (by omega), setR_2, s2, lN_i]
  obtain ⟨o1, o2⟩ := kor kb hkb i hi
  obtain ⟨Nx, eNx⟩ : ∃ Nx, Nx = upd2 (upd2 (upd2 Mb 32 i (nI sd)) 0 10 (nI (kb ||| 2 ^ i))) 27 2 0 := ⟨_, rfl⟩
  obtain ⟨Nm, eNm⟩ : ∃ Nm, Nm = um (um (um (setR Mm 5 (pt (Mm.1 5) (Mm.1 3) (18 * i) 17)) 5 (18 * i + 17) (nI sd)) 6 i 1) 0 4 0 := ⟨_, rfl⟩
  rw [← eNx, ← eNm]
  refine ans rfl ⟨kk, no, nf, hh, ?_⟩
  have rowx : ∀ j, j ≠ 0 → j ≠ 27 → j ≠ 31 → j ≠ 32 → Nx j = Mx j := fun j h1 h2 h3 h4 => by
    rw [eNx, upd2_n _ _ _ h2, upd2_n _ _ _ h1, upd2_n _ _ _ h4, b0 j h3]
  have rowm : ∀ j, j ≠ 0 → j ≠ 5 → j ≠ 6 → Nm.1 j = Mm.1 j := fun j h1 h2 h3 => by
    rw [eNm, um_setR, setR_n _ _ h1, um_setR, setR_n _ _ h3, um_setR, setR_n _ _ h2, setR_n _ _ h2]
  have row0 : ∀ k, k ≠ 4 → Nm.1 0 k = Mm.1 0 k := fun k hk => by
    rw [eNm, um_at, if_neg (fun z => hk z.2), um_at, if_neg (by omega), um_at, if_neg (by omega), setR_n _ _ (by decide)]
  have x011 : Nx 0 11 = Mx 0 11 := by rw [eNx, upd2_n _ _ _ (by decide), upd2_at, if_neg (by decide), upd2_n _ _ _ (by decide), b0 0 (by decide)]
  unfold RRk
  rw [rowm 1 (by decide) (by decide) (by decide), rowm 3 (by decide) (by decide) (by decide), rowm 7 (by decide) (by decide) (by decide), rowm 8 (by decide) (by decide) (by decide), rowm 9 (by decide) (by decide) (by decide), row0 9 (by decide), row0 10 (by decide), row0 12 (by decide), row0 14 (by decide)]
  refine ⟨a1, CityX_eq (fun j _ _ => rowx j (by omega) (by omega) (by omega) (by omega)) a2, MindX_eq (fun j _ _ => rowx j (by omega) (by omega) (by omega) (by omega)) a3, a4, ⟨0, nx, by omega, hn, ?_, ?_, ?_, fun j hj => by omega⟩, ?_, BookR_eq (fun j _ _ => rowx j (by omega) (by omega) (by omega) (by omega)) a7, BookR_eq (fun j _ _ => rowx j (by omega) (by omega) (by omega) (by omega)) a8, TextR_eq (by rw [rowx 1 (by omega) (by omega) (by omega) (by omega)]) (rowx _ (by omega) (by omega) (by omega) (by omega)) a9, by rw [rowx 1 (by omega) (by omega) (by omega) (by omega)]; exact a10, ?_⟩
  · rw [eNx, upd2_at, if_pos ⟨rfl, rfl⟩]; rfl
  · rw [eNx, upd2_at, if_neg (by decide), upd2_n _ _ _ (by decide), upd2_n _ _ _ (by decide), b0 27 (by decide), x1]
  · rw [eNm, um_at, if_pos ⟨rfl, rfl⟩]; rfl
  · refine ⟨kb ||| 2 ^ i, o1, by rw [eNx, upd2_n _ _ _ (by decide), upd2_at, if_pos ⟨rfl, rfl⟩], fun j hj => ?_⟩
    obtain ⟨g6, gE⟩ := kE j hj
    have n6 : Nm.1 6 j = if j = i then 1 else Mm.1 6 j := by
      rw [eNm, um_at, if_neg (by omega), um_at]
      by_cases hji : j = i
      · rw [if_pos ⟨rfl, hji⟩, if_pos hji]
      · rw [if_neg (fun z => hji z.2), if_neg hji, um_at, if_neg (by omega), setR_n _ _ (by decide)]
    have n5 : ∀ k, Nm.1 5 k = if k = 18 * i + 17 then nI sd else pt (Mm.1 5) (Mm.1 3) (18 * i) 17 k := by
      intro k
      rw [eNm, um_at, if_neg (by omega), um_at, if_neg (by omega), um_at, setR_c]
      by_cases hk : k = 18 * i + 17
      · rw [if_pos ⟨rfl, hk⟩, if_pos hk]
      · rw [if_neg (fun z => hk z.2), if_neg hk]
    have x31 : Nx 31 = pt (Mx 31) (mindFn Mx 17) (17 * i) 17 := by
      rw [eNx, upd2_n _ _ _ (by decide), upd2_n _ _ _ (by decide), upd2_n _ _ _ (by decide), eMb, setX_c]
    have x32 : ∀ k, Nx 32 k = if k = i then nI sd else Mx 32 k := by
      intro k
      rw [eNx, upd2_n _ _ _ (by decide), upd2_n _ _ _ (by decide), upd2_at, b0 32 (by decide)]
      by_cases hk : k = i
      · rw [if_pos ⟨rfl, hk⟩, if_pos hk]
      · rw [if_neg (fun z => hk z.2), if_neg hk]
    rw [n6, o2 j hj]
    by_cases hji : j = i
    · subst hji
      rw [if_pos rfl, if_pos (by simp)]
      refine ⟨rfl, fun _ => ⟨MindI_eq (fun k hk => by show Nm.1 5 (18 * j + k) = _; rw [n5, if_neg (by omega), pt_in hk]) a4, fun k hk => ?_, ?_, sd, hsd, ?_⟩⟩
      · rw [n5, if_neg (by omega), pt_in hk, x31, pt_in hk]
        exact (mindX_iff.mp a3 k hk).symm
      · rw [n5, if_pos rfl, x32, if_pos rfl]
      · rw [x32, if_pos rfl]
    · rw [if_neg hji, g6]
      have eb : (kb.testBit j || decide (j = i)) = kb.testBit j := by simp [hji]
      rw [eb]
      refine ⟨rfl, fun hb => ?_⟩
      obtain ⟨I1, I2, I3, s3, I4, I5⟩ := gE hb
      have n5o : ∀ k, k < 18 → Nm.1 5 (18 * j + k) = Mm.1 5 (18 * j + k) := fun k hk => by rw [n5, if_neg (by omega), pt_out (by omega)]
      refine ⟨MindI_eq (fun k hk => n5o k (by omega)) I1, fun k hk => ?_, ?_, s3, I4, ?_⟩
      · rw [n5o k (by omega), I2 k hk, x31, pt_out (by omega)]
      · rw [n5o 17 (by omega), I3, x32, if_neg hji]
      · rw [x32, if_neg hji, I5]
  · refine ⟨sd, hsd, by rw [x011, s1], ?_⟩
    rw [eNm]
    exact s2
theorem sim_goBack : Sim_goBack RR := by
  intro Mx Mm h a
  obtain ⟨kk, no, nf, hh, H⟩ := h
  obtain ⟨a1, a2, a3, a4, ⟨cnt, nx, hc, hn, x2, x1, m4, hE5⟩, ⟨kb, hkb, k10, kE⟩, a7, a8, a9, a10, sd, hsd, s1, s2⟩ := id H
  unfold FX7_goBack FX8_goBack
  rw [in_i (p := 0) (q := 1) rfl rfl, bo_s]
  by_cases q : ¬ (0 ≤ a.toInt ∧ a.toInt ≤ 1)
  · rw [img_i.1 q _ _ (some (0, Mx)), if_neg q, if_pos rfl]
    exact ⟨_, _, _, rfl, rfl, kk, no, nf, hh, H⟩
  replace q := Classical.not_not.mp q
  rw [img_i.2 q, if_pos q, if_neg (show ¬ (1 : Int32) = 0 by decide)]
  obtain ⟨i, hi, rfl⟩ := i_nat (a := a) (n := 2) ⟨by omega, by omega⟩
  obtain ⟨g6, gE⟩ := kE i hi
  rw [k10, has_x _ (by omega), bo_s, if_pos (inb_n hi (by decide)), ix_n (by omega), g6]
  by_cases hb : ¬ kb.testBit i = true
  · rw [if_neg (fun z => hb ((kbit kb hkb i hi).mp z)), if_pos rfl, if_neg hb, if_pos rfl]
    exact ⟨_, _, _, rfl, rfl, kk, no, nf, hh, H⟩
  replace hb := Classical.not_not.mp hb
  obtain ⟨I1, I2, I3, s3, I4, I5⟩ := gE hb
  rw [if_pos ((kbit kb hkb i hi).mpr hb), if_neg (show ¬ (1 : Int32) = 0 by decide), if_pos hb, if_neg (show ¬ (1 : Int32) = 0 by decide)]
  obtain ⟨M2, eF, mX, fr⟩ := x_fetch (M := Mx) (s := 30) (c := 17) (p := i) (by decide) (by decide) (show 17 * i + 17 ≤ 34 by omega)
  rw [eF, bo_s, at_ok (c := 32) (show i < 2 from hi), bo_s]
  have e18 : (18 : Int32) * nI i = nI (18 * i) := mul_n 18 i
  have e1817 : nI (18 * i) + 17 = nI (18 * i + 17) := add_n (18 * i) 17
  have hcp := m_copies (M := Mm) (c0 := 5) (c2 := 3) (i := 18 * i) (j := 0) (n := 17) (by decide) (show 18 * i + 17 ≤ 36 by omega) (by decide) (by decide) (by decide)
  have hcp2 : FX8_copies 5 (nI (18 * i)) 3 0 17 Mm = some (setR Mm 3 (pt (Mm.1 3) (fun k => Mm.1 5 (18 * i + k)) 0 17)) := hcp
  have pin : ∀ k, k < 17 → pt (Mm.1 3) (fun k => Mm.1 5 (18 * i + k)) 0 17 k = Mm.1 5 (18 * i + k) := by
    intro k hk
    have := pt_in (g := Mm.1 3) (f := fun k => Mm.1 5 (18 * i + k)) (a := 0) hk
    rw [Nat.zero_add] at this
    exact this
  rw [e18, hcp2, bo_s, e1817, if_pos (inb_n (by omega) (by decide)), ix_n (by omega), setR_n _ _ (by decide), I3, I5, nI_l I4]
  have x32 : M2 32 i = nI s3 := by rw [fr 32 (by decide) (by decide) (by decide), I5]
  unfold FX4_clear
  rw [bo_s, x32]
  obtain ⟨Nx, eNx⟩ : ∃ Nx, Nx = upd2 (upd2 M2 0 11 (nI s3)) 27 2 0 := ⟨_, rfl⟩
  obtain ⟨Nm, eNm⟩ : ∃ Nm, Nm = um (us (setR Mm 3 (pt (Mm.1 3) (fun k => Mm.1 5 (18 * i + k)) 0 17)) (lN s3)) 0 4 0 := ⟨_, rfl⟩
  rw [← eNx, ← eNm]
  refine ans rfl ⟨kk, no, nf, hh, ?_⟩
  have rowx : ∀ j, j ≠ 0 → j ≠ 27 → j < 17 ∨ 19 < j → Nx j = Mx j := fun j h1 h2 h3 => by
    rw [eNx, upd2_n _ _ _ h2, upd2_n _ _ _ h1, fr j (by omega) (by omega) (by omega)]
  have rowm : ∀ j, j ≠ 0 → j ≠ 3 → Nm.1 j = Mm.1 j := fun j h1 h2 => by
    rw [eNm, um_setR, setR_n _ _ h1, us_1, setR_n _ _ h2]
  have rm3 : Nm.1 3 = pt (Mm.1 3) (fun k => Mm.1 5 (18 * i + k)) 0 17 := by
    rw [eNm, um_setR, setR_n _ _ (by decide), us_1, setR_c]
  have row0 : ∀ k, k ≠ 4 → Nm.1 0 k = Mm.1 0 k := fun k hk => by
    rw [eNm, um_at, if_neg (fun z => hk z.2), us_1, setR_n _ _ (by decide)]
  refine RRk_mind H (fun j hj => rowx j (by omega) (by omega) (by omega)) ?_ (fun j hj => rowm j (by omega) (by omega)) (row0 9 (by decide)) (row0 10 (by decide)) (row0 12 (by decide)) (row0 14 (by decide)) ?_ ?_ ?_ ?_
  · rw [eNx, upd2_n _ _ _ (by decide), upd2_at, if_neg (by decide), fr 0 (by decide) (by decide) (by decide)]
  · rw [rm3]
    have mX2 : MindX Nx 17 (fun k => Mx (30 + 1) (17 * i + k)) := MindX_eq (fun j h1 h2 => by rw [eNx, upd2_n _ _ _ (by omega), upd2_n _ _ _ (by omega)]) mX
    refine mindX_iff.mpr fun k hk => ?_
    rw [mindX_iff.mp mX2 k hk, pin k hk, I2 k hk]
  · rw [rm3]
    exact MindI_eq (fun k hk => pin k hk) I1
  · refine ⟨0, nx, by omega, hn, ?_, ?_, ?_, fun j hj => by omega⟩
    · rw [eNx, upd2_at, if_pos ⟨rfl, rfl⟩]; rfl
    · rw [eNx, upd2_at, if_neg (by decide), upd2_n _ _ _ (by decide), fr 27 (by decide) (by decide) (by decide), x1]
    · rw [eNm, um_at, if_pos ⟨rfl, rfl⟩]; rfl
  · exact ⟨s3, I4, by rw [eNx, upd2_n _ _ _ (by decide), upd2_at, if_pos ⟨rfl, rfl⟩], by rw [eNm]; rfl⟩
