/-! ===== the fresh memories ===== -/
theorem fresh_RR : ∃ M0, FX8_begins (um (m_Mi, 0) 1 3 10) = some M0 ∧ RR x_M0 M0 := by
  obtain ⟨Mi, eMi⟩ : ∃ Mi : MM, Mi = um (m_Mi, 0) 1 3 10 := ⟨_, rfl⟩
  have i1 : ∀ k, Mi.1 1 k = if k = 3 then 10 else 0 := fun k => by
    rw [eMi, um_at]
    by_cases q : k = 3
    · rw [if_pos ⟨rfl, q⟩, if_pos q]
    · rw [if_neg (fun z => q z.2), if_neg q]; rfl
  obtain ⟨M0, w0, w1, w2, w3, w4, w5, w6, w7, w8, w9⟩ := m_begins (M := Mi) (nf := 0) (by omega) (by rw [i1]; rfl)
  rw [← eMi]
  have g1 : M0.1 1 = Mi.1 1 := w2 1 (by decide) (by decide) (by decide)
  have C : CityI (M0.1 1) 0 0 0 10 := by
    rw [g1]
    exact ⟨by rw [i1]; rfl, by rw [i1]; rfl, by rw [i1]; rfl, by rw [i1]; rfl, by omega, by omega, by omega, by omega, fun _ => rfl, fun f hf => by omega⟩
  have uz : MindI (u0 (Mi.1 1) 0) 0 := u0_I (no := 0) (by omega) (fun o ho => by omega) (fun o ho _ => by rw [i1, if_neg (by omega)])
  refine ⟨M0, w0, 0, 0, 0, 10, C, ?_, ?_, MindI_eq w1 uz, ?_, ?_, ?_, ?_, ?_, ?_, ?_⟩
  · rw [g1]
    exact ⟨by rw [i1]; rfl, by rw [i1]; rfl, by rw [i1]; rfl, by rw [i1]; rfl, fun f hf => by omega⟩
  · refine mindX_iff.mpr fun k hk => ?_
    rw [w1 k hk]
    unfold u0 mindFn
    by_cases k5 : k < 5
    · rw [if_pos k5, if_pos k5, i1, if_neg (by omega)]; rfl
    · rw [if_neg k5, if_neg k5]
      by_cases k13 : k < 13
      · rw [if_pos k13, if_neg (by omega), if_neg (by omega)]; rfl
      · rw [if_neg k13]
        have e : k = 13 ∨ k = 14 ∨ k = 15 ∨ k = 16 := by omega
        rcases e with rfl | rfl | rfl | rfl <;> rfl
  · exact ⟨0, 0, by omega, by omega, rfl, rfl, w4, fun i hi => by omega⟩
  · refine ⟨0, by omega, rfl, fun i hi => ⟨?_, fun z => absurd z (by rw [Nat.zero_testBit]; decide)⟩⟩
    rw [Nat.zero_testBit, if_neg (by decide)]
    have e2 : i = 0 ∨ i = 1 := by omega
    rcases e2 with rfl | rfl
    · exact w7
    · exact w8
  · exact ⟨0, by omega, rfl, w5, fun i hi => by omega⟩
  · exact ⟨0, by omega, rfl, w6, fun i hi => by omega⟩
  · exact ⟨0, by omega, rfl, by rw [w3 9 (by decide) (by decide) (by decide), eMi]; rfl, fun i hi => by omega⟩
  · rw [w3 10 (by decide) (by decide) (by decide), eMi]; rfl
  · exact ⟨0, by omega, rfl, by rw [w9, eMi]; rfl⟩
