/-! the worlds at the start keep the bond -/
def row0 (j : Nat) : Int32 := if j = 1 then 12 else if j = 3 then 5 else if j = 5 then 1 else if 9 ≤ j ∧ j ≤ 24 then 6 else 0
theorem s0_77 : ∀ j, j < 315 → cmr171 77 j = row0 j := by decide +kernel
theorem s0_1 : cmr171 1 0 = 0 ∧ cmr171 1 1 = 12 ∧ cmr171 1 2 = 5 ∧ cmr171 1 3 = 0 ∧ cmr171 1 4 = 0 ∧ cmr171 1 5 = 1 ∧ cmr171 1 6 = 0 ∧ cmr171 1 7 = 0 := by decide +kernel
theorem s0_10 : ∀ k, k < 6 → cmr171 10 k = 0 ∧ cmr171 11 k = 0 ∧ cmr171 12 k = 0 ∧ cmr171 13 k = 0 ∧ cmr171 15 k = 0 ∧ cmr171 16 k = 0 := by decide +kernel
theorem s0_14 : ∀ j, j < 16 → cmr171 14 j = 6 := by decide +kernel
theorem s0_misc : cmr171 3 0 = 0 ∧ cmr171 4 0 = 0 ∧ cmr171 0 2 = 0 ∧ cmr171 76 3 = 0 ∧ cmr171 0 6 = 0 ∧ cmr171 76 28 = 0 ∧ cmr171 7 0 = 0 ∧ cmr171 76 6 = 0 ∧ cmr171 9 4 = 0 ∧ cmr171 76 35 = 0 := by decide +kernel
theorem s0_sh : ∀ i, i < 4 → cmr171 60 i = -1 ∧ cmr171 91 i = -1 ∧ cmr171 62 i = -1 ∧ cmr171 94 i = -1 := by decide +kernel
theorem bd_dec {x : Int32} {n : Nat} (j : Nat) (h1 : j ≤ n) (h2 : x = nI j) : bd x n := ⟨j, h1, h2⟩
theorem row0_z {j : Nat} (h : 25 ≤ j) : row0 j = 0 := by
  unfold row0
  rw [if_neg (by omega), if_neg (by omega), if_neg (by omega), if_neg (by omega)]
theorem row0_s {j : Nat} (h : j < 16) : row0 (9 + j) = 6 := by
  unfold row0
  rw [if_neg (by omega), if_neg (by omega), if_neg (by omega), if_pos (by omega)]
theorem h0_z {j : Nat} (h : 25 ≤ j) (h2 : j < 315) : cmr171 77 j = 0 := (s0_77 j h2).trans (row0_z h)
theorem hI0 : INV cmr171 := by
  have r0 : cmr171 77 0 = 0 := s0_77 0 (by decide)
  have r1 : cmr171 77 1 = 12 := s0_77 1 (by decide)
  have r2 : cmr171 77 2 = 0 := s0_77 2 (by decide)
  have r3 : cmr171 77 3 = 5 := s0_77 3 (by decide)
  have r4 : cmr171 77 4 = 0 := s0_77 4 (by decide)
  have r5 : cmr171 77 5 = 1 := s0_77 5 (by decide)
  have r6 : cmr171 77 6 = 0 := s0_77 6 (by decide)
  have r7 : cmr171 77 7 = 0 := s0_77 7 (by decide)
  have r8 : cmr171 77 8 = 0 := s0_77 8 (by decide)
  have hn : repN (cmr171 77) = 0 := by unfold repN; rw [r8]; rfl
  have hh : ∀ k, k < 6 → hN (cmr171 77) k = 0 := fun k hk => by unfold hN; rw [h0_z (by omega) (by omega)]; rfl
  refine ⟨⟨[], ?_, ?_, ?_, ?_, ?_, ?_, ?_⟩, Or.inl ⟨s0_misc.2.2.1, s0_misc.2.2.2.1⟩, ⟨0, by decide, s0_misc.2.2.2.2.1, s0_misc.2.2.2.2.2.1, fun k hk => absurd hk (by omega)⟩, fun i hi => Or.inl ⟨(s0_sh i hi).1, (s0_sh i hi).2.1⟩, fun i hi => Or.inl ⟨(s0_sh i hi).2.2.1, (s0_sh i hi).2.2.2⟩, ⟨0, by decide, s0_misc.2.2.2.2.2.2.1, s0_misc.2.2.2.2.2.2.2.1, fun k hk => absurd hk (by omega)⟩, ⟨0, by decide, s0_misc.2.2.2.2.2.2.2.2.1, s0_misc.2.2.2.2.2.2.2.2.2, fun k hk => absurd hk (by omega)⟩, rfl⟩
  · refine ⟨⟨⟨0, by decide, r0⟩, ⟨12, by decide, r1⟩, by rw [r0, r1]; decide⟩, ⟨5, by decide, r3⟩, ⟨0, by decide, r4⟩, ⟨0, by decide, r6⟩, fun j hj => ⟨6, by decide, ?_⟩, fun j hj => ⟨0, by decide, h0_z (by omega) (by omega)⟩, fun j hj => ⟨0, by decide, h0_z (by omega) (by omega)⟩, fun k hk => ⟨⟨0, by decide, h0_z (by omega) (by omega)⟩, ⟨0, by decide, h0_z (by omega) (by omega)⟩, ⟨0, by decide, h0_z (by omega) (by omega)⟩, ⟨0, by decide, h0_z (by omega) (by omega)⟩, ⟨0, by decide, h0_z (by omega) (by omega)⟩⟩, fun k _ hk => h0_z (by omega) (by omega)⟩
    exact (s0_77 _ (by omega)).trans (row0_s hj)
  · obtain ⟨a0, a1, a2, a3, a4, a5, a6, a7⟩ := s0_1
    refine ⟨⟨a0.trans r0.symm, a1.trans r1.symm, a2.trans r3.symm, a3.trans r4.symm, a5.trans r5.symm, a6.trans r6.symm, ?_⟩, fun k hk => ?_, fun j hj => ?_, fun j hj => ?_⟩
    · unfold heardN
      rw [a7, hh 0 (by decide), hh 1 (by decide), hh 2 (by decide), hh 3 (by decide), hh 4 (by decide), hh 5 (by decide)]
      rfl
    · obtain ⟨q1, q2, q3, q4, q5, q6⟩ := s0_10 k hk
      exact ⟨q1.trans (h0_z (by omega) (by omega)).symm, q2.trans (h0_z (by omega) (by omega)).symm, q3.trans (h0_z (by omega) (by omega)).symm, q4.trans (h0_z (by omega) (by omega)).symm⟩
    · exact (s0_14 j hj).trans ((s0_77 _ (by omega)).trans (row0_s hj)).symm
    · obtain ⟨q1, q2, q3, q4, q5, q6⟩ := s0_10 j hj
      exact ⟨q5.trans (h0_z (by omega) (by omega)).symm, q6.trans (h0_z (by omega) (by omega)).symm⟩
  · rw [r2]; exact s0_1.2.2.2.2.1
  · exact ⟨r7, by decide, by decide, fun r x h => by simp at h, trivial⟩
  · exact ⟨s0_misc.1, by decide, by decide, fun r x h => by simp at h, trivial⟩
  · exact ⟨⟨0, by decide, r8⟩, fun r _ h => absurd h (by rw [hn]; omega)⟩
  · exact ⟨s0_misc.2.1.trans r8.symm, fun r _ h => absurd h (by rw [hn]; omega)⟩
