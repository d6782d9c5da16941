/-! the class's night -/
/-- all but what a night changes in the class -/
def NQ (m m' : M) : Prop := ∀ p k, ¬ (p = 1 ∧ (k = 0 ∨ k = 2 ∨ k = 3 ∨ k = 7 ∨ k = 8)) → ¬ (p = 11 ∧ k < 6) → m' p k = m p k
theorem NQ.rfl {m : M} : NQ m m := fun _ _ _ _ => Eq.refl _
theorem NQ.trans {m m1 m2 : M} (h1 : NQ m m1) (h2 : NQ m1 m2) : NQ m m2 := fun p k a b => (h2 p k a b).trans (h1 p k a b)
theorem NQ_wr1 {m : M} {c : Nat} {v : Int32} (hc : c = 0 ∨ c = 2 ∨ c = 3 ∨ c = 7 ∨ c = 8) : NQ m (wrF m 1 c v) := fun p k a _ => by
  unfold wrF
  by_cases e : p = 1
  · subst e
    rw [mset_same, upd_off (fun q => a ⟨Eq.refl _, by omega⟩)]
  · rw [mset_ne e]
theorem NQ_wr11 {m : M} {c : Nat} {v : Int32} (hc : c < 6) : NQ m (mset m 11 (upd (m 11) c v)) := fun p k _ a => by
  by_cases e : p = 11
  · subst e
    rw [mset_same, upd_off (fun q => a ⟨Eq.refl _, by omega⟩)]
  · rw [mset_ne e]
theorem NQ.row {m m' : M} (h : NQ m m') (p : Nat) (h1 : p ≠ 1 := by decide) (h2 : p ≠ 11 := by decide) : m' p = m p := funext fun k => h p k (fun q => h1 q.1) (fun q => h2 q.1)
theorem NQ.kr {m m' : M} {rs : List Rl} (h : NQ m m') (hR : KR m rs) : KR m' rs := by
  unfold KR at *
  rw [h.row 3, h.row 26, h.row 27, h.row 28, h.row 29]
  exact hR
theorem mx_mn9 (x : Int32) : mxI 0 (mnI 9 x) = heldV x 9 := by
  rw [mx0]
  unfold mnI heldV
  by_cases h : x < 9
  · rw [if_pos h]
    by_cases h0 : 0 ≤ x
    · rw [if_pos h0, if_pos h0, if_pos (Int32.le_of_lt h)]
    · rw [if_neg h0, if_neg h0]
  · rw [if_neg h, if_pos (by decide)]
    have h9 : (9 : Int32) ≤ x := Int32.not_lt.mp h
    have h0 : 0 ≤ x := Int32.le_trans (by decide) h9
    rw [if_pos h0]
    by_cases h1 : x ≤ 9
    · rw [if_pos h1]; exact Int32.le_antisymm h9 h1
    · rw [if_neg h1]
theorem votes_tab : ∀ j, j < 10 → mxI 0 (nI j - 1) = heldV (nI j - 1) 9 := by decide +kernel
theorem mn999 {x : Int32} (h : 0 ≤ x) : mnI 999 x = heldV x 999 := by
  unfold mnI heldV
  rw [if_pos h]
  by_cases h1 : x < 999
  · rw [if_pos h1, if_pos (Int32.le_of_lt h1)]
  · rw [if_neg h1]
    by_cases h2 : x ≤ 999
    · rw [if_pos h2]; exact Int32.le_antisymm (Int32.not_lt.mp h1) h2
    · rw [if_neg h2]
theorem held999_same {x : Int32} (h : bd x 999) : heldV (x + 0) 999 = x := by
  obtain ⟨j, hj, rfl⟩ := h
  rw [Int32.add_zero]
  unfold heldV
  rw [if_pos (nI_pos' (by omega)), if_pos (show nI j ≤ 999 from (nI_leI (a := j) (b := 999) (by omega) (by decide)).mpr hj)]
theorem b_does_eq {m : M} {b : Nat → Int32} {rs : List Rl} {k : Nat} (hK : KB m b) (hW : WF b) (hR : KR m rs) (hk : k < 6) : ∃ m', b_does (nI k) (countB b) m = some ((moveB rs b k).1, m') ∧ KB m' (moveB rs b k).2 ∧ NQ m m' ∧ m' 1 8 = m 1 8 := by
  unfold b_does
  rw [b_willOf_eq hK hW hR hk]
  simp only [Option.bind_some]
  unfold moveB
  by_cases hw : willB rs b k = 1
  · rw [if_pos hw, if_pos hw]
    exact ⟨m, rfl, hK, NQ.rfl, rfl⟩
  · rw [if_neg hw, if_neg hw, b_isCarried_eq]
    simp only [Option.bind_some]
    by_cases hc : carV (willB rs b k) (countB b) = 0
    · rw [if_pos hc, if_pos hc, rd6 (by decide) hk, hK.votes hk]
      simp only [Option.bind_some]
      obtain ⟨j, hj, ej⟩ := hW.votes hk
      rw [wrI_at (show k < len 11 from hk) (by decide), ej, votes_tab j (by omega)]
      simp only [Option.bind_some]
      refine ⟨_, rfl, hK.wr (p := 11) (c := k) (j := 37 + 5 * k + 1) (by unfold KBP; omega), NQ_wr11 hk, by rw [mset_ne (by decide)]⟩
    · rw [if_neg hc, if_neg hc]
      have key : ∀ x : Int32, ∃ m', b_does_61 (nI k) x m = some (2, m') ∧ KB m' (upd (upd b 3 (heldV x 9)) (37 + 5 * k + 4) 1) ∧ NQ m m' ∧ m' 1 8 = m 1 8 := fun x => by
        unfold b_does_61 b_held
        rw [Option.bind_some, ltE, ltE, mx_mn9]
        have h1 : KB (wrF m 1 2 (heldV x 9)) (upd b 3 (heldV x 9)) := hK.wr (p := 1) (c := 2) (j := 3) (by unfold KBP; omega)
        have hW1 : WF (upd b 3 (heldV x 9)) := WF_upd hW (h3 := fun _ => heldV9)
        refine ⟨_, rfl, h1.hear hk ?_, (NQ_wr1 (by omega)).trans (NQ_wr1 (by omega)), ?_⟩
        · rw [h1.f7]; exact heardN_set hW1 hk
        · unfold wrF
          rw [mset_same, upd_off (by decide), mset_same, upd_off (by decide)]
      by_cases h0 : willB rs b k = 0
      · rw [if_pos h0, if_pos h0, hK.f2]; exact key _
      · rw [if_neg h0, if_neg h0, hK.f2]; exact key _
theorem b_goesBy_16_eq {m : M} {b : Nat → Int32} (hK : KB m b) (hW : WF b) (w : Int32) : ∃ m', b_goesBy_16 w m = some (worthB b w, m') ∧ KB m' (passB w b) ∧ NQ m m' ∧ m' 1 8 = m 1 8 + lossB b := by
  unfold b_goesBy_16
  rw [b_shipNow_eq hK hW]
  simp only [Option.bind_some, b_isLost_eq, b_valueOf, b_fundOf]
  rw [hK.f2]
  have e1 : lossB b = lostV (shipB b) (b 3) := rfl
  rw [← e1]
  have key : ∀ (x : Int32) (m1 : M) (b1 : Nat → Int32), KB m1 b1 → b1 3 = b 3 → b1 0 = b 0 → ∃ m', b_goesBy_89 x m1 = some (x, m') ∧ KB m' (upd (upd b1 3 (nearV (b 3))) 0 (b 0 + 1)) ∧ NQ m1 m' ∧ m' 1 8 = m1 1 8 := fun x m1 b1 h1 h3 h0 => by
    unfold b_goesBy_89
    rw [b_nearer_eq, Option.bind_some, ltE, ltE, h1.f2, h3]
    have a1 : KB (wrF m1 1 2 (nearV (b 3))) (upd b1 3 (nearV (b 3))) := h1.wr (p := 1) (c := 2) (j := 3) (by unfold KBP; omega)
    have e0 : (wrF m1 1 2 (nearV (b 3))) 1 0 = b 0 := by rw [a1.f0, upd_off (by decide), h0]
    rw [e0]
    refine ⟨_, rfl, a1.wr (p := 1) (c := 0) (j := 0) (by unfold KBP; omega), (NQ_wr1 (by omega)).trans (NQ_wr1 (by omega)), ?_⟩
    unfold wrF
    rw [mset_same, upd_off (by decide), mset_same, upd_off (by decide)]
  rcases lostV01 (shipB b) (b 3) with h | h <;> rw [← e1] at h
  · rw [if_pos h]
    have hp : ∀ x, passB x b = upd (upd (upd b 3 (nearV (b 3))) 0 (b 0 + 1)) 2 (b 2 + worthB b x) := fun x => by
      unfold passB
      rw [if_pos h, held999_same hW.fund, upd_self]
    rw [hp, h, Int32.add_zero]
    unfold worthB
    rw [if_pos h]
    by_cases hv : shipB b / 4 ≤ 0
    · rw [if_pos hv, if_pos hv, Int32.add_zero]
      obtain ⟨m', a1, a2, a3, a4⟩ := key w m b hK rfl rfl
      exact ⟨m', a1, a2.score, a3, a4⟩
    · rw [if_neg hv, if_neg hv, ltE]
      obtain ⟨m', a1, a2, a3, a4⟩ := key (w + 1) m b hK rfl rfl
      exact ⟨m', a1, a2.score, a3, a4⟩
  · have h0 : ¬ lossB b = 0 := by rw [h]; decide
    rw [if_neg h0, ltE, ltE, ltE]
    have hf : (wrF m 1 8 (m 1 8 + 1)) 1 3 = b 4 := by rw [← hK.f3]; unfold wrF; rw [mset_same, upd_off (by decide)]
    have hnn : 0 ≤ b 4 + 5 * (shipB b / 4) := by
      obtain ⟨j, hj, ej⟩ := hW.fund
      obtain ⟨s, hs, es⟩ := hW.shipNow
      rw [ej, es, show (4 : Int32) = nI 4 by decide, pk_div (by omega) (by decide) (by decide), n5, pk_mul, nI_add]
      exact nI_pos' (by omega)
    rw [hf, mn999 hnn]
    have a1 : KB (wrF (wrF m 1 8 (m 1 8 + 1)) 1 3 (heldV (b 4 + 5 * (shipB b / 4)) 999)) (upd b 4 (heldV (b 4 + 5 * (shipB b / 4)) 999)) := (hK.w18 (by omega)).wr (p := 1) (c := 3) (j := 4) (by unfold KBP; omega)
    obtain ⟨m', c1, c2, c3, c4⟩ := key (w + 3 * (shipB b / 4)) _ _ a1 (upd_off (by decide)) (upd_off (by decide))
    have hw : worthB b w = w + 3 * (shipB b / 4) := by unfold worthB; rw [if_neg h0]
    refine ⟨m', by rw [hw]; exact c1, ?_, ((NQ_wr1 (by omega)).trans (NQ_wr1 (by omega))).trans c3, ?_⟩
    · unfold passB
      rw [if_neg h0]
      exact c2.score
    · rw [c4, h]
      unfold wrF
      rw [mset_same, upd_off (by decide), mset_same, upd_at]
theorem b_goesBy_eq {m : M} {b : Nat → Int32} {rs : List Rl} {a : Nat} (hK : KB m b) (hW : WF b) (hR : KR m rs) (ha : a ≤ manyB b) : ∃ m', b_goesBy (nI a) (countB b) m = some (goW rs a b, m') ∧ KB m' (goB rs a b) ∧ NQ m m' ∧ m' 1 8 = m 1 8 + goL rs a b := by
  have h6 := hW.manyN.2
  unfold b_goesBy goW goB goL preB
  by_cases h0 : a = 0
  · subst h0
    rw [if_pos (by decide), if_pos rfl]
    exact b_goesBy_16_eq hK hW 0
  · obtain ⟨k, rfl⟩ : ∃ k, a = k + 1 := ⟨a - 1, by omega⟩
    rw [if_neg (nI_nle (by omega) (by omega)), if_neg h0, nI_pred]
    obtain ⟨m1, h1, h2, h3, h4⟩ := b_does_eq (rs := rs) (k := k) hK hW hR (by omega)
    rw [h1, Option.bind_some]
    obtain ⟨m2, g1, g2, g3, g4⟩ := b_goesBy_16_eq h2 (hW.move rs (by omega)) (moveB rs b k).1
    exact ⟨m2, g1, g2, h3.trans g3, by rw [g4, h4]; rfl⟩
/-! whose act the rest is -/
def carryB (rs : List Rl) (b : Nat → Int32) (k : Nat) : Bool := decide (b (37 + 5 * k + 4) = 0) && !decide (carV (willB rs b k) (countB b) = 0)
theorem r_wouldCarry_eq {m : M} {b : Nat → Int32} {rs : List Rl} {k : Nat} (hb : m 77 = b) (hW : WF b) (hR : RR b rs) (hk : k < 6) : ∃ m', r_wouldCarry (nI k) m = some (b01 (carryB rs b k), m') ∧ E80 m m' := by
  unfold r_wouldCarry carryB
  rw [show r_get (nI k) (4 : Int32) m = some (m 77 (37 + 5 * k + 4)) from r_get_at (f := 4) hk (by decide), hb]
  simp only [Option.bind_some]
  by_cases h : b (37 + 5 * k + 4) = 0
  · rw [if_pos h, decide_eq_true h]
    obtain ⟨m1, h1, q1⟩ := r_willOf_eq hb hW hR hk
    rw [h1]
    simp only [Option.bind_some]
    rw [r_isCarried_eq (by rw [q1.r77, hb]; exact hW), q1.r77, hb]
    simp only [Option.bind_some]
    refine ⟨m1, ?_, q1⟩
    by_cases hc : carV (willB rs b k) (countB b) = 0
    · rw [if_pos hc, decide_eq_true hc]; rfl
    · rw [if_neg hc, decide_eq_false hc]; rfl
  · rw [if_neg h, decide_eq_false h]
    exact ⟨m, rfl, E80.rfl⟩
theorem b_wouldCarry_eq {m : M} {b : Nat → Int32} {rs : List Rl} {k : Nat} (hK : KB m b) (hW : WF b) (hR : KR m rs) (hk : k < 6) : b_wouldCarry (nI k) (countB b) m = some (b01 (carryB rs b k)) := by
  unfold b_wouldCarry carryB
  rw [b_isHeard_eq hK hW hk]
  simp only [Option.bind_some]
  by_cases h : b (37 + 5 * k + 4) = 0
  · rw [if_pos h, decide_eq_true h, b_willOf_eq hK hW hR hk]
    simp only [Option.bind_some]
    rw [b_isCarried_eq]
    simp only [Option.bind_some]
    by_cases hc : carV (willB rs b k) (countB b) = 0
    · rw [if_pos hc, decide_eq_true hc]; rfl
    · rw [if_neg hc, decide_eq_false hc]; rfl
  · rw [if_neg h, decide_eq_false h]; rfl
def firstT (P : Nat → Bool) : Nat → Nat → Nat
  | 0, _ => 0
  | d + 1, k => if P k then k + 1 else firstT P d (k + 1)
theorem firstT_le {P : Nat → Bool} : ∀ (d k : Nat), firstT P d k ≤ k + d
  | 0, k => by simp [firstT]
  | d + 1, k => by
    unfold firstT
    split
    · omega
    · have := firstT_le (P := P) d (k + 1); omega
def restA (rs : List Rl) (b : Nat → Int32) : Nat := firstT (carryB rs b) (manyB b) 0
theorem restA_le (rs : List Rl) (b : Nat → Int32) : restA rs b ≤ manyB b := by
  have := firstT_le (P := carryB rs b) (manyB b) 0
  unfold restA
  omega
theorem r_restOne_eq {m : M} {b : Nat → Int32} {rs : List Rl} (hb : m 77 = b) (hW : WF b) (hR : RR b rs) : ∃ m', r_restOne m = some (nI (restA rs b) - 1, m') ∧ E80 m m' := by
  obtain ⟨h6, h6'⟩ := hW.manyN
  have key : ∀ (d k : Nat) (m : M), k + d = manyB b → m 77 = b → ∃ m', E80 m m' ∧ ∃ z : M ⊕ (Int32 × M), (∀ F, d < F → iter (fun z : Int32 × M => r_restOne_2b z.1 z.2) F (nI k, m) = some z) ∧ (match z with
      | .inl r => some ((-1 : Int32), r)
      | .inr r => some (r.1, r.2)) = some (nI (firstT (carryB rs b) d k) - 1, m') := by
    intro d
    induction d with
    | zero =>
      intro k m hk hb
      refine ⟨m, E80.rfl, .inl m, fun F hF => ?_, rfl⟩
      obtain ⟨F', rfl⟩ : ∃ F', F = F' + 1 := ⟨F - 1, by omega⟩
      show (r_restOne_2b (nI k) m).bind _ = _
      unfold r_restOne_2b
      rw [rd77_6, hb, h6]
      simp only [Option.bind_some]
      rw [if_pos (by rw [← hk]; exact Int32.le_refl _)]; rfl
    | succ d ih =>
      intro k m hk hb
      obtain ⟨m1, h1, q1⟩ := r_wouldCarry_eq (k := k) hb hW hR (by omega)
      have hfirst : r_restOne_2b (nI k) m = (if b01 (carryB rs b k) = 0 then lt (nI k + 1) (fun w3 : Int32 => some (.inl (w3, m1))) else some (.inr (.inr (nI k, m1)))) := by
        unfold r_restOne_2b
        rw [rd77_6, hb, h6]
        simp only [Option.bind_some]
        rw [if_neg (nI_ge (show k < manyB b by omega) (by omega)), h1]
        simp only [Option.bind_some]
      by_cases hc : carryB rs b k = true
      · refine ⟨m1, q1, .inr (nI k, m1), fun F hF => ?_, ?_⟩
        · obtain ⟨F', rfl⟩ : ∃ F', F = F' + 1 := ⟨F - 1, by omega⟩
          show (r_restOne_2b (nI k) m).bind _ = _
          rw [hfirst, hc, if_neg (by decide)]; rfl
        · show some (nI k, m1) = _
          unfold firstT
          rw [if_pos hc, nI_pred]
      · have hf : carryB rs b k = false := Bool.eq_false_iff.mpr hc
        obtain ⟨m', q, z, hz, hv⟩ := ih (k + 1) m1 (by omega) (q1.r77.trans hb)
        refine ⟨m', q1.trans q, z, fun F hF => ?_, ?_⟩
        · obtain ⟨F', rfl⟩ : ∃ F', F = F' + 1 := ⟨F - 1, by omega⟩
          show (r_restOne_2b (nI k) m).bind _ = _
          rw [hfirst, hf, if_pos (by decide), ltE, nI_1]
          exact hz F' (by omega)
        · rw [hv]
          conv => rhs; unfold firstT
          rw [if_neg hc]
  obtain ⟨m', q, z, hz, hv⟩ := key (manyB b) 0 m (by omega) hb
  refine ⟨m', ?_, q⟩
  unfold r_restOne r_restOne_2
  have := hz FU (by show manyB b < 4000; omega)
  rw [nI_0] at this
  rw [this]
  exact hv
theorem r_goesBy_rest {m : M} {b : Nat → Int32} {rs : List Rl} (hb : m 77 = b) (hW : WF b) (hR : RR b rs) : ∃ m', r_goesBy (-1) m = some (goW rs (restA rs b) b, m') ∧ m' 77 = goB rs (restA rs b) b ∧ E76 m m' ∧ m' 76 16 = m 76 16 + goL rs (restA rs b) b := by
  have hle := restA_le rs b
  have h6 := hW.manyN.2
  obtain ⟨m1, h1, q1⟩ := r_restOne_eq hb hW hR
  have e : r_goesBy (-1) m = r_goesBy_14 (nI (restA rs b) - 1) m1 := by
    unfold r_goesBy
    rw [if_neg (by decide), h1]; rfl
  rw [e]
  by_cases h0 : restA rs b = 0
  · unfold r_goesBy_14
    rw [h0, if_pos (by decide), r_goesBy_28_eq (q1.r77.trans hb) hW]
    exact ⟨_, rfl, mset_same, q1.E76.trans (E76_16.trans E76_77), by rw [mset_ne (by decide)]; unfold wrF; rw [mset_same, upd_at, q1 76 (by decide)]; rfl⟩
  · obtain ⟨k, hk⟩ : ∃ k, restA rs b = k + 1 := ⟨restA rs b - 1, by omega⟩
    unfold r_goesBy_14
    rw [hk, nI_pred, if_neg (nI_pos (by omega))]
    obtain ⟨m2, g1, g2, g3, g4⟩ := r_movesFor_eq (rs := rs) (k := k) (q1.r77.trans hb) hW hR (by omega)
    rw [g1, Option.bind_some, r_goesBy_28_eq g2 (hW.move rs (by omega))]
    have e : preB rs (k + 1) b = moveB rs b k := by unfold preB; rw [if_neg (by omega)]; rfl
    unfold goW goB goL
    rw [e]
    exact ⟨_, rfl, mset_same, q1.E76.trans (g3.trans (E76_16.trans E76_77)), by rw [mset_ne (by decide)]; unfold wrF; rw [mset_same, upd_at, g4, q1 76 (by decide)]⟩
theorem r_goesBy_of {m : M} {b : Nat → Int32} {rs : List Rl} {a : Nat} (hb : m 77 = b) (hW : WF b) (hR : RR b rs) (ha : a ≤ manyB b) : ∃ m', r_goesBy (nI a) m = some (goW rs a b, m') ∧ m' 77 = goB rs a b ∧ E76 m m' ∧ m' 76 16 = m 76 16 + goL rs a b := by
  have h6 := hW.manyN.2
  by_cases h0 : a = 0
  · subst h0
    unfold r_goesBy r_goesBy_14
    rw [if_pos (by decide), if_pos (by decide), r_goesBy_28_eq hb hW]
    exact ⟨_, rfl, mset_same, E76_16.trans E76_77, by rw [mset_ne (by decide)]; unfold wrF; rw [mset_same, upd_at]; rfl⟩
  · obtain ⟨k, rfl⟩ : ∃ k, a = k + 1 := ⟨a - 1, by omega⟩
    unfold r_goesBy r_goesBy_14
    rw [if_pos (nI_pos' (by omega)), nI_pred, if_neg (nI_pos (by omega))]
    obtain ⟨m2, g1, g2, g3, g4⟩ := r_movesFor_eq (rs := rs) (k := k) hb hW hR (by omega)
    rw [g1, Option.bind_some, r_goesBy_28_eq g2 (hW.move rs (by omega))]
    have e : preB rs (k + 1) b = moveB rs b k := by unfold preB; rw [if_neg h0]; rfl
    unfold goW goB goL
    rw [e]
    exact ⟨_, rfl, mset_same, g3.trans (E76_16.trans E76_77), by rw [mset_ne (by decide)]; unfold wrF; rw [mset_same, upd_at, g4]⟩
theorem b_nightOfRest_eq {m : M} {b : Nat → Int32} {rs : List Rl} (hK : KB m b) (hW : WF b) (hR : KR m rs) : ∃ m', b_nightOfRest m = some (goW rs (restA rs b) b, m') ∧ KB m' (goB rs (restA rs b) b) ∧ NQ m m' ∧ m' 1 8 = m 1 8 + goL rs (restA rs b) b := by
  obtain ⟨h6, h6'⟩ := hW.manyN
  obtain ⟨m', g1, g2⟩ := b_goesBy_eq (a := restA rs b) hK hW hR (restA_le rs b)
  refine ⟨m', ?_, g2⟩
  unfold b_nightOfRest
  rw [b_count_eq hK hW]
  simp only [Option.bind_some]
  have key : ∀ (d k : Nat), k + d = manyB b → ∃ z : Unit ⊕ Int32, (∀ F, d < F → iter (fun z : Int32 => b_nightOfRest_7b (countB b) z m) F (nI k) = some z) ∧ (match z with
      | .inl r => (0 : Int32)
      | .inr r => r + 1) = nI (firstT (carryB rs b) d k) := by
    intro d
    induction d with
    | zero =>
      intro k hk
      refine ⟨.inl (), fun F hF => ?_, rfl⟩
      obtain ⟨F', rfl⟩ : ∃ F', F = F' + 1 := ⟨F - 1, by omega⟩
      show (b_nightOfRest_7b (countB b) (nI k) m).bind _ = _
      unfold b_nightOfRest_7b
      rw [hK.f6, h6, if_pos (by rw [← hk]; exact Int32.le_refl _)]; rfl
    | succ d ih =>
      intro k hk
      have hfirst : b_nightOfRest_7b (countB b) (nI k) m = (if b01 (carryB rs b k) = 0 then lt (nI k + 1) (fun w2 : Int32 => some (.inl w2)) else some (.inr (.inr (nI k)))) := by
        unfold b_nightOfRest_7b
        rw [hK.f6, h6, if_neg (nI_ge (show k < manyB b by omega) (by omega)), b_wouldCarry_eq hK hW hR (by omega)]
        simp only [Option.bind_some]
      by_cases hc : carryB rs b k = true
      · refine ⟨.inr (nI k), fun F hF => ?_, ?_⟩
        · obtain ⟨F', rfl⟩ : ∃ F', F = F' + 1 := ⟨F - 1, by omega⟩
          show (b_nightOfRest_7b (countB b) (nI k) m).bind _ = _
          rw [hfirst, hc, if_neg (by decide)]; rfl
        · show nI k + 1 = _
          unfold firstT
          rw [if_pos hc, nI_1]
      · have hf : carryB rs b k = false := Bool.eq_false_iff.mpr hc
        obtain ⟨z, hz, hv⟩ := ih (k + 1) (by omega)
        refine ⟨z, fun F hF => ?_, ?_⟩
        · obtain ⟨F', rfl⟩ : ∃ F', F = F' + 1 := ⟨F - 1, by omega⟩
          show (b_nightOfRest_7b (countB b) (nI k) m).bind _ = _
          rw [hfirst, hf, if_pos (by decide), ltE, nI_1]
          exact hz F' (by omega)
        · rw [hv]
          conv => rhs; unfold firstT
          rw [if_neg hc]
  obtain ⟨z, hz, hv⟩ := key (manyB b) 0 (by omega)
  unfold b_nightOfRest_7
  have := hz FU (by show manyB b < 4000; omega)
  rw [nI_0] at this
  rw [this]
  simp only [Option.bind_some]
  cases z with
  | inl u =>
    have e : restA rs b = 0 := by
      have hle := restA_le rs b
      have : nI 0 = nI (restA rs b) := hv
      exact ((nI_eq (by decide) (by omega)).mp this).symm
    rw [e] at g1 ⊢
    show Option.bind (b_goesBy 0 (countB b) m) (fun z3 => some (z3.1, z3.2)) = _
    rw [show (0 : Int32) = nI 0 from rfl, g1]; rfl
  | inr r =>
    show Option.bind (b_goesBy (r + 1) (countB b) m) (fun z3 => some (z3.1, z3.2)) = _
    have : r + 1 = nI (restA rs b) := hv
    rw [this, g1]; rfl
