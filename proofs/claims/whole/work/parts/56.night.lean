/-! a night, as a function of the row: what it changes there, and what it is worth -/
def moveB (rs : List Rl) (b : Nat → Int32) (k : Nat) : Int32 × (Nat → Int32) :=
  if willB rs b k = 1 then (0, b) else if carV (willB rs b k) (countB b) = 0 then (0, upd b (37 + 5 * k + 1) (heldV (b (37 + 5 * k + 1) - 1) 9)) else (2, upd (upd b 3 (heldV (if willB rs b k = 0 then b 3 - 2 else b 3 + 2) 9)) (37 + 5 * k + 4) 1)
def lossB (b : Nat → Int32) : Int32 := lostV (shipB b) (b 3)
def worthB (b : Nat → Int32) (w : Int32) : Int32 := w + (if lossB b = 0 then (if shipB b / 4 ≤ 0 then 0 else 1) else 3 * (shipB b / 4))
def passB (w : Int32) (b : Nat → Int32) : Nat → Int32 := upd (upd (upd (upd b 4 (heldV (b 4 + (if lossB b = 0 then 0 else 5 * (shipB b / 4))) 999)) 3 (nearV (b 3))) 0 (b 0 + 1)) 2 (b 2 + worthB b w)
def preB (rs : List Rl) (a : Nat) (b : Nat → Int32) : Int32 × (Nat → Int32) := if a = 0 then (0, b) else moveB rs b (a - 1)
def goW (rs : List Rl) (a : Nat) (b : Nat → Int32) : Int32 := worthB (preB rs a b).2 (preB rs a b).1
def goL (rs : List Rl) (a : Nat) (b : Nat → Int32) : Int32 := lossB (preB rs a b).2
def goB (rs : List Rl) (a : Nat) (b : Nat → Int32) : Nat → Int32 := passB (preB rs a b).1 (preB rs a b).2
theorem lostV01 (s l : Int32) : lostV s l = 0 ∨ lostV s l = 1 := by
  unfold lostV
  repeat' split
  all_goals simp
theorem carV01 (w c : Int32) : carV w c = 0 ∨ carV w c = 1 := by
  unfold carV
  repeat' split
  all_goals simp
-- reads and writes of the row at numbers
theorem rd77_0 {m : M} : rdI m 77 0 = some (m 77 0) := rd77 (j := 0) (by decide)
theorem rd77_1 {m : M} : rdI m 77 1 = some (m 77 1) := rd77 (j := 1) (by decide)
theorem rd77_2 {m : M} : rdI m 77 2 = some (m 77 2) := rd77 (j := 2) (by decide)
theorem rd77_3 {m : M} : rdI m 77 3 = some (m 77 3) := rd77 (j := 3) (by decide)
theorem rd77_4 {m : M} : rdI m 77 4 = some (m 77 4) := rd77 (j := 4) (by decide)
theorem rd77_5 {m : M} : rdI m 77 5 = some (m 77 5) := rd77 (j := 5) (by decide)
theorem rd77_6 {m : M} : rdI m 77 6 = some (m 77 6) := rd77 (j := 6) (by decide)
theorem rd77_7 {m : M} : rdI m 77 7 = some (m 77 7) := rd77 (j := 7) (by decide)
theorem rd77_8 {m : M} : rdI m 77 8 = some (m 77 8) := rd77 (j := 8) (by decide)
theorem wr77_0 {m : M} {v : Int32} : wrI m 77 0 v = some (mset m 77 (upd (m 77) 0 v)) := wr77 (j := 0) (by decide)
theorem wr77_1 {m : M} {v : Int32} : wrI m 77 1 v = some (mset m 77 (upd (m 77) 1 v)) := wr77 (j := 1) (by decide)
theorem wr77_2 {m : M} {v : Int32} : wrI m 77 2 v = some (mset m 77 (upd (m 77) 2 v)) := wr77 (j := 2) (by decide)
theorem wr77_3 {m : M} {v : Int32} : wrI m 77 3 v = some (mset m 77 (upd (m 77) 3 v)) := wr77 (j := 3) (by decide)
theorem wr77_4 {m : M} {v : Int32} : wrI m 77 4 v = some (mset m 77 (upd (m 77) 4 v)) := wr77 (j := 4) (by decide)
theorem wr77_5 {m : M} {v : Int32} : wrI m 77 5 v = some (mset m 77 (upd (m 77) 5 v)) := wr77 (j := 5) (by decide)
theorem wr77_6 {m : M} {v : Int32} : wrI m 77 6 v = some (mset m 77 (upd (m 77) 6 v)) := wr77 (j := 6) (by decide)
theorem wr77_7 {m : M} {v : Int32} : wrI m 77 7 v = some (mset m 77 (upd (m 77) 7 v)) := wr77 (j := 7) (by decide)
theorem wr77_8 {m : M} {v : Int32} : wrI m 77 8 v = some (mset m 77 (upd (m 77) 8 v)) := wr77 (j := 8) (by decide)
theorem wrF_77 {m : M} {k : Nat} {v : Int32} : (wrF m 76 k v) 77 = m 77 := mset_ne (by decide)
/-- all but the row, the pile, and the count of what is lost -/
def E76 (m m' : M) : Prop := ∀ p k, p ≠ 80 → p ≠ 77 → ¬ (p = 76 ∧ k = 16) → m' p k = m p k
theorem E76.rfl {m : M} : E76 m m := fun _ _ _ _ _ => Eq.refl _
theorem E76.trans {m m1 m2 : M} (h1 : E76 m m1) (h2 : E76 m1 m2) : E76 m m2 := fun p k a b c => (h2 p k a b c).trans (h1 p k a b c)
theorem E80.E76 {m m' : M} (h : E80 m m') : E76 m m' := fun p k a _ _ => by rw [h p a]
theorem E76_77 {m : M} {f : Nat → Int32} : E76 m (mset m 77 f) := fun p k _ b _ => by rw [mset_ne b]
theorem E76_16 {m : M} {v : Int32} : E76 m (wrF m 76 16 v) := fun p k _ _ c => by
  unfold wrF
  by_cases h : p = 76
  · subst h
    rw [mset_same, upd_off (fun q => c ⟨Eq.refl _, q⟩)]
  · rw [mset_ne h]
theorem E76.SQ {m m' : M} {b : Nat → Int32} (h : E76 m m') (hb : m' 77 = b) : SQ (mset m 77 b) m' := by
  intro p k hk
  by_cases h7 : p = 77
  · subst h7; rw [mset_same, hb]
  · rw [mset_ne h7]
    refine h p k (fun q => ?_) h7 (fun q => ?_)
    · subst q; rw [sc_80] at hk; cases hk
    · obtain ⟨q1, q2⟩ := q
      subst q1; subst q2; revert hk; decide
theorem r_goesBy_28_eq {m : M} {b : Nat → Int32} (hb : m 77 = b) (hW : WF b) (w : Int32) : r_goesBy_28 w m = some (worthB b w, mset (wrF m 76 16 (m 76 16 + lossB b)) 77 (passB w b)) := by
  have hs : r_shipNow m = some (shipB b) := by rw [r_shipNow_eq (by rw [hb]; exact hW), hb]
  unfold r_goesBy_28
  rw [hs]
  simp only [Option.bind_some]
  rw [ltE]
  rw [rd77_3, hb]
  simp only [Option.bind_some, r_isLost_eq]
  have e1 : lossB b = lostV (shipB b) (b 3) := Eq.refl _
  rw [← e1]
  have a1 : ∀ x : Int32, x + 0 = x := Int32.add_zero
  rcases lostV01 (shipB b) (b 3) with h | h <;> rw [← e1] at h
  · rw [if_pos h]
    unfold r_goesBy_67
    rw [ltE, rd77_4, wrF_77, hb, Option.bind_some, if_pos h]
    unfold r_goesBy_95
    rw [r_held_eq]
    simp only [Option.bind_some]
    rw [wr77_4, wrF_77, hb]
    simp only [Option.bind_some]
    rw [if_pos h]
    have key : ∀ x : Int32, r_goesBy_126 w x (mset (wrF m 76 16 (m 76 16 + 0)) 77 (upd b 4 (heldV (b 4 + 0) 999))) = some (w + x, mset (wrF m 76 16 (m 76 16 + 0)) 77 (upd (upd (upd (upd b 4 (heldV (b 4 + 0) 999)) 3 (nearV (b 3))) 0 (b 0 + 1)) 2 (b 2 + (w + x)))) := fun x => by
      unfold r_goesBy_126
      rw [ltE, rd77_3, mset_same, upd_off (by decide), Option.bind_some, r_nearer_eq, Option.bind_some, wr77_3, mset_mset, mset_same, Option.bind_some, rd77_0, mset_same, upd_off (by decide), upd_off (by decide), Option.bind_some, wr77_0, mset_mset, mset_same, Option.bind_some, rd77_2, mset_same, upd_off (by decide), upd_off (by decide), upd_off (by decide), Option.bind_some, wr77_2, mset_mset, mset_same, Option.bind_some]
    unfold worthB passB worthB
    by_cases hv : shipB b / 4 ≤ 0
    · rw [if_pos hv, key, if_pos h, if_pos h, if_pos hv, h]
    · rw [if_neg hv, key, if_pos h, if_pos h, if_neg hv, h]
  · have h0 : ¬ lossB b = 0 := by rw [h]; decide
    rw [if_neg h0]
    unfold r_goesBy_67
    rw [ltE, rd77_4, wrF_77, hb, Option.bind_some, if_neg h0]
    unfold r_goesBy_95
    rw [r_held_eq]
    simp only [Option.bind_some]
    rw [wr77_4, wrF_77, hb]
    simp only [Option.bind_some]
    rw [if_neg h0]
    have key : ∀ x : Int32, r_goesBy_126 w x (mset (wrF m 76 16 (m 76 16 + 1)) 77 (upd b 4 (heldV (b 4 + 5 * (shipB b / 4)) 999))) = some (w + x, mset (wrF m 76 16 (m 76 16 + 1)) 77 (upd (upd (upd (upd b 4 (heldV (b 4 + 5 * (shipB b / 4)) 999)) 3 (nearV (b 3))) 0 (b 0 + 1)) 2 (b 2 + (w + x)))) := fun x => by
      unfold r_goesBy_126
      rw [ltE, rd77_3, mset_same, upd_off (by decide), Option.bind_some, r_nearer_eq, Option.bind_some, wr77_3, mset_mset, mset_same, Option.bind_some, rd77_0, mset_same, upd_off (by decide), upd_off (by decide), Option.bind_some, wr77_0, mset_mset, mset_same, Option.bind_some, rd77_2, mset_same, upd_off (by decide), upd_off (by decide), upd_off (by decide), Option.bind_some, wr77_2, mset_mset, mset_same, Option.bind_some]
    unfold worthB passB worthB
    rw [key, if_neg h0, if_neg h0, h]
theorem r_movesFor_eq {m : M} {b : Nat → Int32} {rs : List Rl} {k : Nat} (hb : m 77 = b) (hW : WF b) (hR : RR b rs) (hk : k < 6) : ∃ m', r_movesFor (nI k) m = some ((moveB rs b k).1, m') ∧ m' 77 = (moveB rs b k).2 ∧ E76 m m' ∧ m' 76 16 = m 76 16 := by
  obtain ⟨m1, h1, q1⟩ := r_willOf_eq hb hW hR hk
  have hb1 : m1 77 = b := q1.r77.trans hb
  have h76 : m1 76 16 = m 76 16 := by rw [q1 76 (by decide)]
  unfold r_movesFor
  rw [h1]
  simp only [Option.bind_some]
  unfold moveB
  by_cases hw : willB rs b k = 1
  · rw [if_pos hw, if_pos hw]
    exact ⟨m1, Eq.refl _, hb1, q1.E76, h76⟩
  · rw [if_neg hw, if_neg hw, r_isCarried_eq (by rw [hb1]; exact hW), hb1]
    simp only [Option.bind_some]
    by_cases hc : carV (willB rs b k) (countB b) = 0
    · rw [if_pos hc, if_pos hc, show r_get (nI k) (1 : Int32) m1 = some (m1 77 (37 + 5 * k + 1)) from r_get_at (f := 1) hk (by decide), hb1]
      simp only [Option.bind_some, r_held_eq]
      rw [show ∀ v, r_puts (nI k) (1 : Int32) v m1 = some (mset m1 77 (upd (m1 77) (37 + 5 * k + 1) v)) from fun v => r_puts_at (f := 1) hk (by decide), hb1]
      exact ⟨_, Eq.refl _, mset_same, q1.E76.trans E76_77, by rw [mset_ne (by decide)]; exact h76⟩
    · rw [if_neg hc, if_neg hc]
      have key : ∀ x : Int32, r_movesFor_70 (nI k) x m1 = some (2, mset m1 77 (upd (upd b 3 (heldV x 9)) (37 + 5 * k + 4) 1)) := fun x => by
        unfold r_movesFor_70
        rw [r_held_eq, Option.bind_some, wr77_3, hb1, Option.bind_some, show ∀ m' : M, r_puts (nI k) (4 : Int32) 1 m' = some (mset m' 77 (upd (m' 77) (37 + 5 * k + 4) 1)) from fun m' => r_puts_at (f := 4) hk (by decide), mset_mset, mset_same, Option.bind_some]
      by_cases h0 : willB rs b k = 0
      · rw [if_pos h0, if_pos h0, rd77_3, hb1, Option.bind_some, key]
        exact ⟨_, Eq.refl _, mset_same, q1.E76.trans E76_77, by rw [mset_ne (by decide)]; exact h76⟩
      · rw [if_neg h0, if_neg h0, rd77_3, hb1, Option.bind_some, key]
        exact ⟨_, Eq.refl _, mset_same, q1.E76.trans E76_77, by rw [mset_ne (by decide)]; exact h76⟩
