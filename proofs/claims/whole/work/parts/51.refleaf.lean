/-! the reference's leaves, as functions of its row s -/
/-- what the row s keeps to -/
def WF (b : Nat → Int32) : Prop := (bd (b 0) 16 ∧ bd (b 1) 16 ∧ b 0 ≤ b 1) ∧ bd (b 3) 9 ∧ bd (b 4) 999 ∧ bd (b 6) 6 ∧ (∀ j, j < 16 → bd (b (9 + j)) 15) ∧ (∀ j, j < 6 → bd (b (25 + j)) 9) ∧ (∀ j, j < 6 → bd (b (31 + j)) 9) ∧ (∀ k, k < 6 → bd (b (37 + 5 * k + 0)) 5 ∧ bd (b (37 + 5 * k + 1)) 9 ∧ bd (b (37 + 5 * k + 2)) 9 ∧ bd (b (37 + 5 * k + 3)) 5 ∧ bd (b (37 + 5 * k + 4)) 1) ∧ (∀ k, (b 6).toNatClampNeg ≤ k → k < 6 → b (37 + 5 * k + 4) = 0)
theorem WF.night {b} (h : WF b) : bd (b 0) 16 := h.1.1
theorem WF.fin {b} (h : WF b) : bd (b 1) 16 := h.1.2.1
theorem WF.le {b} (h : WF b) : b 0 ≤ b 1 := h.1.2.2
theorem WF.light {b} (h : WF b) : bd (b 3) 9 := h.2.1
theorem WF.fund {b} (h : WF b) : bd (b 4) 999 := h.2.2.1
theorem WF.many {b} (h : WF b) : bd (b 6) 6 := h.2.2.2.1
theorem WF.ship {b} (h : WF b) : ∀ j, j < 16 → bd (b (9 + j)) 15 := h.2.2.2.2.1
theorem WF.hush {b} (h : WF b) : ∀ j, j < 6 → bd (b (25 + j)) 9 := h.2.2.2.2.2.1
theorem WF.zeal {b} (h : WF b) : ∀ j, j < 6 → bd (b (31 + j)) 9 := h.2.2.2.2.2.2.1
theorem WF.kind {b} (h : WF b) {k : Nat} (hk : k < 6) : bd (b (37 + 5 * k + 0)) 5 := (h.2.2.2.2.2.2.2.1 k hk).1
theorem WF.votes {b} (h : WF b) {k : Nat} (hk : k < 6) : bd (b (37 + 5 * k + 1)) 9 := (h.2.2.2.2.2.2.2.1 k hk).2.1
theorem WF.greed {b} (h : WF b) {k : Nat} (hk : k < 6) : bd (b (37 + 5 * k + 2)) 9 := (h.2.2.2.2.2.2.2.1 k hk).2.2.1
theorem WF.bench {b} (h : WF b) {k : Nat} (hk : k < 6) : bd (b (37 + 5 * k + 3)) 5 := (h.2.2.2.2.2.2.2.1 k hk).2.2.2.1
theorem WF.heard {b} (h : WF b) {k : Nat} (hk : k < 6) : bd (b (37 + 5 * k + 4)) 1 := (h.2.2.2.2.2.2.2.1 k hk).2.2.2.2
theorem WF.over {b} (h : WF b) : ∀ k, (b 6).toNatClampNeg ≤ k → k < 6 → b (37 + 5 * k + 4) = 0 := h.2.2.2.2.2.2.2.2
/-- how many members -/
def manyB (b : Nat → Int32) : Nat := (b 6).toNatClampNeg
theorem WF.manyN {b} (h : WF b) : b 6 = nI (manyB b) ∧ manyB b ≤ 6 := by
  obtain ⟨j, h1, h2⟩ := h.many
  unfold manyB
  rw [h2, nI_clamp (by omega)]
  exact ⟨rfl, h1⟩
def nightB (b : Nat → Int32) : Nat := (b 0).toNatClampNeg
theorem WF.nightN {b} (h : WF b) : b 0 = nI (nightB b) ∧ nightB b ≤ 16 := by
  obtain ⟨j, h1, h2⟩ := h.night
  unfold nightB
  rw [h2, nI_clamp (by omega)]
  exact ⟨rfl, h1⟩
def endB (b : Nat → Int32) : Nat := (b 1).toNatClampNeg
theorem WF.endN {b} (h : WF b) : b 1 = nI (endB b) ∧ endB b ≤ 16 := by
  obtain ⟨j, h1, h2⟩ := h.fin
  unfold endB
  rw [h2, nI_clamp (by omega)]
  exact ⟨rfl, h1⟩
def shipB (b : Nat → Int32) : Int32 := if 16 ≤ nightB b then 0 else b (9 + nightB b)
theorem r_shipNow_eq {m : M} (h : WF (m 77)) : r_shipNow m = some (shipB (m 77)) := by
  obtain ⟨h1, h2⟩ := h.nightN
  unfold r_shipNow shipB
  rw [n0, rd77 (by decide)]
  simp only [Option.bind_some]
  rw [h1, n16]
  by_cases h3 : 16 ≤ nightB (m 77)
  · rw [if_pos ((nI_leI (by decide) (by omega)).mpr h3), if_pos h3]
  · rw [if_neg (fun q => h3 ((nI_leI (by decide) (by omega)).mp q)), if_neg h3]
    rw [n9, nI_add, rd77 (by omega)]
    rfl
theorem WF.shipNow {b} (h : WF b) : bd (shipB b) 15 := by
  unfold shipB
  by_cases h3 : 16 ≤ nightB b
  · rw [if_pos h3]; exact ⟨0, by omega, by decide⟩
  · rw [if_neg h3]; exact h.ship _ (by omega)
def leanV (kind worth light greed night : Int32) : Int32 := if kind = 1 then greed * worth + 1 else if kind = 2 then (if 5 ≤ light then -1 else -3) else if kind = 3 then (if night - night / 2 * 2 = 1 then 0 else (if 5 ≤ light then -1 else -3)) else if kind = 4 then (if worth = 2 then greed else worth - 1) else if kind = 5 then -(if worth = 2 then greed else worth - 1) else worth - 1
theorem r_leansBy_eq {a0 a1 a2 a3 a4 : Int32} {m : M} : r_leansBy a0 a1 a2 a3 a4 m = some (leanV a0 a1 a2 a3 a4) := by
  unfold r_leansBy r_leansBy_12 r_leansBy_25 leanV
  repeat' split
  all_goals first | rfl | contradiction
def benchB (b : Nat → Int32) (k : Nat) : Nat := (b (37 + 5 * k + 3)).toNatClampNeg
theorem WF.benchN {b} (h : WF b) {k : Nat} (hk : k < 6) : b (37 + 5 * k + 3) = nI (benchB b k) ∧ benchB b k ≤ 5 := by
  obtain ⟨j, h1, h2⟩ := h.bench hk
  unfold benchB
  rw [h2, nI_clamp (by omega)]
  exact ⟨rfl, h1⟩
def leanB (b : Nat → Int32) (k : Nat) : Int32 := leanV (b (37 + 5 * k + 0)) (shipB b / 4) (b 3) (b (37 + 5 * k + 2)) (b 0) + b (31 + benchB b k)
theorem r_leansOf_eq {m : M} (h : WF (m 77)) {k : Nat} (hk : k < 6) : r_leansOf (nI k) m = some (leanB (m 77) k) := by
  obtain ⟨h1, h2⟩ := h.benchN hk
  unfold r_leansOf leanB
  simp only [n0, n2, n3]
  rw [r_get_at hk (by decide), r_shipNow_eq h, rd77 (by decide), r_get_at hk (by decide), rd77 (by decide), r_get_at hk (by decide)]
  simp only [Option.bind_some, r_leansBy_eq]
  rw [h1, n31, nI_add, rd77 (by omega)]
  rfl
def sideV (x : Int32) : Int32 := if x ≤ 0 then (if 0 ≤ x then 1 else 0) else 2
theorem r_sideOf_eq {m : M} (h : WF (m 77)) {k : Nat} (hk : k < 6) : r_sideOf (nI k) m = some (sideV (leanB (m 77) k)) := by
  unfold r_sideOf sideV
  rw [r_leansOf_eq h hk]
  simp only [Option.bind_some]
  repeat' split
  all_goals rfl
def weighV (kind votes k hush : Int32) : Int32 :=
  let v := if kind = 1 then votes + 1 else if kind = 2 then 2 * votes else if kind = 3 then 2 * votes + k else if kind = 4 then (votes + 1) / 2 else if kind = 5 then (if (votes + 1) / 2 ≤ 3 then (votes + 1) / 2 else 3) else votes
  if 0 ≤ v - hush then v - hush else 0
def weighB (b : Nat → Int32) (k : Nat) : Int32 := weighV (b (37 + 5 * k + 0)) (b (37 + 5 * k + 1)) (nI k) (b (25 + benchB b k))
theorem r_weighsOf_103_eq {m : M} (h : WF (m 77)) {k : Nat} (hk : k < 6) (v : Int32) : r_weighsOf_103 (nI k) v m = some (if 0 ≤ v - (m 77) (25 + benchB (m 77) k) then v - (m 77) (25 + benchB (m 77) k) else 0) := by
  obtain ⟨h1, h2⟩ := h.benchN hk
  unfold r_weighsOf_103
  rw [n3, r_get_at hk (by decide)]
  simp only [Option.bind_some]
  rw [h1, n25, nI_add, rd77 (by omega)]
  simp only [Option.bind_some, lt]
  split <;> rfl
theorem r_weighsOf_eq {m : M} (h : WF (m 77)) {k : Nat} (hk : k < 6) : r_weighsOf (nI k) m = some (weighB (m 77) k) := by
  unfold r_weighsOf r_weighsOf_98 weighB weighV
  rw [show r_get (nI k) (1 : Int32) m = some (m 77 (37 + 5 * k + 1)) from r_get_at (f := 1) hk (by decide), show r_get (nI k) (0 : Int32) m = some (m 77 (37 + 5 * k + 0)) from r_get_at (f := 0) hk (by decide)]
  simp only [Option.bind_some, lt, r_weighsOf_103_eq h hk]
  repeat' split
  all_goals first | rfl | contradiction
def countB (b : Nat → Int32) : Int32 := foldN (fun k c => c + (sideV (leanB b k) - 1) * weighB b k) (manyB b) 0
theorem r_theCount_eq {m : M} (h : WF (m 77)) : r_theCount m = some (countB (m 77)) := by
  obtain ⟨h1, h2⟩ := h.manyN
  unfold r_theCount r_theCount_4 countB
  have hloop := iter_seq (body := fun z : Int32 × Int32 => r_theCount_4b z.1 z.2 m) (fun i => (foldN (fun k c => c + (sideV (leanB (m 77) k) - 1) * weighB (m 77) k) i 0, nI i)) (r := foldN (fun k c => c + (sideV (leanB (m 77) k) - 1) * weighB (m 77) k) (manyB (m 77)) 0) (manyB (m 77)) (fun i hi => by
    show r_theCount_4b _ (nI i) m = _
    unfold r_theCount_4b
    rw [n6, rd77 (by decide)]
    simp only [Option.bind_some]
    rw [h1, if_neg (nI_ge hi (by omega)), r_sideOf_eq h (by omega), r_weighsOf_eq h (by omega)]
    simp only [Option.bind_some, lt, nI_1]
    rfl) (by
    show r_theCount_4b _ (nI _) m = _
    unfold r_theCount_4b
    rw [n6, rd77 (by decide)]
    simp only [Option.bind_some]
    rw [h1, if_pos ((nI_leI (by omega) (by omega)).mpr (Nat.le_refl _))]) (by omega)
  have h3 : ((0 : Int32), (0 : Int32)) = (fun i => (foldN (fun k c => c + (sideV (leanB (m 77) k) - 1) * weighB (m 77) k) i 0, nI i)) 0 := rfl
  rw [h3, hloop]
  rfl
def carV (will c : Int32) : Int32 := if will = 0 then (if c ≤ 0 then 0 else 1) else if will = 2 then (if 0 ≤ c then 0 else 1) else 0
theorem r_isCarried_eq {m : M} (h : WF (m 77)) {w : Int32} : r_isCarried w m = some (carV w (countB (m 77))) := by
  unfold r_isCarried carV
  rw [r_theCount_eq h]
  simp only [Option.bind_some]
  repeat' split
  all_goals rfl
def lostV (ship light : Int32) : Int32 := if ship / 4 ≤ 0 then 0 else if 3 * (ship - ship / 4 * 4) ≤ light then 0 else 1
theorem r_isLost_eq {a b : Int32} {m : M} : r_isLost a b m = some (lostV a b) := by
  unfold r_isLost lostV
  repeat' split
  all_goals rfl
def nearV (l : Int32) : Int32 := if 5 ≤ l then (if l ≤ 5 then 5 else l - 1) else l + 1
theorem r_nearer_eq {a : Int32} {m : M} : r_nearer a m = some (nearV a) := by
  unfold r_nearer nearV
  repeat' split
  all_goals rfl
def heldV (v most : Int32) : Int32 := if 0 ≤ v then (if v ≤ most then v else most) else 0
theorem r_held_eq {a b : Int32} {m : M} : r_held a b m = some (heldV a b) := by
  unfold r_held heldV
  repeat' split
  all_goals rfl
def overB (b : Nat → Int32) : Int32 := if b 0 < b 1 then 0 else 1
theorem r_isOver_eq {m : M} : r_isOver m = some (overB (m 77)) := by
  unfold r_isOver overB
  rw [n0, n1, rd77 (by decide), rd77 (by decide)]
  simp only [Option.bind_some]
  split <;> rfl
