/-! the class's leaves on the same row: KB says how the class holds it -/
def hN (b : Nat → Int32) (k : Nat) : Nat := (b (37 + 5 * k + 4)).toNatClampNeg
def heardN (b : Nat → Int32) : Nat := hN b 0 + 2 * hN b 1 + 4 * hN b 2 + 8 * hN b 3 + 16 * hN b 4 + 32 * hN b 5
theorem WF.hNk {b} (h : WF b) {k : Nat} (hk : k < 6) : b (37 + 5 * k + 4) = nI (hN b k) ∧ hN b k ≤ 1 := by
  obtain ⟨j, h1, h2⟩ := h.heard hk
  unfold hN
  rw [h2, nI_clamp (by omega)]
  exact ⟨rfl, h1⟩
theorem WF.heard64 {b} (h : WF b) : heardN b < 64 := by
  have h0 := (h.hNk (k := 0) (by decide)).2
  have h1 := (h.hNk (k := 1) (by decide)).2
  have h2 := (h.hNk (k := 2) (by decide)).2
  have h3 := (h.hNk (k := 3) (by decide)).2
  have h4 := (h.hNk (k := 4) (by decide)).2
  have h5 := (h.hNk (k := 5) (by decide)).2
  unfold heardN
  omega
theorem WF.bitN {b} (h : WF b) {k : Nat} (hk : k < 6) : heardN b / 2 ^ k % 2 = hN b k := by
  have h0 := (h.hNk (k := 0) (by decide)).2
  have h1 := (h.hNk (k := 1) (by decide)).2
  have h2 := (h.hNk (k := 2) (by decide)).2
  have h3 := (h.hNk (k := 3) (by decide)).2
  have h4 := (h.hNk (k := 4) (by decide)).2
  have h5 := (h.hNk (k := 5) (by decide)).2
  unfold heardN
  match k, hk with
  | 0, _ => omega
  | 1, _ => omega
  | 2, _ => omega
  | 3, _ => omega
  | 4, _ => omega
  | 5, _ => omega
  | k + 6, h => omega
def KB (m : M) (b : Nat → Int32) : Prop := (m 1 0 = b 0 ∧ m 1 1 = b 1 ∧ m 1 2 = b 3 ∧ m 1 3 = b 4 ∧ m 1 5 = b 5 ∧ m 1 6 = b 6 ∧ m 1 7 = nI (heardN b)) ∧ (∀ k, k < 6 → m 10 k = b (37 + 5 * k + 0) ∧ m 11 k = b (37 + 5 * k + 1) ∧ m 12 k = b (37 + 5 * k + 2) ∧ m 13 k = b (37 + 5 * k + 3)) ∧ (∀ j, j < 16 → m 14 j = b (9 + j)) ∧ (∀ j, j < 6 → m 15 j = b (25 + j) ∧ m 16 j = b (31 + j))
theorem KB.f0 {m b} (h : KB m b) : m 1 0 = b 0 := h.1.1
theorem KB.f1 {m b} (h : KB m b) : m 1 1 = b 1 := h.1.2.1
theorem KB.f2 {m b} (h : KB m b) : m 1 2 = b 3 := h.1.2.2.1
theorem KB.f3 {m b} (h : KB m b) : m 1 3 = b 4 := h.1.2.2.2.1
theorem KB.f5 {m b} (h : KB m b) : m 1 5 = b 5 := h.1.2.2.2.2.1
theorem KB.f6 {m b} (h : KB m b) : m 1 6 = b 6 := h.1.2.2.2.2.2.1
theorem KB.f7 {m b} (h : KB m b) : m 1 7 = nI (heardN b) := h.1.2.2.2.2.2.2
theorem KB.kind {m b} (h : KB m b) {k : Nat} (hk : k < 6) : m 10 k = b (37 + 5 * k + 0) := (h.2.1 k hk).1
theorem KB.votes {m b} (h : KB m b) {k : Nat} (hk : k < 6) : m 11 k = b (37 + 5 * k + 1) := (h.2.1 k hk).2.1
theorem KB.greed {m b} (h : KB m b) {k : Nat} (hk : k < 6) : m 12 k = b (37 + 5 * k + 2) := (h.2.1 k hk).2.2.1
theorem KB.seat {m b} (h : KB m b) {k : Nat} (hk : k < 6) : m 13 k = b (37 + 5 * k + 3) := (h.2.1 k hk).2.2.2
theorem KB.ship {m b} (h : KB m b) {j : Nat} (hj : j < 16) : m 14 j = b (9 + j) := h.2.2.1 j hj
theorem KB.hush {m b} (h : KB m b) {j : Nat} (hj : j < 6) : m 15 j = b (25 + j) := (h.2.2.2 j hj).1
theorem KB.zeal {m b} (h : KB m b) {j : Nat} (hj : j < 6) : m 16 j = b (31 + j) := (h.2.2.2 j hj).2
theorem rd6 {m : M} {p j : Nat} (hp : len p = 6) (h : j < 6) : rdI m p (nI j) = some (m p j) := rdI_at (by rw [hp]; exact h) (by rw [hp]; decide)
theorem bit_dec : ∀ h, h < 64 → ∀ k, k < 6 → ((nI h >>> (nI k &&& 31)) &&& 1) = nI (h / 2 ^ k % 2) := by decide +kernel
theorem k_isIn_nI {h k : Nat} (hh : h < 64) (hk : k < 6) {m : M} : k_isIn (nI h) (nI k) m = some (nI (h / 2 ^ k % 2)) := by
  unfold k_isIn
  rw [bit_dec h hh k hk]
  have : h / 2 ^ k % 2 < 2 := Nat.mod_lt _ (by decide)
  rcases (show h / 2 ^ k % 2 = 0 ∨ h / 2 ^ k % 2 = 1 by omega) with e | e <;> rw [e] <;> decide
theorem b_isHeard_eq {m : M} {b : Nat → Int32} (hK : KB m b) (hW : WF b) {k : Nat} (hk : k < 6) : b_isHeard (nI k) m = some (b (37 + 5 * k + 4)) := by
  unfold b_isHeard
  rw [hK.f7, k_isIn_nI hW.heard64 hk, hW.bitN hk]
  obtain ⟨h1, h2⟩ := hW.hNk hk
  rw [h1]
  rcases (show hN b k = 0 ∨ hN b k = 1 by omega) with e | e <;> rw [e] <;> decide
theorem b_shipNow_eq {m : M} {b : Nat → Int32} (hK : KB m b) (hW : WF b) : b_shipNow m = some (shipB b) := by
  obtain ⟨h1, h2⟩ := hW.nightN
  unfold b_shipNow shipB
  rw [hK.f0, h1, n16]
  by_cases h3 : 16 ≤ nightB b
  · rw [if_pos ((nI_leI (by decide) (by omega)).mpr h3), if_pos h3]
  · rw [if_neg (fun q => h3 ((nI_leI (by decide) (by omega)).mp q)), if_neg h3, rdI_at (by show nightB b < 16; omega) (by decide), hK.ship (by omega)]
    rfl
theorem kinds_at {j : Nat} (h : j ≤ 5) : rdR 17 (nI j) = some (64 + j) := by
  match j, h with
  | 0, _ => rfl
  | 1, _ => rfl
  | 2, _ => rfl
  | 3, _ => rfl
  | 4, _ => rfl
  | 5, _ => rfl
  | j + 6, h => omega
theorem night_par {t : Nat} (ht : t ≤ 16) : nI t - nI t / 2 * 2 = nI (t % 2) := pk_rem (d := 2) (by omega) (by decide) (by decide)
theorem vd_leansBy_eq {j t : Nat} (hj : j ≤ 5) (ht : t ≤ 16) {v l g : Int32} {m : M} : vd_leansBy (64 + j) v l g (nI t) m = some (leanV (nI j) v l g (nI t)) := by
  have hp := night_par ht
  match j, hj with
  | 0, _ => rfl
  | 1, _ => rfl
  | 2, _ => show m2_leansBy l m = some (if 5 ≤ l then -1 else -3); unfold m2_leansBy; split <;> rfl
  | 3, _ =>
    show m3_leansBy v l g (nI t) m = some (if nI t - nI t / 2 * 2 = 1 then 0 else (if 5 ≤ l then -1 else -3))
    unfold m3_leansBy m2_leansBy_67
    rw [hp]
    rcases (show t % 2 = 0 ∨ t % 2 = 1 by omega) with e | e
    · rw [e, if_pos (show nI 0 = (0 : Int32) by decide), if_neg (show ¬ nI 0 = (1 : Int32) by decide)]
      by_cases h5 : 5 ≤ l
      · rw [if_pos h5, if_pos h5]; rfl
      · rw [if_neg h5, if_neg h5]; rfl
    · rw [e, if_neg (show ¬ nI 1 = (0 : Int32) by decide), if_pos (show nI 1 = (1 : Int32) by decide)]
  | 4, _ =>
    show m4_leansBy v l g (nI t) m = some (if v = 2 then g else v - 1)
    unfold m4_leansBy m0_leansBy_68
    split <;> rfl
  | 5, _ =>
    show m5_leansBy v l g (nI t) m = some (-(if v = 2 then g else v - 1))
    unfold m5_leansBy m4_leansBy_69 m0_leansBy_69
    split <;> rfl
  | j + 6, h => omega
theorem b_leanOf_eq {m : M} {b : Nat → Int32} (hK : KB m b) (hW : WF b) {k : Nat} (hk : k < 6) : b_leanOf (nI k) m = some (leanB b k) := by
  obtain ⟨jk, hj1, hj2⟩ := hW.kind hk
  obtain ⟨hb1, hb2⟩ := hW.benchN hk
  obtain ⟨ht1, ht2⟩ := hW.nightN
  unfold b_leanOf leanB
  rw [rd6 (by decide) hk, hK.kind hk, hj2]
  simp only [Option.bind_some]
  rw [kinds_at hj1]
  simp only [Option.bind_some, b_shipNow_eq hK hW, b_valueOf]
  rw [rd6 (by decide) hk, hK.greed hk, hK.f0, hK.f2, ht1]
  simp only [Option.bind_some]
  rw [vd_leansBy_eq hj1 ht2, rd6 (by decide) hk, hK.seat hk, hb1]
  simp only [Option.bind_some]
  rw [rd6 (by decide) (by omega), hK.zeal (by omega)]
  rfl
theorem k_side_eq {x : Int32} {m : M} : k_side x m = some (sideV x) := by
  unfold k_side sideV
  repeat' split
  all_goals rfl
theorem mx0 (x : Int32) : mxI 0 x = if 0 ≤ x then x else 0 := by
  unfold mxI
  by_cases h : 0 < x
  · rw [if_pos h, if_pos (Int32.le_of_lt h)]
  · rw [if_neg h]
    by_cases h2 : 0 ≤ x
    · rw [if_pos h2]
      exact Int32.le_antisymm h2 (Int32.not_lt.mp h)
    · rw [if_neg h2]
theorem mn3 (x : Int32) : mnI 3 x = if x ≤ 3 then x else 3 := by
  unfold mnI
  by_cases h : x < 3
  · rw [if_pos h, if_pos (Int32.le_of_lt h)]
  · rw [if_neg h]
    by_cases h2 : x ≤ 3
    · rw [if_pos h2]
      exact Int32.le_antisymm (Int32.not_lt.mp h) h2
    · rw [if_neg h2]
theorem vd_weighsBy_eq {j : Nat} (hj : j ≤ 5) {v k : Int32} {m : M} : vd_weighsBy (64 + j) v k m = some (if nI j = 1 then v + 1 else if nI j = 2 then 2 * v else if nI j = 3 then 2 * v + k else if nI j = 4 then (v + 1) / 2 else if nI j = 5 then (if (v + 1) / 2 ≤ 3 then (v + 1) / 2 else 3) else v) := by
  match j, hj with
  | 0, _ => rfl
  | 1, _ => rfl
  | 2, _ => rfl
  | 3, _ => rfl
  | 4, _ => rfl
  | 5, _ =>
    show some (mnI 3 ((v + 1) / 2)) = some (if (v + 1) / 2 ≤ 3 then (v + 1) / 2 else 3)
    rw [mn3]
  | j + 6, h => omega
theorem b_weightOf_eq {m : M} {b : Nat → Int32} (hK : KB m b) (hW : WF b) {k : Nat} (hk : k < 6) : b_weightOf (nI k) m = some (weighB b k) := by
  obtain ⟨jk, hj1, hj2⟩ := hW.kind hk
  obtain ⟨hb1, hb2⟩ := hW.benchN hk
  unfold b_weightOf weighB weighV
  rw [rd6 (by decide) hk, hK.kind hk, hj2]
  simp only [Option.bind_some]
  rw [kinds_at hj1, rd6 (by decide) hk, hK.votes hk]
  simp only [Option.bind_some]
  rw [vd_weighsBy_eq hj1, rd6 (by decide) hk, hK.seat hk, hb1]
  simp only [Option.bind_some]
  rw [rd6 (by decide) (by omega), hK.hush (by omega)]
  simp only [Option.bind_some, mx0]
theorem b_count_eq {m : M} {b : Nat → Int32} (hK : KB m b) (hW : WF b) : b_count m = some (countB b) := by
  obtain ⟨h1, h2⟩ := hW.manyN
  unfold b_count b_count_4 countB
  have hloop := iter_seq (body := fun z : Int32 × Int32 => b_count_4b z.1 z.2 m) (fun i => (foldN (fun k c => c + (sideV (leanB b k) - 1) * weighB b k) i 0, nI i)) (r := foldN (fun k c => c + (sideV (leanB b k) - 1) * weighB b k) (manyB b) 0) (manyB b) (fun i hi => by
    show b_count_4b _ (nI i) m = _
    unfold b_count_4b
    rw [hK.f6, h1, if_neg (nI_ge hi (by omega)), b_leanOf_eq hK hW (by omega), b_weightOf_eq hK hW (by omega)]
    simp only [Option.bind_some, lt, nI_1, k_side_eq]
    rfl) (by
    show b_count_4b _ (nI _) m = _
    unfold b_count_4b
    rw [hK.f6, h1, if_pos ((nI_leI (by omega) (by omega)).mpr (Nat.le_refl _))]) (by omega)
  have h3 : ((0 : Int32), (0 : Int32)) = (fun i => (foldN (fun k c => c + (sideV (leanB b k) - 1) * weighB b k) i 0, nI i)) 0 := rfl
  rw [h3, hloop]
  rfl
theorem b_isCarried_eq {w c : Int32} {m : M} : b_isCarried w c m = some (carV w c) := by
  unfold b_isCarried b_isCarried_8 carV
  by_cases h : w = 0
  · subst h
    rw [if_pos rfl, if_pos rfl]
    by_cases h2 : 0 < c
    · rw [if_pos h2, if_neg (Int32.not_le.mpr h2)]
    · rw [if_neg h2, if_pos (Int32.not_lt.mp h2), if_neg (by decide)]
  · rw [if_neg h, if_neg h]
    repeat' split
    all_goals rfl
theorem b_isLost_eq {a l : Int32} {m : M} : b_isLost a l m = some (lostV a l) := by
  unfold b_isLost b_valueOf lostV
  simp only [Option.bind_some]
  repeat' split
  all_goals rfl
theorem b_nearer_eq {m : M} {l : Int32} : b_nearerToFive l m = some (nearV l) := by
  unfold b_nearerToFive nearV
  by_cases h : 5 ≤ l
  · rw [if_pos h, if_pos h]
    by_cases h2 : l ≤ 5
    · rw [if_pos h2, if_pos h2, Int32.le_antisymm h2 h]
    · rw [if_neg h2, if_neg h2]
  · rw [if_neg h, if_neg h]
theorem b_isOver_eq {m : M} {b : Nat → Int32} (hK : KB m b) : b_isOver m = some (overB b) := by
  unfold b_isOver overB
  rw [hK.f0, hK.f1]
  split <;> rfl
