/-! nights that stay; rows of a plan, and who reads them -/
theorem ne1 {p k : Nat} (h1 : cl p k ≠ 1) (h0 : cl p k ≠ 0) : ¬ (p = 1 ∨ p = 3 ∨ p = 4 ∨ (10 ≤ p ∧ p ≤ 16) ∨ (26 ≤ p ∧ p ≤ 33) ∨ p = 77) := fun q => h1 (cl_1 (cl_sc h0) q)
theorem now_step {m m1 m2 : M} {b b' : Nat → Int32} {rs : List Rl} {w : Int32} (hR : RR b rs) (hKR : KR m rs) (hWR : WR b) (hKP : KP m b) (hsc : m 1 4 = b 2) (hW' : WF b') (hK : KB m1 b') (hf : ∀ p k, p ≠ 1 → p ≠ 11 → m1 p k = m p k) (h14 : m1 1 4 = m 1 4) (hs : b' 2 = b 2 + w) (h7 : b' 7 = b 7) (h8 : b' 8 = b 8) (hhi : ∀ j, 67 ≤ j → b' j = b j) (hE : E76 (wrF m1 1 4 (m1 1 4 + w)) m2) (hb2 : m2 77 = b') : NOW m2 ∧ Ch 1 m m2 := by
  have hrow : ∀ p, p ≠ 1 → p ≠ 11 → p < 76 → m2 p = m p := fun p q1 q2 q3 => funext fun k => by
    rw [hE p k (by omega) (by omega) (by omega)]
    unfold wrF
    rw [mset_ne q1, hf p k q1 q2]
  have hc : ∀ p k, p < 76 → ¬ (p = 1 ∧ k = 4) → m2 p k = m1 p k := fun p k q1 q2 => by
    rw [hE p k (by omega) (by omega) (by omega)]
    unfold wrF
    by_cases e : p = 1
    · subst e; rw [mset_same, upd_off (fun q => q2 ⟨rfl, q⟩)]
    · rw [mset_ne e]
  refine ⟨⟨rs, ?_, ?_, ?_, ?_, ?_, ?_, ?_⟩, fun p k q1 q0 => ?_⟩
  · rw [hb2]; exact hW'
  · rw [hb2]
    exact hK.cong (fun p c j hp => hc p c (by unfold KBP at hp; omega) (by unfold KBP at hp; omega)) (hc 1 7 (by decide) (by omega))
  · rw [hb2, hE 1 4 (by decide) (by decide) (by omega)]
    unfold wrF
    rw [mset_same, upd_at, h14, hsc, hs]
  · rw [hb2]
    exact ⟨h7.trans hR.1, hR.2.congr (fun r _ => ⟨hhi _ (by omega), hhi _ (by omega), hhi _ (by omega)⟩) (fun j _ => hhi _ (by omega))⟩
  · unfold KR at *
    rw [hrow 3 (by decide) (by decide) (by decide), hrow 26 (by decide) (by decide) (by decide), hrow 27 (by decide) (by decide) (by decide), hrow 28 (by decide) (by decide) (by decide), hrow 29 (by decide) (by decide) (by decide)]
    exact hKR
  · rw [hb2]
    refine ⟨by rw [h8]; exact hWR.1, fun r hr hr2 => ?_⟩
    rw [hhi _ (by omega)]
    exact hWR.2 r hr (by unfold repN at *; rw [h8] at hr2; exact hr2)
  · rw [hb2]
    refine ⟨by rw [hrow 4 (by decide) (by decide) (by decide), h8]; exact hKP.1, fun r hr hr2 => ?_⟩
    rw [hrow 30 (by decide) (by decide) (by decide), hrow 31 (by decide) (by decide) (by decide), hrow 32 (by decide) (by decide) (by decide), hrow 33 (by decide) (by decide) (by decide), hhi _ (by omega), hhi _ (by omega), hhi _ (by omega), hhi _ (by omega)]
    exact hKP.2 r hr (by unfold repN at *; rw [h8] at hr2; exact hr2)
  · have hn := ne1 q1 q0
    have hs := sc_of (cl_sc q0)
    rw [hE p k (by omega) (by omega) (by omega)]
    unfold wrF
    rw [mset_ne (by omega), hf p k (by omega) (by omega)]
theorem NQ.off {m m' : M} (h : NQ m m') : (∀ p k, p ≠ 1 → p ≠ 11 → m' p k = m p k) ∧ m' 1 4 = m 1 4 := ⟨fun p k h1 h2 => h p k (fun q => h1 q.1) (fun q => h2 q.1), h 1 4 (by omega) (by omega)⟩
theorem ok_night {m : M} (hI : INV m) : OK_night INV m := by
  obtain ⟨rs, h1, h2, h3, h4, h5, h6, h7⟩ := hI.1
  unfold OK_night k_night r_night
  rw [isOverK h2 h1, Option.bind_some]
  by_cases e : leftB (m 77) = 0
  · refine ⟨-4, m, m, ?_, ?_, hI⟩
    · rw [if_pos e, if_neg (by decide)]
    · rw [isOverR rfl h1, if_pos e, Option.bind_some, if_neg (by decide)]
  · obtain ⟨m1, g1, g2, g3, g4⟩ := b_nightOfRest_eq h2 h1 h5
    obtain ⟨f1, f2⟩ := g3.off
    have hb1 : (wrF m1 1 4 (m1 1 4 + goW rs (restA rs (m 77)) (m 77))) 77 = m 77 := by
      unfold wrF
      rw [mset_ne (by decide)]
      exact funext fun k => f1 77 k (by decide) (by decide)
    obtain ⟨m2, r1, r2, r3, r4⟩ := r_goesBy_rest hb1 h1 h4
    have hn := NB_step h1 rs
    obtain ⟨n1, n2⟩ := now_step h4 h5 h6 h7 h3 (h1.step (by omega) rs) g2 f1 f2 go_score (hn 7 (by decide) (by decide) (by decide) (by decide) (fun k hk => by omega)) (hn 8 (by decide) (by decide) (by decide) (by decide) (fun k hk => by omega)) hn.hi r3 r2
    refine ⟨goW rs (restA rs (m 77)) (m 77), wrF m1 1 4 (m1 1 4 + goW rs (restA rs (m 77)) (m 77)), m2, ?_, ?_, hI.c1 n2 n1⟩
    · rw [if_neg e, if_pos rfl, g1, Option.bind_some, ltE]
    · rw [isOverR hb1 h1, if_neg e, Option.bind_some, if_pos rfl, r1]
      rfl
theorem ok_lot {m : M} (hI : INV m) : OK_lot INV m := by
  obtain ⟨rs, h1, h2, h3, h4, h5, h6, h7⟩ := hI.1
  unfold OK_lot k_lot r_lot
  rw [isOverK h2 h1, Option.bind_some]
  by_cases e : leftB (m 77) = 0
  · refine ⟨-4, m, m, ?_, ?_, hI⟩
    · rw [if_pos e, if_neg (by decide)]
    · rw [isOverR rfl h1, if_pos e, Option.bind_some, if_neg (by decide)]
  · obtain ⟨m1, g1, g2, g3⟩ := b_byLot_eq h1 h5 h2
    have f1 : ∀ p k, p ≠ 1 → p ≠ 11 → m1 p k = m p k := fun p k q1 q2 => g3 p k (fun q => q1 q.1) (fun q => q2 q.1) (fun q => q1 q.1)
    have f2 : m1 1 4 = m 1 4 := g3 1 4 (by omega) (by omega) (by omega)
    have hb1 : (wrF m1 1 4 (m1 1 4 + goW rs (lotA (m 77)) (lotB (m 77)))) 77 = m 77 := by
      unfold wrF
      rw [mset_ne (by decide)]
      exact funext fun k => f1 77 k (by decide) (by decide)
    obtain ⟨m2, r1, r2, r3⟩ := r_byLot_eq h1 h4 hb1
    have hn := NB_lot1 h1 rs
    have hl : ∀ j, j ≠ 5 → lotB (m 77) j = m 77 j := fun j hj => upd_off hj
    obtain ⟨n1, n2⟩ := now_step h4 h5 h6 h7 h3 (h1.lot1 (by omega) rs) g2 f1 f2 (by rw [go_score, hl 2 (by decide)]) ((hn 7 (by decide) (by decide) (by decide) (by decide) (fun k hk => by omega)).trans (hl 7 (by decide))) ((hn 8 (by decide) (by decide) (by decide) (by decide) (fun k hk => by omega)).trans (hl 8 (by decide))) (fun j hj => (hn.hi j hj).trans (hl j (by omega))) r3 r2
    refine ⟨goW rs (lotA (m 77)) (lotB (m 77)), wrF m1 1 4 (m1 1 4 + goW rs (lotA (m 77)) (lotB (m 77))), m2, ?_, ?_, hI.c1 n2 n1⟩
    · rw [if_neg e, if_pos rfl, g1, Option.bind_some, ltE]
    · rw [isOverR hb1 h1, if_neg e, Option.bind_some, if_pos rfl, r1]
      rfl
theorem rows_at {k : Nat} (h : k < 4) : rdR 50 (nI k) = some (51 + k) := by
  match k, h with
  | 0, _ => rfl
  | 1, _ => rfl
  | 2, _ => rfl
  | 3, _ => rfl
  | k + 4, h => omega
theorem len51 {k : Nat} (h : k < 4) : len (51 + k) = 3 := by
  match k, h with
  | 0, _ => decide
  | 1, _ => decide
  | 2, _ => decide
  | 3, _ => decide
  | k + 4, h => omega
theorem len90 : len 90 = 12 := by decide
def isRowB (n : Nat) (y z : Int32) : Bool := decide (0 ≤ y ∧ y ≤ nI n - 1) && decide (0 ≤ z ∧ z ≤ 2)
theorem isRowB_iff {n : Nat} (hn : n ≤ 4) {y z : Int32} (h : isRowB n y z = true) : ∃ k j, k < n ∧ j < 3 ∧ y = nI k ∧ z = nI j := by
  unfold isRowB at h
  rw [Bool.and_eq_true] at h
  obtain ⟨k, h1, h2⟩ := (in_nat (by omega)).mp (of_decide_eq_true h.1)
  obtain ⟨j, h3, h4⟩ := (in_le (v := z) (n := 2) (by decide)).mp (of_decide_eq_true h.2)
  exact ⟨k, j, h1, by omega, h2, h4⟩
theorem k_isRow_eq {m : M} {n : Nat} (h : m 0 6 = nI n) (y z : Int32) : k_isInRows y z m = some (b01 (isRowB n y z)) := by
  unfold k_isInRows isRowB
  rw [h, k_within_eq, Option.bind_some, k_within_eq, Option.bind_some]
  by_cases c1 : 0 ≤ y ∧ y ≤ nI n - 1
  · rw [if_pos c1, if_neg (by decide), decide_eq_true c1, Bool.true_and]
    by_cases c2 : 0 ≤ z ∧ z ≤ 2
    · rw [if_pos c2, if_neg (by decide), decide_eq_true c2]; rfl
    · rw [if_neg c2, if_pos rfl, decide_eq_false c2]; rfl
  · rw [if_neg c1, if_pos rfl, decide_eq_false c1]; rfl
theorem r_isRow_eq {m : M} {n : Nat} (h : m 76 28 = nI n) (y z : Int32) : r_isRow y z m = some (b01 (isRowB n y z)) := by
  unfold r_isRow isRowB
  rw [h, r_in1_eq, Option.bind_some, r_in1_eq, Option.bind_some]
  by_cases c1 : 0 ≤ y ∧ y ≤ nI n - 1
  · rw [if_pos c1, if_neg (by decide), decide_eq_true c1, Bool.true_and]
    by_cases c2 : 0 ≤ z ∧ z ≤ 2
    · rw [if_pos c2, if_neg (by decide), decide_eq_true c2]; rfl
    · rw [if_neg c2, if_pos rfl, decide_eq_false c2]; rfl
  · rw [if_neg c1, if_pos rfl, decide_eq_false c1]; rfl
theorem nI_3mul {k : Nat} : (3 : Int32) * nI k = nI (3 * k) := by rw [n3, pk_mul]
theorem ok_row {m : M} (hI : INV m) : OK_row INV m := fun y z => by
  obtain ⟨n, h1, h2, h3, h4⟩ := hI.2.2.1
  unfold k_row r_row
  rw [k_isRow_eq h2, r_isRow_eq h3, Option.bind_some, Option.bind_some]
  by_cases c : isRowB n y z = true
  · obtain ⟨k, j, hk, hj, rfl, rfl⟩ := isRowB_iff h1 c
    refine ⟨m (51 + k) j, ?_, ?_, hI⟩
    · rw [c, b01_t, rows_at (by omega), Option.bind_some, rdI_at (by rw [len51 (by omega)]; exact hj) (by rw [len51 (by omega)]; decide)]; rfl
    · rw [c, b01_t, nI_3mul, nI_add, rdI_at (show 3 * k + j < len 90 by rw [len90]; omega) (by rw [len90]; decide), ← h4 k hk j hj]; rfl
  · rw [Bool.eq_false_iff.mpr c]
    exact ⟨-9, b01_f, b01_f, hI⟩
theorem ne3 {p k : Nat} (h1 : cl p k ≠ 3) (h0 : cl p k ≠ 0) : ¬ ((p = 0 ∧ k = 6) ∨ (51 ≤ p ∧ p ≤ 54) ∨ p = 90 ∨ (p = 76 ∧ k = 28)) := fun q => h1 (cl_3 (cl_sc h0) q)
theorem ok_alterRow {m : M} (hI : INV m) : OK_alterRow INV m := fun y z v => by
  obtain ⟨n, h1, h2, h3, h4⟩ := hI.2.2.1
  unfold k_alterRow r_alterRow
  rw [k_isRow_eq h2, Option.bind_some]
  by_cases c : isRowB n y z = true
  · have hc := c
    obtain ⟨k, j, hk, hj, rfl, rfl⟩ := isRowB_iff h1 c
    have hl3 : j < len (51 + k) := by rw [len51 (by omega)]; exact hj
    have hl32 : len (51 + k) < 2 ^ 31 := by rw [len51 (by omega)]; decide
    have h12 : 3 * k + j < len 90 := by rw [len90]; omega
    refine ⟨m (51 + k) j, mset m (51 + k) (upd (m (51 + k)) j v), mset (mset m (51 + k) (upd (m (51 + k)) j v)) 90 (upd (m 90) (3 * k + j) v), ?_, ?_, hI.c3 (fun p q q1 q0 => ?_) ⟨n, h1, ?_, ?_, fun k' hk' j' hj' => ?_⟩⟩
    · rw [hc, b01_t, rows_at (by omega), Option.bind_some, rdI_at hl3 hl32, Option.bind_some, Option.bind_some, wrI_at hl3 hl32]; rfl
    · rw [r_isRow_eq (n := n) (by rw [mset_ne (by omega)]; exact h3), Option.bind_some, hc, b01_t, nI_3mul, nI_add, rdI_at h12 (by rw [len90]; decide), Option.bind_some, wrI_at h12 (by rw [len90]; decide), mset_ne (show (90 : Nat) ≠ 51 + k by omega), h4 k hk j hj]; rfl
    · have := ne3 q1 q0
      rw [mset_ne (by omega), mset_ne (by omega)]
    · rw [mset_ne (by omega), mset_ne (by omega)]; exact h2
    · rw [mset_ne (by omega), mset_ne (by omega)]; exact h3
    · rw [mset_ne (show 51 + k' ≠ 90 by omega), mset_same]
      by_cases e : k' = k
      · subst e
        rw [mset_same]
        by_cases e2 : j' = j
        · subst e2; rw [upd_at, upd_at]
        · rw [upd_off e2, upd_off (by omega)]; exact h4 k' hk' j' hj'
      · rw [mset_ne (by omega), upd_off (by omega)]; exact h4 k' hk' j' hj'
  · rw [Bool.eq_false_iff.mpr c]
    refine ⟨-9, m, m, b01_f, ?_, hI⟩
    rw [r_isRow_eq h3, Option.bind_some, Bool.eq_false_iff.mpr c, b01_f]
def actB (b : Nat → Int32) (v : Int32) : Bool := decide (0 ≤ v ∧ v ≤ b 6)
theorem actB_iff {b : Nat → Int32} (hW : WF b) {v : Int32} (h : actB b v = true) : ∃ a, a ≤ manyB b ∧ v = nI a := by
  have := of_decide_eq_true h
  rw [hW.manyN.1] at this
  exact (in_le (by have := hW.manyN.2; omega)).mp this
theorem r_isAct_eq {m : M} {b : Nat → Int32} (hb : m 77 = b) (v : Int32) : r_isAct v m = some (b01 (actB b v)) := by
  unfold r_isAct actB
  rw [rd77_6, hb, Option.bind_some, r_in1_eq, Option.bind_some, and1]
theorem b_isAct_eq {m : M} {b : Nat → Int32} (hK : KB m b) (v : Int32) : b_isAct v m = some (b01 (actB b v)) := by
  unfold b_isAct actB
  rw [hK.f6, k_within_eq, Option.bind_some, and1]
/-- the first row that is not right -/
def jdgF (rs : List Rl) (R : Nat → Nat → Int32) : Nat → Nat → (Nat → Int32) → Int32
  | 0, _, _ => 0
  | d + 1, k, b => if actB b (R k 0) = true ∧ ¬ leftB b = 0 then (if R k 1 = goW rs (R k 0).toNatClampNeg b ∧ R k 2 = nI (heardN (goB rs (R k 0).toNatClampNeg b)) then jdgF rs R d (k + 1) (goB rs (R k 0).toNatClampNeg b) else nI (k + 1)) else nI (k + 1)
theorem jdgF_succ {rs : List Rl} {R : Nat → Nat → Int32} {d k : Nat} {b : Nat → Int32} : jdgF rs R (d + 1) k b = (if actB b (R k 0) = true ∧ ¬ leftB b = 0 then (if R k 1 = goW rs (R k 0).toNatClampNeg b ∧ R k 2 = nI (heardN (goB rs (R k 0).toNatClampNeg b)) then jdgF rs R d (k + 1) (goB rs (R k 0).toNatClampNeg b) else nI (k + 1)) else nI (k + 1)) := rfl
theorem k_judge_run {rs : List Rl} {R : Nat → Nat → Int32} {n : Nat} (hn : n ≤ 4) {a1 : Int64} : ∀ (d k : Nat) {b : Nat → Int32} {m : M}, k + d = n → WF b → KR m rs → KB m b → m 0 6 = nI n → (∀ i, i < n → ∀ j, j < 3 → m (51 + i) j = R i j) → ∃ (m' : M) (b' : Nat → Int32), (∀ F, d + 1 < F → iter (fun z : Int32 × Int32 × M => k_judge_13b a1 z.1 z.2.1 z.2.2) F (0, nI k, m) = some (jdgF rs R d k b, m')) ∧ KB m' b' ∧ NB b b' ∧ NQ m m' := by
  intro d
  induction d with
  | zero =>
    intro k b m hk hW hR hK h6 hr
    refine ⟨m, b, fun F hF => ?_, hK, NB.rfl, NQ.rfl⟩
    obtain ⟨F', rfl⟩ : ∃ F', F = F' + 1 := ⟨F - 1, by omega⟩
    show (k_judge_13b a1 0 (nI k) m).bind _ = _
    unfold k_judge_13b
    rw [h6, show n = k by omega, if_pos (Int32.le_refl _)]; rfl
  | succ d ih =>
    intro k b m hk hW hR hK h6 hr
    have hk4 : k < n := by omega
    have hhead : k_judge_13b a1 0 (nI k) m = Option.bind (k_isRight (nI k) m) (fun z1 => if z1.1 = 0 then lt (nI k + 1) (fun w2 : Int32 => k_judge_40 a1 w2 (nI k) z1.2) else k_judge_40 a1 0 (nI k) z1.2) := by
      unfold k_judge_13b
      rw [h6, if_neg (nI_ge hk4 (by omega)), if_pos rfl]
    have hne : ¬ nI (k + 1) = 0 := nI_ne0 (by omega) (by omega)
    have hstop : ∀ (mm : M) (b' : Nat → Int32), k_isRight (nI k) m = some (0, mm) → KB mm b' → NB b b' → NQ m mm → jdgF rs R (d + 1) k b = nI (k + 1) → ∃ (m' : M) (b' : Nat → Int32), (∀ F, d + 1 + 1 < F → iter (fun z : Int32 × Int32 × M => k_judge_13b a1 z.1 z.2.1 z.2.2) F (0, nI k, m) = some (jdgF rs R (d + 1) k b, m')) ∧ KB m' b' ∧ NB b b' ∧ NQ m m' := fun mm b' e1 e2 e3 e4 e5 => by
      refine ⟨mm, b', fun F hF => ?_, e2, e3, e4⟩
      obtain ⟨F', rfl⟩ : ∃ F', F = F' + 1 + 1 := ⟨F - 2, by omega⟩
      have hb1 : k_judge_13b a1 0 (nI k) m = some (.inl (nI (k + 1), nI (k + 1), mm)) := by
        rw [hhead, e1, Option.bind_some, if_pos rfl, ltE]
        unfold k_judge_40
        rw [ltE, nI_1]
      have hb2 : k_judge_13b a1 (nI (k + 1)) (nI (k + 1)) mm = some (.inr (nI (k + 1), mm)) := by
        unfold k_judge_13b
        rw [if_neg hne, ite_self]
      show (k_judge_13b a1 0 (nI k) m).bind _ = _
      rw [hb1]
      show (k_judge_13b a1 (nI (k + 1)) (nI (k + 1)) mm).bind _ = _
      rw [hb2, e5]
      rfl
    have hlen : len (51 + k) = 3 := len51 (by omega)
    have hread : ∀ mm : M, NQ m mm → ∀ j, j < 3 → rdI mm (51 + k) (nI j) = some (R k j) := fun mm q j hj => by
      rw [rdI_at (by rw [hlen]; exact hj) (by rw [hlen]; decide), q (51 + k) j (by omega) (by omega)]
      rw [hr k hk4 j hj]
    by_cases c : actB b (R k 0) = true ∧ ¬ leftB b = 0
    · obtain ⟨a, ha, ea⟩ := actB_iff hW c.1
      have hl : 0 < leftB b := by omega
      have hclamp : (R k 0).toNatClampNeg = a := by rw [ea, nI_clamp (by have := hW.manyN.2; omega)]
      obtain ⟨m1, f1, f2, f3, f4⟩ := b_goesBy_eq (rs := rs) (a := a) hK hW hR ha
      have hright : k_isRight (nI k) m = some (if R k 1 = goW rs a b ∧ R k 2 = nI (heardN (goB rs a b)) then 1 else 0, m1) := by
        unfold k_isRight
        rw [rows_at (by omega), Option.bind_some, show rdI m (51 + k) (0 : Int32) = some (R k 0) from hread m NQ.rfl 0 (by decide), Option.bind_some, isOverK hK hW, if_neg c.2, Option.bind_some, if_pos rfl, b_isAct_eq hK, c.1, Option.bind_some, b01_t, b_count_eq hK hW, Option.bind_some, ea, f1, Option.bind_some, Option.bind_some, show rdI m1 (51 + k) (1 : Int32) = some (R k 1) from hread m1 f3 1 (by decide), Option.bind_some, Option.bind_some, show rdI m1 (51 + k) (2 : Int32) = some (R k 2) from hread m1 f3 2 (by decide), Option.bind_some]
        simp only [f2.f7]
        by_cases c1 : R k 1 = goW rs a b
        · rw [if_pos c1]
          by_cases c2 : R k 2 = nI (heardN (goB rs a b))
          · rw [if_pos c2, if_pos ⟨c1, c2⟩]
          · rw [if_neg c2, if_neg (fun q => c2 q.2)]
        · rw [if_neg c1, if_neg (fun q => c1 q.1)]
      by_cases c3 : R k 1 = goW rs a b ∧ R k 2 = nI (heardN (goB rs a b))
      · rw [if_pos c3] at hright
        obtain ⟨m', b', i1, i2, i3, i4⟩ := ih (k + 1) (b := goB rs a b) (m := m1) (by omega) (hW.go (over0 hW hl) rs ha) (f3.kr hR) f2 (by rw [f3 0 6 (by omega) (by omega)]; exact h6) (fun i hi j hj => by rw [f3 (51 + i) j (by omega) (by omega)]; exact hr i hi j hj)
        refine ⟨m', b', fun F hF => ?_, i2, (NB_go (by have := hW.manyN.2; omega)).trans i3, f3.trans i4⟩
        obtain ⟨F', rfl⟩ : ∃ F', F = F' + 1 := ⟨F - 1, by omega⟩
        have hb1 : k_judge_13b a1 0 (nI k) m = some (.inl (0, nI (k + 1), m1)) := by
          rw [hhead, hright, Option.bind_some, if_neg (show ¬ ((1 : Int32), m1).1 = 0 from (show ¬ (1 : Int32) = 0 by decide))]
          unfold k_judge_40
          rw [ltE, nI_1]
        show (k_judge_13b a1 0 (nI k) m).bind _ = _
        rw [hb1, jdgF_succ, if_pos c, hclamp, if_pos c3]
        exact i1 F' (by omega)
      · rw [if_neg c3] at hright
        exact hstop m1 _ hright f2 (NB_go (by have := hW.manyN.2; omega)) f3 (by rw [jdgF_succ, if_pos c, hclamp, if_neg c3])
    · refine hstop m b ?_ hK NB.rfl NQ.rfl (by rw [jdgF_succ, if_neg c])
      unfold k_isRight
      rw [rows_at (by omega), Option.bind_some, show rdI m (51 + k) (0 : Int32) = some (R k 0) from hread m NQ.rfl 0 (by decide), Option.bind_some, isOverK hK hW, Option.bind_some]
      by_cases c1 : leftB b = 0
      · rw [if_pos c1, if_neg (by decide)]
      · rw [if_neg c1, if_pos rfl, b_isAct_eq hK, Option.bind_some, Bool.eq_false_iff.mpr (fun q => c ⟨q, c1⟩), b01_f]
theorem r_judge_run {rs : List Rl} {R : Nat → Nat → Int32} {n : Nat} (hn : n ≤ 4) : ∀ (d k : Nat) {b : Nat → Int32} {m : M}, k + d = n → WF b → RR b rs → m 77 = b → m 76 28 = nI n → (∀ i, i < n → ∀ j, j < 3 → m 90 (3 * i + j) = R i j) → ∃ m', (∀ F, d + 1 < F → iter (fun z : Int32 × Int32 × M => r_judge_8b z.1 z.2.1 z.2.2) F (0, nI k, m) = some (jdgF rs R d k b, m')) ∧ NB b (m' 77) ∧ E76 m m' := by
  intro d
  induction d with
  | zero =>
    intro k b m hk hW hR hb h28 hr
    refine ⟨m, fun F hF => ?_, by rw [hb]; exact NB.rfl, E76.rfl⟩
    obtain ⟨F', rfl⟩ : ∃ F', F = F' + 1 := ⟨F - 1, by omega⟩
    show (r_judge_8b 0 (nI k) m).bind _ = _
    unfold r_judge_8b
    rw [h28, show n = k by omega, if_pos (Int32.le_refl _)]; rfl
  | succ d ih =>
    intro k b m hk hW hR hb h28 hr
    have hk4 : k < n := by omega
    have hne : ¬ nI (k + 1) = 0 := nI_ne0 (by omega) (by omega)
    have hread : ∀ mm : M, E76 m mm → ∀ j, j < 3 → rdI mm 90 (nI (3 * k + j)) = some (R k j) := fun mm q j hj => by
      rw [rdI_at (show 3 * k + j < len 90 by rw [len90]; omega) (by rw [len90]; decide), q 90 _ (by decide) (by decide) (by omega), hr k hk4 j hj]
    have h1k : (1 : Int32) + nI k = nI (k + 1) := by rw [Int32.add_comm, nI_1]
    have hbad : ∀ mm : M, r_judge_111 (nI k) mm = some (.inl (nI (k + 1), nI (k + 1), mm)) := fun mm => by
      unfold r_judge_111 r_judge_112 r_judge_126
      rw [if_pos rfl, ltE, nI_1, h1k]
    have hstop : ∀ (mm : M), r_judge_8b 0 (nI k) m = some (.inl (nI (k + 1), nI (k + 1), mm)) → mm 76 28 = nI n → NB b (mm 77) → E76 m mm → jdgF rs R (d + 1) k b = nI (k + 1) → ∃ m', (∀ F, d + 1 + 1 < F → iter (fun z : Int32 × Int32 × M => r_judge_8b z.1 z.2.1 z.2.2) F (0, nI k, m) = some (jdgF rs R (d + 1) k b, m')) ∧ NB b (m' 77) ∧ E76 m m' := fun mm e1 e28 e2 e3 e4 => by
      refine ⟨mm, fun F hF => ?_, e2, e3⟩
      obtain ⟨F', rfl⟩ : ∃ F', F = F' + 1 + 1 := ⟨F - 2, by omega⟩
      have hb2 : r_judge_8b (nI (k + 1)) (nI (k + 1)) mm = some (.inr (nI (k + 1), mm)) := by
        unfold r_judge_8b
        rw [if_neg hne, ite_self]
      show (r_judge_8b 0 (nI k) m).bind _ = _
      rw [e1]
      show (r_judge_8b (nI (k + 1)) (nI (k + 1)) mm).bind _ = _
      rw [hb2, e4]
      rfl
    have h3k : (3 : Int32) * nI k = nI (3 * k + 0) := nI_3mul
    have h46 : r_judge_46 (nI k) m = some (.inl (nI (k + 1), nI (k + 1), m)) := by
      unfold r_judge_46 r_judge_47 r_judge_68
      rw [if_pos rfl, if_pos rfl, hbad]
    by_cases c : actB b (R k 0) = true ∧ ¬ leftB b = 0
    · obtain ⟨a, ha, ea⟩ := actB_iff hW c.1
      have hl : 0 < leftB b := by omega
      have hclamp : (R k 0).toNatClampNeg = a := by rw [ea, nI_clamp (by have := hW.manyN.2; omega)]
      obtain ⟨m1, f1, f2, f3, f4⟩ := r_goesBy_of (rs := rs) (a := a) hb hW hR ha
      have hn1 := NB_go (rs := rs) (b := b) (a := a) (by have := hW.manyN.2; omega)
      have hWa := hW.go (over0 hW hl) rs ha
      have hbody : r_judge_8b 0 (nI k) m = (if R k 1 = goW rs a b ∧ R k 2 = nI (heardN (goB rs a b)) then some (.inl (0, nI (k + 1), m1)) else some (.inl (nI (k + 1), nI (k + 1), m1))) := by
        unfold r_judge_8b
        rw [h28, if_neg (nI_ge hk4 (by omega)), if_pos rfl, h3k, hread m E76.rfl 0 (by decide), Option.bind_some, r_isAct_eq hb, c.1, Option.bind_some, b01_t, isOverR hb hW, if_neg c.2, Option.bind_some, if_pos rfl]
        unfold r_judge_47
        rw [if_neg (by decide), h3k, hread m E76.rfl 0 (by decide), Option.bind_some, ea, f1, Option.bind_some]
        unfold r_judge_68
        rw [if_neg (by decide), h3k, show nI (3 * k + 0) + (1 : Int32) = nI (3 * k + 1) from nI_1 _, show nI (3 * k + 0) + (2 : Int32) = nI (3 * k + 2) from nI_add _ 2]
        show Option.bind (rdI m1 90 (nI (3 * k + 1))) _ = _
        rw [hread m1 f3 1 (by decide), Option.bind_some, hbad]
        show (if goW rs a b = R k 1 then Option.bind (r_those 4 m1) (fun v2 => Option.bind (rdI m1 90 (nI (3 * k + 2))) (fun v3 => if v2 = v3 then r_judge_112 (nI k) 1 m1 else some (.inl (nI (k + 1), nI (k + 1), m1)))) else some (.inl (nI (k + 1), nI (k + 1), m1))) = _
        rw [r_those_eq hWa f2, Option.bind_some, hread m1 f3 2 (by decide), Option.bind_some]
        by_cases c1 : R k 1 = goW rs a b
        · rw [if_pos c1.symm]
          by_cases c2 : R k 2 = nI (heardN (goB rs a b))
          · rw [if_pos c2.symm, if_pos ⟨c1, c2⟩]
            unfold r_judge_112 r_judge_126
            rw [if_neg (by decide), ltE, nI_1]
          · rw [if_neg (fun q => c2 q.symm), if_neg (fun q => c2 q.2)]
        · rw [if_neg (fun q => c1 q.symm), if_neg (fun q => c1 q.1)]
      by_cases c3 : R k 1 = goW rs a b ∧ R k 2 = nI (heardN (goB rs a b))
      · rw [if_pos c3] at hbody
        obtain ⟨m', i1, i3, i4⟩ := ih (k + 1) (b := goB rs a b) (m := m1) (by omega) hWa (hn1.rr hR) f2 (by rw [f3 76 28 (by decide) (by decide) (by omega)]; exact h28) (fun i hi j hj => by rw [f3 90 _ (by decide) (by decide) (by omega)]; exact hr i hi j hj)
        refine ⟨m', fun F hF => ?_, hn1.trans i3, f3.trans i4⟩
        obtain ⟨F', rfl⟩ : ∃ F', F = F' + 1 := ⟨F - 1, by omega⟩
        show (r_judge_8b 0 (nI k) m).bind _ = _
        rw [hbody, jdgF_succ, if_pos c, hclamp, if_pos c3]
        exact i1 F' (by omega)
      · rw [if_neg c3] at hbody
        exact hstop m1 hbody (by rw [f3 76 28 (by decide) (by decide) (by omega)]; exact h28) (by rw [f2]; exact hn1) f3 (by rw [jdgF_succ, if_pos c, hclamp, if_neg c3])
    · refine hstop m ?_ h28 (by rw [hb]; exact NB.rfl) E76.rfl (by rw [jdgF_succ, if_neg c])
      unfold r_judge_8b
      rw [h28, if_neg (nI_ge hk4 (by omega)), if_pos rfl, h3k, hread m E76.rfl 0 (by decide), Option.bind_some, r_isAct_eq hb, Option.bind_some, h46, isOverR hb hW, Option.bind_some]
      by_cases c1 : actB b (R k 0) = true
      · rw [c1, b01_t, if_pos (show leftB b = 0 from Classical.byContradiction fun q => c ⟨c1, q⟩), if_neg (by decide)]
      · rw [Bool.eq_false_iff.mpr c1, b01_f]
theorem ok_judge {m : M} (hI : INV m) : OK_judge INV m := by
  obtain ⟨rs, h1, h2, h3, h4, h5, h6, h7⟩ := hI.1
  obtain ⟨n, hn, n1, n2, n3⟩ := hI.2.2.1
  obtain ⟨m2, b2, g1, g2, g3, g4⟩ := k_judge_run (rs := rs) (R := fun k j => m (51 + k) j) hn (a1 := lN (momN (m 77))) n 0 (by omega) h1 h5 h2 n1 (fun _ _ _ _ => rfl)
  obtain ⟨m3, t1, t2, t3, t4, t5⟩ := trial h1 h2 g2 g3 g4
  have hb3 : m3 77 = m 77 := t4.row 77 sc_77
  have h28 : m3 76 28 = nI n := by rw [t4 76 28 (by decide)]; exact n2
  have hb4 : (mset m3 79 (cpT 67 (m3 77) (m3 79))) 77 = m 77 := by rw [mset_ne (by decide)]; exact hb3
  obtain ⟨m4, f1, f2, f3⟩ := r_judge_run (rs := rs) (R := fun k j => m (51 + k) j) hn n 0 (m := mset m3 79 (cpT 67 (m3 77) (m3 79))) (by omega) h1 h4 hb4 (by rw [mset_ne (by decide)]; exact h28) (fun i hi j hj => by
    rw [mset_ne (by decide), t4 90 _ (scp (by omega))]
    exact (n3 i hi j hj).symm)
  obtain ⟨m5, s1, s2, s3, s4⟩ := lay_round hb3 f3 f2.hi
  refine ⟨jdgF rs (fun k j => m (51 + k) j) n 0 (m 77), m3, m5, ?_, ?_, hI.sq (t4.trans s2)⟩
  · unfold k_judge k_judge_13 k_judge_46
    rw [b_moment_eq h2 h1, Option.bind_some]
    have := g1 FU (by show n + 1 < 4000; omega)
    rw [nI_0] at this
    rw [this, Option.bind_some, t1]
    rfl
  · unfold r_judge r_judge_8 r_judge_133
    rw [r_layDown_eq, Option.bind_some]
    have := f1 FU (by show n + 1 < 4000; omega)
    rw [nI_0] at this
    rw [this, Option.bind_some, s1]
    rfl
