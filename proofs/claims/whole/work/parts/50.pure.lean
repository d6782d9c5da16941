/-! pure: loops, reads, writes, what is scratch -/
theorem iter_from {S R : Type} {body : S → Option (S ⊕ R)} (σ : Nat → S) {r : R} {n : Nat} (hstep : ∀ i, i < n → body (σ i) = some (.inl (σ (i + 1)))) (hend : body (σ n) = some (.inr r)) : ∀ (d i F : Nat), i + d = n → d < F → iter body F (σ i) = some r := by
  intro d
  induction d with
  | zero =>
    intro i F hi hF
    obtain ⟨F', rfl⟩ : ∃ F', F = F' + 1 := ⟨F - 1, by omega⟩
    have : i = n := by omega
    subst this
    show (body (σ i)).bind _ = _
    rw [hend]
    rfl
  | succ d ih =>
    intro i F hi hF
    obtain ⟨F', rfl⟩ : ∃ F', F = F' + 1 := ⟨F - 1, by omega⟩
    show (body (σ i)).bind _ = _
    rw [hstep i (by omega)]
    exact ih (i + 1) F' (by omega) (by omega)
/-- a loop, by the row of its states -/
theorem iter_seq {S R : Type} {body : S → Option (S ⊕ R)} (σ : Nat → S) {r : R} (n : Nat) (hstep : ∀ i, i < n → body (σ i) = some (.inl (σ (i + 1)))) (hend : body (σ n) = some (.inr r)) (hn : n < 4000) : iter body FU (σ 0) = some r :=
  iter_from σ hstep hend n 0 FU (by omega) hn
def foldN {α : Type} (g : Nat → α → α) : Nat → α → α
  | 0, a => a
  | n + 1, a => g n (foldN g n a)
/-- a small number -/
def bd (x : Int32) (n : Nat) : Prop := ∃ j : Nat, j ≤ n ∧ x = nI j
theorem bd.mono {x : Int32} {a b : Nat} (h : bd x a) (hab : a ≤ b) : bd x b := by
  obtain ⟨j, h1, h2⟩ := h
  exact ⟨j, by omega, h2⟩
theorem bd_nI {j n : Nat} (h : j ≤ n) : bd (nI j) n := ⟨j, h, rfl⟩
theorem rdI_at {m : M} {p j : Nat} (h : j < len p) (hl : len p < 2 ^ 31) : rdI m p (nI j) = some (m p j) := by
  unfold rdI
  rw [if_neg (nI_in h hl), nI_clamp (by omega)]
theorem rdI_out {m : M} {p : Nat} {i : Int32} (h : i < 0 ∨ len p ≤ i.toNatClampNeg) : rdI m p i = none := if_pos h
theorem wrI_at {m : M} {p j : Nat} {v : Int32} (h : j < len p) (hl : len p < 2 ^ 31) : wrI m p (nI j) v = some (mset m p (upd (m p) j v)) := by
  unfold wrI
  rw [if_neg (nI_in h hl), nI_clamp (by omega)]
theorem mset_same {m : M} {p : Nat} {f : Nat → Int32} : mset m p f p = f := if_pos rfl
theorem mset_ne {m : M} {p q : Nat} {f : Nat → Int32} (h : q ≠ p) : mset m p f q = m q := if_neg h
theorem mset_mset {m : M} {p : Nat} {f g : Nat → Int32} : mset (mset m p f) p g = mset m p g := by
  funext q
  by_cases h : q = p <;> simp [mset, h]
theorem mset_self {m : M} {p : Nat} : mset m p (m p) = m := by
  funext q
  by_cases h : q = p
  · subst h; simp [mset]
  · simp [mset, h]
theorem upd_at {f : Nat → Int32} {k : Nat} {x : Int32} : upd f k x k = x := by simp [upd]
theorem upd_off {f : Nat → Int32} {k j : Nat} {x : Int32} (h : j ≠ k) : upd f k x j = f j := by simp [upd, h]
theorem upd_self {f : Nat → Int32} {k : Nat} : upd f k (f k) = f := by
  funext j
  by_cases h : j = k
  · subst h; simp [upd]
  · simp [upd, h]
/-- what nobody reads across calls -/
def sc (p k : Nat) : Bool := [79, 80, 83, 84, 85, 86, 87, 88, 89, 8, 42, 43, 44, 45, 47, 48].contains p || (p == 76 && [8, 9, 10, 11, 12, 13, 16, 20, 21, 22, 23, 26, 36, 37].contains k) || (p == 1 && k == 8) || (p == 7 && k == 4) || (p == 9 && [0, 1, 2].contains k)
/-- the same, but for scratch -/
def SQ (m m' : M) : Prop := ∀ p k, sc p k = false → m' p k = m p k
theorem SQ.rfl {m : M} : SQ m m := fun _ _ _ => Eq.refl _
theorem SQ.trans {m m1 m2 : M} (h1 : SQ m m1) (h2 : SQ m1 m2) : SQ m m2 := fun p k h => (h2 p k h).trans (h1 p k h)
theorem SQ.symm {m m1 : M} (h : SQ m m1) : SQ m1 m := fun p k hk => (h p k hk).symm
/-- a place without scratch is the same -/
theorem SQ.row {m m' : M} (h : SQ m m') (p : Nat) (hp : ∀ k, sc p k = false) : m' p = m p := funext fun k => h p k (hp k)
theorem sc_77 : ∀ k, sc 77 k = false := fun k => by simp [sc]
theorem SQ.r77 {m m' : M} {b : Nat → Int32} (h : SQ (mset m 77 b) m') : m' 77 = b := (h.row 77 sc_77).trans mset_same
/-- writing scratch -/
theorem SQ_mset {m : M} {p : Nat} {f : Nat → Int32} (h : ∀ k, f k ≠ m p k → sc p k = true) : SQ m (mset m p f) := by
  intro q k hk
  by_cases hq : q = p
  · subst hq
    rw [mset_same]
    by_cases hf : f k = m q k
    · exact hf
    · rw [h k hf] at hk; cases hk
  · rw [mset_ne hq]
theorem SQ_wrF {m : M} {p k : Nat} {v : Int32} (h : sc p k = true) : SQ m (wrF m p k v) := by
  refine SQ_mset fun j hj => ?_
  by_cases hjk : j = k
  · subst hjk; exact h
  · exact absurd (upd_off hjk) hj
theorem SQ.cong {m m' : M} {p : Nat} {f : Nat → Int32} (h : SQ m m') : SQ (mset m p f) (mset m' p f) := by
  intro q k hk
  by_cases hq : q = p
  · subst hq; rw [mset_same, mset_same]
  · rw [mset_ne hq, mset_ne hq]; exact h q k hk
/-- the reference's state written twice -/
theorem SQ.seq {m m1 m2 : M} {f g : Nat → Int32} {p : Nat} (h1 : SQ (mset m p f) m1) (h2 : SQ (mset m1 p g) m2) : SQ (mset m p g) m2 := by
  have h3 := (h1.cong (p := p) (f := g))
  rw [mset_mset] at h3
  exact h3.trans h2
-- numbers
theorem n0 : (0 : Int32) = nI 0 := by decide
theorem n1 : (1 : Int32) = nI 1 := by decide
theorem n2 : (2 : Int32) = nI 2 := by decide
theorem n3 : (3 : Int32) = nI 3 := by decide
theorem n4 : (4 : Int32) = nI 4 := by decide
theorem n5 : (5 : Int32) = nI 5 := by decide
theorem n6 : (6 : Int32) = nI 6 := by decide
theorem n9 : (9 : Int32) = nI 9 := by decide
theorem n16 : (16 : Int32) = nI 16 := by decide
theorem n25 : (25 : Int32) = nI 25 := by decide
theorem n31 : (31 : Int32) = nI 31 := by decide
theorem n37 : (37 : Int32) = nI 37 := by decide
theorem len77 : len 77 = 315 := by decide
/-- a member's entry -/
theorem r_get_at {m : M} {k f : Nat} (hk : k < 6) (hf : f < 5) : r_get (nI k) (nI f) m = some (m 77 (37 + 5 * k + f)) := by
  unfold r_get
  rw [n37, n5, pk_mul, nI_add, nI_add, rdI_at (by rw [len77]; omega) (by rw [len77]; decide)]
  rfl
theorem r_puts_at {m : M} {k f : Nat} {v : Int32} (hk : k < 6) (hf : f < 5) : r_puts (nI k) (nI f) v m = some (mset m 77 (upd (m 77) (37 + 5 * k + f) v)) := by
  unfold r_puts
  rw [n37, n5, pk_mul, nI_add, nI_add, wrI_at (by rw [len77]; omega) (by rw [len77]; decide)]
  rfl
theorem rd77 {m : M} {j : Nat} (h : j < 315) : rdI m 77 (nI j) = some (m 77 j) := rdI_at (by rw [len77]; exact h) (by rw [len77]; decide)
theorem wr77 {m : M} {j : Nat} {v : Int32} (h : j < 315) : wrI m 77 (nI j) v = some (mset m 77 (upd (m 77) j v)) := wrI_at (by rw [len77]; exact h) (by rw [len77]; decide)
theorem r_in1_eq {v a b : Int32} {m : M} : r_in1 v a b m = some (if a ≤ v ∧ v ≤ b then 1 else 0) := by
  unfold r_in1
  by_cases h1 : v < a
  · rw [if_pos h1, if_neg (fun h => absurd h1 (Int32.not_lt.mpr h.1))]
  · rw [if_neg h1]
    by_cases h2 : b < v
    · rw [if_pos h2, if_neg (fun h => absurd h2 (Int32.not_lt.mpr h.2))]
    · rw [if_neg h2, if_pos ⟨Int32.not_lt.mp h1, Int32.not_lt.mp h2⟩]
theorem k_within_eq {v a b : Int32} {m : M} : k_within v a b m = some (if a ≤ v ∧ v ≤ b then 1 else 0) := by
  unfold k_within
  by_cases h1 : v < a
  · rw [if_pos h1, if_neg (fun h => absurd h1 (Int32.not_lt.mpr h.1))]
  · rw [if_neg h1]
    by_cases h2 : b < v
    · rw [if_pos h2, if_neg (fun h => absurd h2 (Int32.not_lt.mpr h.2))]
    · rw [if_neg h2, if_pos ⟨Int32.not_lt.mp h1, Int32.not_lt.mp h2⟩]
/-- within 0 .. n - 1 of a small n: a number below n -/
theorem in_nat {v : Int32} {n : Nat} (hn : n < 2 ^ 30) : ((0 : Int32) ≤ v ∧ v ≤ nI n - 1) ↔ ∃ j : Nat, j < n ∧ v = nI j := by
  constructor
  · rintro ⟨h1, h2⟩
    obtain ⟨j, hj, rfl⟩ := nI_of (x := v) (Int32.not_lt.mpr h1)
    refine ⟨j, ?_, rfl⟩
    rw [Int32.le_iff_toInt_le, n1, pk_sub_toInt hn (by decide), nI_toInt hj] at h2
    omega
  · rintro ⟨j, hj, rfl⟩
    refine ⟨nI_pos' (by omega), ?_⟩
    rw [Int32.le_iff_toInt_le, n1, pk_sub_toInt hn (by decide), nI_toInt (by omega)]
    omega
theorem in_le {v : Int32} {n : Nat} (hn : n < 2 ^ 31) : ((0 : Int32) ≤ v ∧ v ≤ nI n) ↔ ∃ j : Nat, j ≤ n ∧ v = nI j := by
  constructor
  · rintro ⟨h1, h2⟩
    obtain ⟨j, hj, rfl⟩ := nI_of (x := v) (Int32.not_lt.mpr h1)
    exact ⟨j, (nI_leI hj hn).mp h2, rfl⟩
  · rintro ⟨j, hj, rfl⟩
    exact ⟨nI_pos' (by omega), (nI_leI (by omega) hn).mpr hj⟩
