/-! what holds between calls -/
/-- which part of the world a cell belongs to: 0 nobody's, 1 the board now, 2 the board kept, 3 rows, 4 sheets, 5 shelves, 6 tape, 7 deed, 8 letters -/
def cl (p k : Nat) : Nat :=
  if sc p k then 0
  else if p = 1 ∨ p = 3 ∨ p = 4 ∨ (10 ≤ p ∧ p ≤ 16) ∨ (26 ≤ p ∧ p ≤ 33) ∨ p = 77 then 1
  else if (p = 0 ∧ k = 2) ∨ p = 2 ∨ p = 5 ∨ p = 6 ∨ (18 ≤ p ∧ p ≤ 24) ∨ (34 ≤ p ∧ p ≤ 41) ∨ p = 78 ∨ (p = 76 ∧ k = 3) then 2
  else if (p = 0 ∧ k = 6) ∨ (51 ≤ p ∧ p ≤ 54) ∨ p = 90 ∨ (p = 76 ∧ k = 28) then 3
  else if (56 ≤ p ∧ p ≤ 61) ∨ (91 ≤ p ∧ p ≤ 93) then 4
  else if p = 62 ∨ p = 63 ∨ p = 94 ∨ p = 95 then 5
  else if (p = 7 ∧ k = 0) ∨ p = 46 ∨ p = 81 ∨ (p = 76 ∧ k = 6) then 6
  else if (p = 9 ∧ k = 4) ∨ p = 49 ∨ p = 96 ∨ (p = 76 ∧ k = 35) then 7
  else if p = 82 then 8 else 9
theorem cl_sc {p k : Nat} (h : cl p k ≠ 0) : sc p k = false := by
  apply Bool.eq_false_iff.mpr
  intro q
  exact h (if_pos q)
theorem sc_of {p k : Nat} (h : sc p k = false) : (p ≠ 79 ∧ p ≠ 80 ∧ p ≠ 83 ∧ p ≠ 84 ∧ p ≠ 85 ∧ p ≠ 86 ∧ p ≠ 87 ∧ p ≠ 88 ∧ p ≠ 89 ∧ p ≠ 8 ∧ p ≠ 42 ∧ p ≠ 43 ∧ p ≠ 44 ∧ p ≠ 45 ∧ p ≠ 47 ∧ p ≠ 48) ∧ ¬ (p = 76 ∧ (k = 8 ∨ k = 9 ∨ k = 10 ∨ k = 11 ∨ k = 12 ∨ k = 13 ∨ k = 16 ∨ k = 20 ∨ k = 21 ∨ k = 22 ∨ k = 23 ∨ k = 26 ∨ k = 36 ∨ k = 37)) ∧ ¬ (p = 1 ∧ k = 8) ∧ ¬ (p = 7 ∧ k = 4) ∧ ¬ (p = 9 ∧ (k = 0 ∨ k = 1 ∨ k = 2)) := by
  refine ⟨⟨?_, ?_, ?_, ?_, ?_, ?_, ?_, ?_, ?_, ?_, ?_, ?_, ?_, ?_, ?_, ?_⟩, ?_, ?_, ?_, ?_⟩
  all_goals intro q
  all_goals first
    | (subst q; simp [sc] at h)
    | (obtain ⟨q1, q2⟩ := q; subst q1; first | (subst q2; revert h; decide) | (rcases q2 with q2 | q2 | q2 | q2 | q2 | q2 | q2 | q2 | q2 | q2 | q2 | q2 | q2 | q2 <;> subst q2 <;> revert h <;> decide) | (rcases q2 with q2 | q2 | q2 <;> subst q2 <;> revert h <;> decide))
theorem cl_1 {p k : Nat} (h : sc p k = false) (hp : p = 1 ∨ p = 3 ∨ p = 4 ∨ (10 ≤ p ∧ p ≤ 16) ∨ (26 ≤ p ∧ p ≤ 33) ∨ p = 77) : cl p k = 1 := by
  unfold cl
  rw [h, if_neg (by decide), if_pos hp]
theorem cl_2 {p k : Nat} (h : sc p k = false) (hp : (p = 0 ∧ k = 2) ∨ p = 2 ∨ p = 5 ∨ p = 6 ∨ (18 ≤ p ∧ p ≤ 24) ∨ (34 ≤ p ∧ p ≤ 41) ∨ p = 78 ∨ (p = 76 ∧ k = 3)) : cl p k = 2 := by
  unfold cl
  rw [h, if_neg (by decide), if_neg (by omega), if_pos hp]
theorem cl_3 {p k : Nat} (h : sc p k = false) (hp : (p = 0 ∧ k = 6) ∨ (51 ≤ p ∧ p ≤ 54) ∨ p = 90 ∨ (p = 76 ∧ k = 28)) : cl p k = 3 := by
  unfold cl
  rw [h, if_neg (by decide), if_neg (by omega), if_neg (by omega), if_pos hp]
theorem cl_4 {p k : Nat} (h : sc p k = false) (hp : (56 ≤ p ∧ p ≤ 61) ∨ (91 ≤ p ∧ p ≤ 93)) : cl p k = 4 := by
  unfold cl
  rw [h, if_neg (by decide), if_neg (by omega), if_neg (by omega), if_neg (by omega), if_pos hp]
theorem cl_5 {p k : Nat} (h : sc p k = false) (hp : p = 62 ∨ p = 63 ∨ p = 94 ∨ p = 95) : cl p k = 5 := by
  unfold cl
  rw [h, if_neg (by decide), if_neg (by omega), if_neg (by omega), if_neg (by omega), if_neg (by omega), if_pos hp]
theorem cl_6 {p k : Nat} (h : sc p k = false) (hp : (p = 7 ∧ k = 0) ∨ p = 46 ∨ p = 81 ∨ (p = 76 ∧ k = 6)) : cl p k = 6 := by
  unfold cl
  rw [h, if_neg (by decide), if_neg (by omega), if_neg (by omega), if_neg (by omega), if_neg (by omega), if_neg (by omega), if_pos hp]
theorem cl_7 {p k : Nat} (h : sc p k = false) (hp : (p = 9 ∧ k = 4) ∨ p = 49 ∨ p = 96 ∨ (p = 76 ∧ k = 35)) : cl p k = 7 := by
  unfold cl
  rw [h, if_neg (by decide), if_neg (by omega), if_neg (by omega), if_neg (by omega), if_neg (by omega), if_neg (by omega), if_neg (by omega), if_pos hp]
theorem cl_8 {k : Nat} : cl 82 k = 8 := by
  have h : sc 82 k = false := by simp [sc]
  unfold cl
  rw [h, if_neg (by decide), if_neg (by decide), if_neg (by omega), if_neg (by omega), if_neg (by omega), if_neg (by omega), if_neg (by omega), if_neg (by omega), if_pos rfl]
/-- a place of which no cell is nobody's -/
theorem sc_no {p k : Nat} (h : (p ≠ 79 ∧ p ≠ 80 ∧ p ≠ 83 ∧ p ≠ 84 ∧ p ≠ 85 ∧ p ≠ 86 ∧ p ≠ 87 ∧ p ≠ 88 ∧ p ≠ 89 ∧ p ≠ 8 ∧ p ≠ 42 ∧ p ≠ 43 ∧ p ≠ 44 ∧ p ≠ 45 ∧ p ≠ 47 ∧ p ≠ 48)) (h2 : ¬ (p = 76 ∧ (k = 8 ∨ k = 9 ∨ k = 10 ∨ k = 11 ∨ k = 12 ∨ k = 13 ∨ k = 16 ∨ k = 20 ∨ k = 21 ∨ k = 22 ∨ k = 23 ∨ k = 26 ∨ k = 36 ∨ k = 37))) (h3 : ¬ (p = 1 ∧ k = 8)) (h4 : ¬ (p = 7 ∧ k = 4)) (h5 : ¬ (p = 9 ∧ (k = 0 ∨ k = 1 ∨ k = 2))) : sc p k = false := by
  obtain ⟨a1, a2, a3, a4, a5, a6, a7, a8, a9, a10, a11, a12, a13, a14, a15, a16⟩ := h
  unfold sc
  simp only [List.contains_cons, List.contains_nil, Bool.or_eq_false_iff, Bool.and_eq_false_iff, beq_eq_false_iff_ne]
  refine ⟨⟨⟨⟨?_, ?_⟩, ?_⟩, ?_⟩, ?_⟩
  · exact ⟨a1, a2, a3, a4, a5, a6, a7, a8, a9, a10, a11, a12, a13, a14, a15, a16, trivial⟩
  · by_cases e : p = 76
    · right
      refine ⟨?_, ?_, ?_, ?_, ?_, ?_, ?_, ?_, ?_, ?_, ?_, ?_, ?_, ?_, trivial⟩
      all_goals (intro q; exact h2 ⟨e, by omega⟩)
    · exact Or.inl e
  · by_cases e : p = 1
    · exact Or.inr (fun q => h3 ⟨e, q⟩)
    · exact Or.inl e
  · by_cases e : p = 7
    · exact Or.inr (fun q => h4 ⟨e, q⟩)
    · exact Or.inl e
  · by_cases e : p = 9
    · right
      refine ⟨?_, ?_, ?_, trivial⟩
      all_goals (intro q; exact h5 ⟨e, by omega⟩)
    · exact Or.inl e
/-- nothing but one part and nobody's cells has changed -/
def Ch (c : Nat) (m m' : M) : Prop := ∀ p k, cl p k ≠ c → cl p k ≠ 0 → m' p k = m p k
theorem Ch.rfl {c : Nat} {m : M} : Ch c m m := fun _ _ _ _ => Eq.refl _
theorem Ch.trans {c : Nat} {m m1 m2 : M} (h1 : Ch c m m1) (h2 : Ch c m1 m2) : Ch c m m2 := fun p k a b => (h2 p k a b).trans (h1 p k a b)
theorem SQ.Ch {c : Nat} {m m' : M} (h : SQ m m') : Ch c m m' := fun p k _ h0 => h p k (cl_sc h0)
/-- a part is as it was -/
def Sm1 (c : Nat) (m m' : M) : Prop := ∀ p k, cl p k = c → m' p k = m p k
theorem Ch.same {c d : Nat} {m m' : M} (h : Ch c m m') (hd : d ≠ c) (h0 : d ≠ 0) : Sm1 d m m' := fun p k q => h p k (by rw [q]; exact hd) (by rw [q]; exact h0)
def NOW (m : M) : Prop := ∃ rs, WF (m 77) ∧ KB m (m 77) ∧ m 1 4 = m 77 2 ∧ RR (m 77) rs ∧ KR m rs ∧ WR (m 77) ∧ KP m (m 77)
/-- the kept board in the place of the board now -/
def mv (m : M) : M := fun p => if p = 1 then m 2 else if p = 3 then m 5 else if p = 4 then m 6 else if 10 ≤ p ∧ p ≤ 16 then m (p + 8) else if 26 ≤ p ∧ p ≤ 33 then m (p + 8) else if p = 77 then m 78 else m p
def KEPT (m : M) : Prop := (m 0 2 = 0 ∧ m 76 3 = 0) ∨ (m 0 2 = 1 ∧ m 76 3 = 1 ∧ NOW (mv m))
def ROWS (m : M) : Prop := ∃ n, n ≤ 4 ∧ m 0 6 = nI n ∧ m 76 28 = nI n ∧ ∀ k, k < n → ∀ j, j < 3 → m (51 + k) j = m 90 (3 * k + j)
def SHEETS (m : M) : Prop := ∀ i, i < 4 → (m 60 i = -1 ∧ m 91 i = -1) ∨ (∃ t n, t ≤ 4 ∧ n ≤ 40 ∧ m 60 i = nI t ∧ m 91 i = nI t ∧ m 61 i = nI n ∧ m 92 i = nI n ∧ ∀ j, j < n → m (56 + i) j = m 93 (40 * i + j))
def SHELVES (m : M) : Prop := ∀ i, i < 4 → (m 62 i = -1 ∧ m 94 i = -1) ∨ (∃ k, k < 6 ∧ m 62 i = 5 ∧ m 94 i = 0 ∧ m 63 i = nI k ∧ m 95 i = nI k) ∨ (∃ t, t ≤ 4 ∧ m 62 i = nI t ∧ m 94 i = nI (10 + t) ∧ m 63 i = m 95 i)
def TAPE (m : M) : Prop := ∃ n, n ≤ 200 ∧ m 7 0 = nI n ∧ m 76 6 = nI n ∧ ∀ j, j < n → ∃ c, c < 256 ∧ m 46 j = nI c ∧ m 81 j = nI c
def DEED (m : M) : Prop := ∃ n, n ≤ 30 ∧ m 9 4 = nI n ∧ m 76 35 = nI n ∧ ∀ j, j < n → m 49 j = m 96 j
def LET (m : M) : Prop := m 82 = cmr171 82
theorem sc1 {k : Nat} (h : k ≠ 8) : sc 1 k = false := sc_no (by decide) (by omega) (by omega) (by omega) (by omega)
theorem scp {p k : Nat} (h : (p = 3 ∨ p = 4 ∨ (10 ≤ p ∧ p ≤ 16) ∨ (18 ≤ p ∧ p ≤ 24) ∨ (26 ≤ p ∧ p ≤ 41) ∨ p = 77 ∨ p = 78 ∨ p = 2 ∨ p = 5 ∨ p = 6 ∨ p = 46 ∨ p = 49 ∨ (51 ≤ p ∧ p ≤ 54) ∨ (56 ≤ p ∧ p ≤ 63) ∨ p = 81 ∨ (90 ≤ p ∧ p ≤ 96))) : sc p k = false := sc_no (by omega) (by omega) (by omega) (by omega) (by omega)
theorem NOW.cong {m m' : M} (h : NOW m) (hs : Sm1 1 m m') : NOW m' := by
  have e : ∀ p, p = 3 ∨ p = 4 ∨ (10 ≤ p ∧ p ≤ 16) ∨ (26 ≤ p ∧ p ≤ 33) ∨ p = 77 → m' p = m p := fun p hp => funext fun k => hs p k (cl_1 (scp (by omega)) (by omega))
  have e1 : ∀ k, k ≠ 8 → m' 1 k = m 1 k := fun k hk => hs 1 k (cl_1 (sc1 hk) (by omega))
  obtain ⟨rs, h1, h2, h3, h4, h5, h6, h7⟩ := h
  have e77 := e 77 (by omega)
  refine ⟨rs, ?_, ?_, ?_, ?_, ?_, ?_, ?_⟩
  · rw [e77]; exact h1
  · rw [e77]
    refine h2.cong (fun p c j hp => ?_) (e1 7 (by decide))
    by_cases q : p = 1
    · subst q; exact e1 c (by unfold KBP at hp; omega)
    · rw [e p (by unfold KBP at hp; omega)]
  · rw [e77, e1 4 (by decide)]; exact h3
  · rw [e77]; exact h4
  · unfold KR at *
    rw [e 3 (by omega), e 26 (by omega), e 27 (by omega), e 28 (by omega), e 29 (by omega)]
    exact h5
  · rw [e77]; exact h6
  · unfold KP at *
    rw [e77, e 4 (by omega), e 30 (by omega), e 31 (by omega), e 32 (by omega), e 33 (by omega)]
    exact h7
theorem KEPT.cong {m m' : M} (h : KEPT m) (hs : Sm1 2 m m') : KEPT m' := by
  have e : ∀ p, p = 2 ∨ p = 5 ∨ p = 6 ∨ (18 ≤ p ∧ p ≤ 24) ∨ (34 ≤ p ∧ p ≤ 41) ∨ p = 78 → m' p = m p := fun p hp => funext fun k => hs p k (cl_2 (scp (by omega)) (by omega))
  have e0 : m' 0 2 = m 0 2 := hs 0 2 (by decide)
  have e3 : m' 76 3 = m 76 3 := hs 76 3 (by decide)
  rcases h with ⟨h1, h2⟩ | ⟨h1, h2, h3⟩
  · exact Or.inl ⟨e0.trans h1, e3.trans h2⟩
  · refine Or.inr ⟨e0.trans h1, e3.trans h2, h3.cong (fun p k q => ?_)⟩
    have hp : p = 1 ∨ p = 3 ∨ p = 4 ∨ (10 ≤ p ∧ p ≤ 16) ∨ (26 ≤ p ∧ p ≤ 33) ∨ p = 77 := by
      unfold cl at q
      by_cases c : sc p k = true
      · rw [if_pos c] at q; omega
      · rw [if_neg c] at q
        by_cases c2 : p = 1 ∨ p = 3 ∨ p = 4 ∨ (10 ≤ p ∧ p ≤ 16) ∨ (26 ≤ p ∧ p ≤ 33) ∨ p = 77
        · exact c2
        · rw [if_neg c2] at q
          repeat' split at q
          all_goals omega
    unfold mv
    rcases hp with rfl | rfl | rfl | hp | hp | rfl
    · rw [if_pos rfl, if_pos rfl, e 2 (by omega)]
    · rw [if_neg (by decide), if_pos rfl, if_neg (by decide), if_pos rfl, e 5 (by omega)]
    · rw [if_neg (by decide), if_neg (by decide), if_pos rfl, if_neg (by decide), if_neg (by decide), if_pos rfl, e 6 (by omega)]
    · rw [if_neg (by omega), if_neg (by omega), if_neg (by omega), if_pos hp, if_neg (by omega), if_neg (by omega), if_neg (by omega), if_pos hp, e (p + 8) (by omega)]
    · rw [if_neg (by omega), if_neg (by omega), if_neg (by omega), if_neg (by omega), if_pos hp, if_neg (by omega), if_neg (by omega), if_neg (by omega), if_neg (by omega), if_pos hp, e (p + 8) (by omega)]
    · rw [if_neg (by decide), if_neg (by decide), if_neg (by decide), if_neg (by decide), if_neg (by decide), if_pos rfl, if_neg (by decide), if_neg (by decide), if_neg (by decide), if_neg (by decide), if_neg (by decide), if_pos rfl, e 78 (by omega)]
theorem ROWS.cong {m m' : M} (h : ROWS m) (hs : Sm1 3 m m') : ROWS m' := by
  obtain ⟨n, h1, h2, h3, h4⟩ := h
  refine ⟨n, h1, (hs 0 6 (by decide)).trans h2, (hs 76 28 (by decide)).trans h3, fun k hk j hj => ?_⟩
  rw [hs (51 + k) j (cl_3 (scp (by omega)) (by omega)), hs 90 _ (cl_3 (scp (by omega)) (by omega))]
  exact h4 k hk j hj
theorem SHEETS.cong {m m' : M} (h : SHEETS m) (hs : Sm1 4 m m') : SHEETS m' := by
  have e : ∀ p, (56 ≤ p ∧ p ≤ 61) ∨ (91 ≤ p ∧ p ≤ 93) → m' p = m p := fun p hp => funext fun k => hs p k (cl_4 (scp (by omega)) (by omega))
  intro i hi
  rw [e 60 (by omega), e 91 (by omega), e 61 (by omega), e 92 (by omega), e (56 + i) (by omega), e 93 (by omega)]
  exact h i hi
theorem SHELVES.cong {m m' : M} (h : SHELVES m) (hs : Sm1 5 m m') : SHELVES m' := by
  have e : ∀ p, p = 62 ∨ p = 63 ∨ p = 94 ∨ p = 95 → m' p = m p := fun p hp => funext fun k => hs p k (cl_5 (scp (by omega)) (by omega))
  intro i hi
  rw [e 62 (by omega), e 63 (by omega), e 94 (by omega), e 95 (by omega)]
  exact h i hi
theorem TAPE.cong {m m' : M} (h : TAPE m) (hs : Sm1 6 m m') : TAPE m' := by
  obtain ⟨n, h1, h2, h3, h4⟩ := h
  refine ⟨n, h1, (hs 7 0 (by decide)).trans h2, (hs 76 6 (by decide)).trans h3, fun j hj => ?_⟩
  rw [hs 46 j (cl_6 (scp (by omega)) (by omega)), hs 81 j (cl_6 (scp (by omega)) (by omega))]
  exact h4 j hj
theorem DEED.cong {m m' : M} (h : DEED m) (hs : Sm1 7 m m') : DEED m' := by
  obtain ⟨n, h1, h2, h3, h4⟩ := h
  refine ⟨n, h1, (hs 9 4 (by decide)).trans h2, (hs 76 35 (by decide)).trans h3, fun j hj => ?_⟩
  rw [hs 49 j (cl_7 (scp (by omega)) (by omega)), hs 96 j (cl_7 (scp (by omega)) (by omega))]
  exact h4 j hj
theorem LET.cong {m m' : M} (h : LET m) (hs : Sm1 8 m m') : LET m' := (funext fun k => hs 82 k cl_8).trans h
def INV (m : M) : Prop := NOW m ∧ KEPT m ∧ ROWS m ∧ SHEETS m ∧ SHELVES m ∧ TAPE m ∧ DEED m ∧ LET m
theorem INV.sq {m m' : M} (h : INV m) (hs : SQ m m') : INV m' := by
  have hc : ∀ d, d ≠ 0 → Sm1 d m m' := fun d h0 => (hs.Ch (c := 0)).same h0 h0
  exact ⟨h.1.cong (hc 1 (by decide)), h.2.1.cong (hc 2 (by decide)), h.2.2.1.cong (hc 3 (by decide)), h.2.2.2.1.cong (hc 4 (by decide)), h.2.2.2.2.1.cong (hc 5 (by decide)), h.2.2.2.2.2.1.cong (hc 6 (by decide)), h.2.2.2.2.2.2.1.cong (hc 7 (by decide)), h.2.2.2.2.2.2.2.cong (hc 8 (by decide))⟩
theorem INV.c1 {m m' : M} (h : INV m) (hs : Ch 1 m m') (hn : NOW m') : INV m' :=
  ⟨hn, h.2.1.cong (hs.same (by decide) (by decide)), h.2.2.1.cong (hs.same (by decide) (by decide)), h.2.2.2.1.cong (hs.same (by decide) (by decide)), h.2.2.2.2.1.cong (hs.same (by decide) (by decide)), h.2.2.2.2.2.1.cong (hs.same (by decide) (by decide)), h.2.2.2.2.2.2.1.cong (hs.same (by decide) (by decide)), h.2.2.2.2.2.2.2.cong (hs.same (by decide) (by decide))⟩
theorem INV.c2 {m m' : M} (h : INV m) (hs : Ch 2 m m') (hn : KEPT m') : INV m' :=
  ⟨h.1.cong (hs.same (by decide) (by decide)), hn, h.2.2.1.cong (hs.same (by decide) (by decide)), h.2.2.2.1.cong (hs.same (by decide) (by decide)), h.2.2.2.2.1.cong (hs.same (by decide) (by decide)), h.2.2.2.2.2.1.cong (hs.same (by decide) (by decide)), h.2.2.2.2.2.2.1.cong (hs.same (by decide) (by decide)), h.2.2.2.2.2.2.2.cong (hs.same (by decide) (by decide))⟩
theorem INV.c3 {m m' : M} (h : INV m) (hs : Ch 3 m m') (hn : ROWS m') : INV m' :=
  ⟨h.1.cong (hs.same (by decide) (by decide)), h.2.1.cong (hs.same (by decide) (by decide)), hn, h.2.2.2.1.cong (hs.same (by decide) (by decide)), h.2.2.2.2.1.cong (hs.same (by decide) (by decide)), h.2.2.2.2.2.1.cong (hs.same (by decide) (by decide)), h.2.2.2.2.2.2.1.cong (hs.same (by decide) (by decide)), h.2.2.2.2.2.2.2.cong (hs.same (by decide) (by decide))⟩
theorem INV.c4 {m m' : M} (h : INV m) (hs : Ch 4 m m') (hn : SHEETS m') : INV m' :=
  ⟨h.1.cong (hs.same (by decide) (by decide)), h.2.1.cong (hs.same (by decide) (by decide)), h.2.2.1.cong (hs.same (by decide) (by decide)), hn, h.2.2.2.2.1.cong (hs.same (by decide) (by decide)), h.2.2.2.2.2.1.cong (hs.same (by decide) (by decide)), h.2.2.2.2.2.2.1.cong (hs.same (by decide) (by decide)), h.2.2.2.2.2.2.2.cong (hs.same (by decide) (by decide))⟩
theorem INV.c5 {m m' : M} (h : INV m) (hs : Ch 5 m m') (hn : SHELVES m') : INV m' :=
  ⟨h.1.cong (hs.same (by decide) (by decide)), h.2.1.cong (hs.same (by decide) (by decide)), h.2.2.1.cong (hs.same (by decide) (by decide)), h.2.2.2.1.cong (hs.same (by decide) (by decide)), hn, h.2.2.2.2.2.1.cong (hs.same (by decide) (by decide)), h.2.2.2.2.2.2.1.cong (hs.same (by decide) (by decide)), h.2.2.2.2.2.2.2.cong (hs.same (by decide) (by decide))⟩
theorem INV.c6 {m m' : M} (h : INV m) (hs : Ch 6 m m') (hn : TAPE m') : INV m' :=
  ⟨h.1.cong (hs.same (by decide) (by decide)), h.2.1.cong (hs.same (by decide) (by decide)), h.2.2.1.cong (hs.same (by decide) (by decide)), h.2.2.2.1.cong (hs.same (by decide) (by decide)), h.2.2.2.2.1.cong (hs.same (by decide) (by decide)), hn, h.2.2.2.2.2.2.1.cong (hs.same (by decide) (by decide)), h.2.2.2.2.2.2.2.cong (hs.same (by decide) (by decide))⟩
theorem INV.c7 {m m' : M} (h : INV m) (hs : Ch 7 m m') (hn : DEED m') : INV m' :=
  ⟨h.1.cong (hs.same (by decide) (by decide)), h.2.1.cong (hs.same (by decide) (by decide)), h.2.2.1.cong (hs.same (by decide) (by decide)), h.2.2.2.1.cong (hs.same (by decide) (by decide)), h.2.2.2.2.1.cong (hs.same (by decide) (by decide)), h.2.2.2.2.2.1.cong (hs.same (by decide) (by decide)), hn, h.2.2.2.2.2.2.2.cong (hs.same (by decide) (by decide))⟩
/-- a call that changes nothing but scratch, on both sides -/
theorem both {m : M} {kf rf : M → Option (Int32 × M)} {v : (Nat → Int32) → List Rl → Int32} (hI : INV m) (hk : ∀ (b : Nat → Int32) (rs : List Rl) (m : M), WF b → KB m b → KR m rs → ∃ m1, kf m = some (v b rs, m1) ∧ SQ m m1) (hr : ∀ (b : Nat → Int32) (rs : List Rl) (m : M), WF b → RR b rs → m 77 = b → ∃ m1, rf m = some (v b rs, m1) ∧ SQ m m1) : ∃ (x : Int32) (m1 m2 : M), kf m = some (x, m1) ∧ rf m1 = some (x, m2) ∧ INV m2 := by
  obtain ⟨rs, h1, h2, h3, h4, h5, h6, h7⟩ := hI.1
  obtain ⟨m1, g1, g2⟩ := hk (m 77) rs m h1 h2 h5
  obtain ⟨m2, f1, f2⟩ := hr (m 77) rs m1 h1 h4 (g2.row 77 sc_77)
  exact ⟨_, m1, m2, g1, f1, hI.sq (g2.trans f2)⟩
theorem ok_on {m : M} (hI : INV m) : OK_on INV m := fun y => both (v := fun b rs => onV rs b y) hI (fun _ _ _ a b c => k_on_eq a b c y) (fun _ _ _ a b c => r_on_eq a b c y)
theorem ok_when {m : M} (hI : INV m) : OK_when INV m := fun y => both (v := fun b rs => whenV rs b y) hI (fun _ _ _ a b c => k_when_eq a b c y) (fun _ _ _ a b c => r_when_eq a b c y)
theorem ok_votesFor {m : M} (hI : INV m) : OK_votesFor INV m := fun y => both (v := fun b rs => votesV rs b y) hI (fun _ _ _ a b c => k_votesFor_eq a b c y) (fun _ _ _ a b c => r_votesFor_eq a b c y)
theorem ok_benchFor {m : M} (hI : INV m) : OK_benchFor INV m := fun y => both (v := fun b rs => seatV rs b y) hI (fun _ _ _ a b c => k_benchFor_eq a b c y) (fun _ _ _ a b c => r_benchFor_eq a b c y)
theorem ok_fund {m : M} (hI : INV m) : OK_fund INV m := fun y => both (v := fun b rs => fundV rs b y) hI (fun _ _ _ a b c => k_fund_eq a b c y) (fun _ _ _ a b c => r_fund_eq a b c y)
theorem ok_wrecks {m : M} (hI : INV m) : OK_wrecks INV m := fun y => both (v := fun b rs => wrecksV rs b y) hI (fun _ _ _ a b c => k_wrecks_eq a b c y) (fun _ _ _ a b c => r_wrecks_eq a b c y)
theorem ok_best {m : M} (hI : INV m) : OK_best INV m := fun y => both (v := fun b rs => bestV rs b y) hI (fun _ _ _ a b c => k_best_eq a b c y) (fun _ _ _ a b c => r_best_eq a b c y)
theorem ok_ways {m : M} (hI : INV m) : OK_ways INV m := fun y => both (v := fun b rs => waysV rs b y) hI (fun _ _ _ a b c => k_ways_eq a b c y) (fun _ _ _ a b c => r_ways_eq a b c y)
theorem ok_ith {m : M} (hI : INV m) : OK_ith INV m := fun y z => both (v := fun b rs => ithV rs b y z) hI (fun _ _ _ a b c => k_ith_eq a b c y z) (fun _ _ _ a b c => r_ith_eq a b c y z)
theorem ok_agenda {m : M} (hI : INV m) : OK_agenda INV m := fun y z => both (v := fun b rs => agendaV rs b y z) hI (fun _ _ _ a b c => k_agenda_eq a b c y z) (fun _ _ _ a b c => r_agenda_eq a b c y z)
theorem ok_bars {m : M} (hI : INV m) : OK_bars INV m := fun y z => both (v := fun b rs => barsV rs b y z) hI (fun _ _ _ a b c => k_bars_eq a b c y z) (fun _ _ _ a b c => r_bars_eq a b c y z)
theorem ok_game {m : M} (hI : INV m) : OK_game INV m := fun y => both (v := fun b rs => gameV rs b y) hI (fun _ _ _ a b c => k_game_eq a b c y) (fun _ _ _ a b c => r_game_eq a b c y)
theorem ok_play {m : M} (hI : INV m) : OK_play INV m := fun y => both (v := fun b rs => playV rs b y) hI (fun _ _ _ a b c => k_play_eq a b c y) (fun _ _ _ a b c => r_play_eq a b c y)
theorem ok_times {m : M} (hI : INV m) : OK_times INV m := fun y z => both (v := fun b rs => timesV rs b y z) hI (fun _ _ _ a b c => k_times_eq a b c y z) (fun _ _ _ a b c => r_times_eq a b c y z)
theorem ok_parties {m : M} (hI : INV m) : OK_parties INV m := fun y => by
  obtain ⟨rs, h1, h2, h3, h4, h5, h6, h7⟩ := hI.1
  exact ⟨_, k_parties_eq h1 h2 y, r_parties_eq h1 rfl y, hI⟩
theorem ok_power {m : M} (hI : INV m) : OK_power INV m := fun y => by
  obtain ⟨rs, h1, h2, h3, h4, h5, h6, h7⟩ := hI.1
  exact ⟨_, k_power_eq h1 h2 y, r_power_eq h1 rfl y, hI⟩
theorem ok_lone {m : M} (hI : INV m) : OK_lone INV m := fun y => by
  obtain ⟨rs, h1, h2, h3, h4, h5, h6, h7⟩ := hI.1
  obtain ⟨m2, g1, g2⟩ := r_lone_eq h6 rfl y
  exact ⟨_, m2, k_lone_eq h2 h6 h7 y, g1, hI.sq g2⟩
theorem ok_liar {m : M} (hI : INV m) : OK_liar INV m := by
  obtain ⟨rs, h1, h2, h3, h4, h5, h6, h7⟩ := hI.1
  obtain ⟨m2, g1, g2⟩ := r_liar_eq h6 rfl
  exact ⟨_, m2, k_liar_eq h2 h6 h7, g1, hI.sq g2⟩
