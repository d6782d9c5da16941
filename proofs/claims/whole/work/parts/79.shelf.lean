/-! what lies on sheets is read; acts by a sheet; shelves -/
theorem ok_item {m : M} (hI : INV m) : OK_item INV m := fun y z v => by
  have hS := hI.2.2.2.1
  by_cases c1 : ¬ (0 ≤ y ∧ y ≤ 3)
  · refine ⟨-1, ?_, ?_, hI⟩
    · unfold k_item; rw [wi_f c1, Option.bind_some, if_pos rfl]
    · unfold r_item; rw [isSheet_f c1, Option.bind_some, if_pos rfl]
  have c1 := Classical.not_not.mp c1
  have c1' := c1
  obtain ⟨i, hi, rfl⟩ := sheet_in.mp c1
  by_cases c2 : ¬ (0 ≤ z ∧ z ≤ 4)
  · refine ⟨-1, ?_, ?_, hI⟩
    · unfold k_item; rw [wi_t c1', Option.bind_some, if_neg one_ne, wi_f c2, Option.bind_some, if_pos rfl]
    · unfold r_item; rw [isSheet_t c1', Option.bind_some, if_neg one_ne, in1_f c2, Option.bind_some, if_pos rfl]
  have c2 := Classical.not_not.mp c2
  unfold k_item r_item k_isOfSort k_refusalAs r_lacks
  rw [wi_t c1', Option.bind_some, if_neg one_ne, wi_t c2, Option.bind_some, if_neg one_ne, isSheet_t c1', Option.bind_some, if_neg one_ne, in1_t c2, Option.bind_some, if_neg one_ne, rd4 (p := 60) (by omega) hi, Option.bind_some, rd4 (p := 91) (by omega) hi, Option.bind_some]
  rcases hS i hi with ⟨s1, s2⟩ | ⟨t, n, a1, a2, a3, a4, a5, a6, a7⟩
  · refine ⟨-11, ?_, ?_, hI⟩
    · rw [s1, if_neg (fun q => m1_lt (by rw [q]; exact c2.1)), Option.bind_some, if_pos rfl, if_pos rfl]; rfl
    · rw [s2, Option.bind_some, if_neg m1_lt, Option.bind_some, if_neg (by decide)]
  · simp only [a3, a4, Option.bind_some]
    rw [if_pos (show (0 : Int32) ≤ nI t from nI_pos' (by omega))]
    by_cases c3 : nI t = z
    · rw [if_pos c3, if_pos c3, Option.bind_some, if_neg one_ne, isPlace_eq hi a5, Option.bind_some, Option.bind_some, if_pos rfl, rd4 (p := 92) (by omega) hi, a6, Option.bind_some]
      by_cases c4 : 0 ≤ v ∧ v ≤ nI n - 1
      · obtain ⟨k, hk, rfl⟩ := (in_nat (by omega)).mp c4
        refine ⟨m (56 + i) k, ?_, ?_, hI⟩
        · rw [decide_eq_true c4, b01_t, sheets_at hi, Option.bind_some, rdI_at (by rw [len56 hi]; omega) (by rw [len56 hi]; decide)]; rfl
        · rw [in1_t c4, Option.bind_some, if_neg one_ne, show (40 : Int32) = nI 40 from rfl, pk_mul, nI_add, rdI_at (show 40 * i + k < len 93 by rw [len93]; omega) (by rw [len93]; decide), a7 k hk]; rfl
      · refine ⟨-12, ?_, ?_, hI⟩
        · rw [decide_eq_false c4, b01_f]
        · rw [in1_f c4, Option.bind_some, if_pos rfl]
    · refine ⟨-13, ?_, ?_, hI⟩
      · rw [if_neg c3, Option.bind_some, if_pos rfl, if_neg (sort_ne a1)]; rfl
      · rw [if_neg c3, Option.bind_some, if_neg (by decide)]
theorem shelf_ch {m m1 m2 : M} (h : ∀ p, p ≠ 62 → p ≠ 63 → p ≠ 94 → p ≠ 95 → m2 p = m p) : Ch 5 m m2 := fun p k q1 q0 => by
  have := ne5 q1 q0
  rw [h p (by omega) (by omega) (by omega) (by omega)]
theorem shelf_put {m : M} (hI : INV m) {i : Nat} (hi : i < 4) {x u x' u' : Int32} (h : (x = -1 ∧ x' = -1) ∨ (∃ k, k < 6 ∧ x = 5 ∧ x' = 0 ∧ u = nI k ∧ u' = nI k) ∨ (∃ t, t ≤ 4 ∧ x = nI t ∧ x' = nI (10 + t) ∧ u = u')) : k_putOn (nI i) x u m = some (1, mset (mset m 62 (upd (m 62) i x)) 63 (upd (m 63) i u)) ∧ (∀ m1 : M, m1 = mset (mset m 62 (upd (m 62) i x)) 63 (upd (m 63) i u) → INV (mset (mset m1 94 (upd (m1 94) i x')) 95 (upd (m1 95) i u')) ∧ m1 77 = m 77 ∧ (∀ p, p ≠ 62 → p ≠ 63 → m1 p = m p)) := by
  constructor
  · unfold k_putOn
    rw [wr4 (p := 62) (by omega) hi, Option.bind_some, wr4 (p := 63) (by omega) hi, mset_ne (show (63 : Nat) ≠ 62 by decide), Option.bind_some]
  · intro m1 hm1
    have hne : ∀ p, p ≠ 62 → p ≠ 63 → m1 p = m p := fun p x1 x2 => by rw [hm1, mset_ne x2, mset_ne x1]
    have g62 : m1 62 = upd (m 62) i x := by rw [hm1, mset_ne (by decide), mset_same]
    have g63 : m1 63 = upd (m 63) i u := by rw [hm1, mset_same]
    refine ⟨hI.c5 (shelf_ch (m1 := m1) (fun p x1 x2 x3 x4 => by rw [mset_ne x4, mset_ne x3, hne p x1 x2])) (fun i' hi' => ?_), hne 77 (by decide) (by decide), hne⟩
    rw [mset_ne (show (62 : Nat) ≠ 95 by decide), mset_ne (show (62 : Nat) ≠ 94 by decide), mset_ne (show (94 : Nat) ≠ 95 by decide), mset_same, mset_ne (show (63 : Nat) ≠ 95 by decide), mset_ne (show (63 : Nat) ≠ 94 by decide), mset_same, g62, g63, hne 94 (by decide) (by decide), hne 95 (by decide) (by decide)]
    by_cases e : i' = i
    · subst e
      rw [upd_at, upd_at, upd_at, upd_at]
      exact h
    · rw [upd_off e, upd_off e, upd_off e, upd_off e]
      exact hI.2.2.2.2.1 i' hi'
theorem r_shelf_111_eq {m : M} {i : Nat} (hi : i < 4) (x : Int32) : r_shelf_111 (nI i) x m = some (1, mset m 95 (upd (m 95) i x)) := by
  unfold r_shelf_111
  rw [wr4 (p := 95) (by omega) hi]
  rfl
theorem ok_shelf {m : M} (hI : INV m) : OK_shelf INV m := fun y z v => by
  obtain ⟨rs, h1, h2, h3, h4, h5, h6, h7⟩ := hI.1
  have hS := hI.2.2.2.1
  by_cases c1 : ¬ (0 ≤ y ∧ y ≤ 3)
  · refine ⟨-1, m, m, ?_, ?_, hI⟩
    · unfold k_shelf; rw [wi_f c1, Option.bind_some, if_pos rfl]
    · unfold r_shelf; rw [isSheet_f c1, Option.bind_some, if_pos rfl]
  have c1 := Classical.not_not.mp c1
  have c1' := c1
  obtain ⟨i, hi, rfl⟩ := sheet_in.mp c1
  have h01 : ¬ (0 : Int32) = 1 := by decide
  have h21 : ¬ (2 : Int32) = 1 := by decide
  by_cases z0 : z = 0
  · subst z0
    by_cases c2 : memB (m 77) v = true
    · have c2' := c2
      obtain ⟨k, hk1, hk, rfl⟩ := h1.mem c2
      obtain ⟨p1, p2⟩ := shelf_put hI hi (x := 5) (u := nI k) (x' := 0) (u' := nI k) (Or.inr (Or.inl ⟨k, hk, rfl, rfl, rfl, rfl⟩))
      obtain ⟨m1, hm1⟩ : ∃ m1, m1 = mset (mset m 62 (upd (m 62) i 5)) 63 (upd (m 63) i (nI k)) := ⟨_, rfl⟩
      obtain ⟨p3, p4, p5⟩ := p2 m1 hm1
      refine ⟨1, m1, _, ?_, ?_, p3⟩
      · unfold k_shelf
        rw [wi_t c1', Option.bind_some, if_neg one_ne, if_pos rfl, isMem_t h2 c2', Option.bind_some, if_neg one_ne, p1, hm1]; rfl
      · unfold r_shelf r_shelf_28 r_shelf_42 r_shelf_82
        rw [isSheet_t c1', Option.bind_some, if_neg one_ne, in1_t (by decide), Option.bind_some, if_neg one_ne, if_pos rfl, risMem_t p4 c2', Option.bind_some, if_neg one_ne, if_neg h01, if_pos rfl, wr4 (p := 94) (by omega) hi, Option.bind_some, if_pos rfl, r_shelf_111_eq hi, mset_ne (show (95 : Nat) ≠ 94 by decide)]
    · refine ⟨-1, m, m, ?_, ?_, hI⟩
      · unfold k_shelf
        rw [wi_t c1', Option.bind_some, if_neg one_ne, if_pos rfl, isMem_f h2 c2, Option.bind_some, if_pos rfl]
      · unfold r_shelf
        rw [isSheet_t c1', Option.bind_some, if_neg one_ne, in1_t (by decide), Option.bind_some, if_neg one_ne, if_pos rfl, risMem_f rfl c2, Option.bind_some, if_pos rfl]
  by_cases z1 : z = 1
  · subst z1
    by_cases c2 : 0 ≤ v ∧ v ≤ 3
    · have c2' := c2
      obtain ⟨j, hj, rfl⟩ := sheet_in.mp c2
      have hk : k_shelf (nI i) 1 (nI j) m = Option.bind (k_putOn (nI i) (m 60 j) (m 61 j) m) (fun z7 => some (z7.1, z7.2)) := by
        unfold k_shelf
        rw [wi_t c1', Option.bind_some, if_neg one_ne, if_neg z0, if_pos rfl, wi_t c2', Option.bind_some, if_neg one_ne, rd4 (p := 60) (by omega) hj, Option.bind_some, rd4 (p := 61) (by omega) hj, Option.bind_some]
      have hr : ∀ mm : M, mm 91 = m 91 → mm 92 = m 92 → r_shelf (nI i) 1 (nI j) mm = (if m 91 j < 0 then r_shelf_82 (nI i) 1 (nI j) (nI i) (-1) mm else r_shelf_82 (nI i) 1 (nI j) (nI i) (10 + m 91 j) mm) := fun mm e1 e2 => by
        unfold r_shelf r_shelf_28 r_shelf_42 r_shelf_81
        rw [isSheet_t c1', Option.bind_some, if_neg one_ne, in1_t (by decide), Option.bind_some, if_neg one_ne, if_neg z0, if_pos rfl, isSheet_t c2', Option.bind_some, if_neg one_ne, if_neg z0, if_pos rfl, rd4 (p := 91) (by omega) hj, e1, Option.bind_some, Option.bind_some]
      have h82 : ∀ (mm : M) (x : Int32), mm 92 = m 92 → r_shelf_82 (nI i) 1 (nI j) (nI i) x mm = some (1, mset (mset mm 94 (upd (mm 94) i x)) 95 (upd (mm 95) i (m 92 j))) := fun mm x e2 => by
        unfold r_shelf_82
        rw [wr4 (p := 94) (by omega) hi, Option.bind_some, if_neg z0, if_pos rfl, rd4 (p := 92) (by omega) hj, mset_ne (show (92 : Nat) ≠ 94 by decide), e2, Option.bind_some, r_shelf_111_eq hi, mset_ne (show (95 : Nat) ≠ 94 by decide)]
      rcases hS j hj with ⟨s1, s2⟩ | ⟨t, n, a1, a2, a3, a4, a5, a6, a7⟩
      · obtain ⟨p1, p2⟩ := shelf_put hI hi (x := m 60 j) (u := m 61 j) (x' := -1) (u' := m 92 j) (Or.inl ⟨s1, rfl⟩)
        obtain ⟨m1, hm1⟩ : ∃ m1, m1 = mset (mset m 62 (upd (m 62) i (m 60 j))) 63 (upd (m 63) i (m 61 j)) := ⟨_, rfl⟩
        obtain ⟨p3, p4, p5⟩ := p2 m1 hm1
        refine ⟨1, m1, _, ?_, ?_, p3⟩
        · rw [hk, p1, hm1]; rfl
        · rw [hr m1 (p5 91 (by decide) (by decide)) (p5 92 (by decide) (by decide)), s2, if_pos (by decide), h82 m1 _ (p5 92 (by decide) (by decide))]
      · obtain ⟨p1, p2⟩ := shelf_put hI hi (x := m 60 j) (u := m 61 j) (x' := nI (10 + t)) (u' := m 92 j) (Or.inr (Or.inr ⟨t, a1, a3, rfl, by rw [a5, a6]⟩))
        obtain ⟨m1, hm1⟩ : ∃ m1, m1 = mset (mset m 62 (upd (m 62) i (m 60 j))) 63 (upd (m 63) i (m 61 j)) := ⟨_, rfl⟩
        obtain ⟨p3, p4, p5⟩ := p2 m1 hm1
        refine ⟨1, m1, _, ?_, ?_, p3⟩
        · rw [hk, p1, hm1]; rfl
        · rw [hr m1 (p5 91 (by decide) (by decide)) (p5 92 (by decide) (by decide)), a4, if_neg (nI_pos (by omega)), show (10 : Int32) + nI t = nI (10 + t) from by rw [show (10 : Int32) = nI 10 by decide, nI_add], h82 m1 _ (p5 92 (by decide) (by decide))]
    · refine ⟨-1, m, m, ?_, ?_, hI⟩
      · unfold k_shelf
        rw [wi_t c1', Option.bind_some, if_neg one_ne, if_neg z0, if_pos rfl, wi_f c2, Option.bind_some, if_pos rfl]
      · unfold r_shelf r_shelf_28
        rw [isSheet_t c1', Option.bind_some, if_neg one_ne, in1_t (by decide), Option.bind_some, if_neg one_ne, if_neg z0, if_pos rfl, isSheet_f c2, Option.bind_some, if_pos rfl]
  by_cases z2 : z = 2
  · subst z2
    obtain ⟨p1, p2⟩ := shelf_put hI hi (x := -1) (u := 0) (x' := -1) (u' := 0) (Or.inl ⟨rfl, rfl⟩)
    obtain ⟨m1, hm1⟩ : ∃ m1, m1 = mset (mset m 62 (upd (m 62) i (-1))) 63 (upd (m 63) i 0) := ⟨_, rfl⟩
    obtain ⟨p3, p4, p5⟩ := p2 m1 hm1
    refine ⟨1, m1, _, ?_, ?_, p3⟩
    · unfold k_shelf
      rw [wi_t c1', Option.bind_some, if_neg one_ne, if_neg z0, if_neg z1, if_pos rfl, p1, hm1]; rfl
    · unfold r_shelf r_shelf_28 r_shelf_42 r_shelf_81 r_shelf_82
      rw [isSheet_t c1', Option.bind_some, if_neg one_ne, in1_t (by decide), Option.bind_some, if_neg one_ne, if_neg z0, if_neg z1, if_neg z0, if_neg z1, wr4 (p := 94) (by omega) hi, Option.bind_some, if_neg z0, if_neg z1, r_shelf_111_eq hi, mset_ne (show (95 : Nat) ≠ 94 by decide)]
  · refine ⟨-1, m, m, ?_, ?_, hI⟩
    · unfold k_shelf
      rw [wi_t c1', Option.bind_some, if_neg one_ne, if_neg z0, if_neg z1, if_neg z2]
    · unfold r_shelf
      rw [isSheet_t c1', Option.bind_some, if_neg one_ne, in1_f (v := z) (fun q => by
        obtain ⟨j, hj, rfl⟩ := (in_le (v := z) (n := 2) (by decide)).mp q
        rcases (show j = 0 ∨ j = 1 ∨ j = 2 by omega) with rfl | rfl | rfl
        · exact z0 rfl
        · exact z1 rfl
        · exact z2 rfl), Option.bind_some, if_pos rfl]
theorem ten_not {z : Int32} (h : 10 ≤ z ∧ z ≤ 14) : ¬ (0 ≤ z ∧ z ≤ 5) := fun q => absurd (Int32.le_trans h.1 q.2) (by decide)
theorem ok_taken {m : M} (hI : INV m) : OK_taken INV m := fun y z => by
  obtain ⟨rs, h1, h2, h3, h4, h5, h6, h7⟩ := hI.1
  by_cases c1 : ¬ (0 ≤ y ∧ y ≤ 3)
  · refine ⟨-1, ?_, ?_, hI⟩
    · unfold k_taken; rw [wi_f c1, k_within_eq, Option.bind_some, Option.bind_some, if_pos rfl]
    · unfold r_taken; rw [isSheet_f c1, Option.bind_some, if_pos rfl]
  have c1 := Classical.not_not.mp c1
  have c1' := c1
  obtain ⟨i, hi, rfl⟩ := sheet_in.mp c1
  by_cases c2 : ¬ ((0 ≤ z ∧ z ≤ 5) ∨ (10 ≤ z ∧ z ≤ 14))
  · refine ⟨-1, ?_, ?_, hI⟩
    · unfold k_taken; rw [wi_f (fun q => c2 (Or.inl q)), Option.bind_some, wi_t c1', Option.bind_some, if_neg one_ne, if_pos rfl, wi_f (fun q => c2 (Or.inr q)), Option.bind_some, if_pos rfl]
    · unfold r_taken; rw [isSheet_t c1', Option.bind_some, if_neg one_ne, in1_f (fun q => c2 (Or.inl q)), Option.bind_some, if_pos rfl, in1_f (fun q => c2 (Or.inr q)), Option.bind_some, if_pos rfl]
  have c2 := Classical.not_not.mp c2
  have hr : r_taken (nI i) z m = r_taken_29 (nI i) z m := by
    unfold r_taken
    rw [isSheet_t c1', Option.bind_some, if_neg one_ne]
    rcases c2 with c2 | c2
    · rw [in1_t c2, Option.bind_some, if_neg one_ne]
    · rw [in1_f (ten_not c2), Option.bind_some, if_pos rfl, in1_t c2, Option.bind_some, if_neg one_ne]
  have hk : k_taken (nI i) z m = k_taken_33 (nI i) z (if 0 ≤ z ∧ z ≤ 5 then 1 else 0) m := by
    unfold k_taken
    rcases c2 with c2 | c2
    · rw [wi_t c2, Option.bind_some, wi_t c1', Option.bind_some, if_neg one_ne, if_neg one_ne, if_pos c2]
    · rw [wi_f (ten_not c2), Option.bind_some, wi_t c1', Option.bind_some, if_neg one_ne, if_pos rfl, wi_t c2, Option.bind_some, if_neg one_ne, if_neg (ten_not c2)]
  rw [hk, hr]
  unfold k_taken_33 r_taken_29 r_heldOn r_heldOn_26
  rw [rd4 (p := 62) (by omega) hi, rd4 (p := 63) (by omega) hi, rd4 (p := 94) (by omega) hi, rd4 (p := 95) (by omega) hi, Option.bind_some, Option.bind_some, Option.bind_some, Option.bind_some, Option.bind_some]
  rcases hI.2.2.2.2.1 i hi with ⟨s1, s2⟩ | ⟨k, a1, a2, a3, a4, a5⟩ | ⟨t, a1, a2, a3, a4⟩
  · refine ⟨-11, by rw [s1, if_pos rfl], ?_, hI⟩
    rw [s2, if_neg (by decide), Option.bind_some, if_neg m1_lt]
  · rw [a2, a3, a4, a5, if_neg (by decide), if_pos rfl, if_pos rfl, b_isMember_eq h2, r_isMember_eq rfl, Option.bind_some, Option.bind_some]
    by_cases c3 : memB (m 77) (nI k) = true
    · rw [c3, b01_t, b01_t, Option.bind_some, if_pos (show (0 : Int32) ≤ 0 by decide), if_pos (show (0 : Int32) = 0 from rfl)]
      unfold k_taken_76 r_taken_74 r_taken_88
      rw [if_pos rfl, rd6 (by decide) a1, h2.kind a1, Option.bind_some, Option.bind_some, show r_get (nI k) (0 : Int32) m = some (m 77 (37 + 5 * k + 0)) from r_get_at (f := 0) a1 (by decide), Option.bind_some, rd4 (p := 95) (by omega) hi, a5, Option.bind_some]
      obtain ⟨e1, e2⟩ := h1.kindN a1
      rw [e1]
      rcases c2 with c2 | c2
      · obtain ⟨j, hj, rfl⟩ := (in_le (v := z) (n := 5) (by decide)).mp c2
        rw [if_pos c2, if_neg one_ne, if_neg (show ¬ (10 : Int32) ≤ nI j from nI_ge (a := j) (b := 10) (by omega) (by decide)), k_isUnder_eq e2 hj, r_isUnder_eq e2 hj, Option.bind_some, Option.bind_some]
        cases underN (kindN (m 77) k) j
        · exact ⟨-13, by rw [b01_f], by rw [b01_f, if_pos rfl], hI⟩
        · exact ⟨nI k, by rw [b01_t], by rw [b01_t, if_neg one_ne], hI⟩
      · rw [if_neg (ten_not c2), if_pos rfl, if_pos c2.1, if_pos rfl]
        exact ⟨-13, rfl, rfl, hI⟩
    · rw [Bool.eq_false_iff.mpr c3, b01_f, b01_f, Option.bind_some, if_neg m1_lt]
      exact ⟨-11, rfl, rfl, hI⟩
  · have ht5 : ¬ nI t = 5 := fun q => by have := (nI_eq (b := 5) (by omega) (by decide)).mp q; omega
    have h10 : ¬ nI (10 + t) = 0 := nI_ne0 (by omega) (by omega)
    rw [a2, a3, a4, if_neg (sort_ne a1), if_neg ht5, if_neg h10, Option.bind_some, if_pos (show (0 : Int32) ≤ nI (10 + t) from nI_pos' (by omega)), if_neg h10]
    unfold k_taken_76 r_taken_88
    rw [if_neg ht5, show (10 : Int32) + nI t = nI (10 + t) from by rw [show (10 : Int32) = nI 10 by decide, nI_add], rd4 (p := 95) (by omega) hi, Option.bind_some, if_pos rfl, if_neg one_ne]
    by_cases c3 : z = nI (10 + t)
    · rw [if_pos c3, if_pos c3.symm]; exact ⟨_, rfl, rfl, hI⟩
    · rw [if_neg c3, if_neg (fun q => c3 q.symm)]; exact ⟨_, rfl, rfl, hI⟩
