/-! sheets and shelves -/
theorem sheet_in {y : Int32} : (0 ≤ y ∧ y ≤ 3) ↔ ∃ c, c < 4 ∧ y = nI c := by
  rw [show (3 : Int32) = nI 3 from rfl, in_le (by decide)]
  exact ⟨fun ⟨j, h1, h2⟩ => ⟨j, by omega, h2⟩, fun ⟨j, h1, h2⟩ => ⟨j, by omega, h2⟩⟩
theorem isSheet_t {y : Int32} {m : M} (h : 0 ≤ y ∧ y ≤ 3) : r_isSheet y m = some 1 := by unfold r_isSheet; rw [in1_t h]; rfl
theorem isSheet_f {y : Int32} {m : M} (h : ¬ (0 ≤ y ∧ y ≤ 3)) : r_isSheet y m = some 0 := by unfold r_isSheet; rw [in1_f h]; rfl
theorem sheets_at {k : Nat} (h : k < 4) : rdR 55 (nI k) = some (56 + k) := by
  match k, h with
  | 0, _ => rfl
  | 1, _ => rfl
  | 2, _ => rfl
  | 3, _ => rfl
  | k + 4, h => omega
theorem len56 {k : Nat} (h : k < 4) : len (56 + k) = 40 := by
  match k, h with
  | 0, _ => decide
  | 1, _ => decide
  | 2, _ => decide
  | 3, _ => decide
  | k + 4, h => omega
theorem len4 {p : Nat} (h : p = 60 ∨ p = 61 ∨ p = 62 ∨ p = 63 ∨ p = 91 ∨ p = 92 ∨ p = 94 ∨ p = 95) : len p = 4 := by
  rcases h with rfl | rfl | rfl | rfl | rfl | rfl | rfl | rfl <;> decide
theorem rd4 {m : M} {p c : Nat} (h : p = 60 ∨ p = 61 ∨ p = 62 ∨ p = 63 ∨ p = 91 ∨ p = 92 ∨ p = 94 ∨ p = 95) (hc : c < 4) : rdI m p (nI c) = some (m p c) := rdI_at (by rw [len4 h]; exact hc) (by rw [len4 h]; decide)
theorem wr4 {m : M} {p c : Nat} {v : Int32} (h : p = 60 ∨ p = 61 ∨ p = 62 ∨ p = 63 ∨ p = 91 ∨ p = 92 ∨ p = 94 ∨ p = 95) (hc : c < 4) : wrI m p (nI c) v = some (mset m p (upd (m p) c v)) := wrI_at (by rw [len4 h]; exact hc) (by rw [len4 h]; decide)
theorem len93 : len 93 = 160 := by decide
def zr (o n : Nat) (f : Nat → Int32) : Nat → Int32 := fun j => if o ≤ j ∧ j < o + n then 0 else f j
theorem zr_step {o i : Nat} {f : Nat → Int32} : upd (zr o i f) (o + i) 0 = zr o (i + 1) f := by
  funext j
  unfold zr
  by_cases e : j = o + i
  · subst e; rw [upd_at, if_pos (by omega)]
  · rw [upd_off e]
    by_cases e2 : o ≤ j ∧ j < o + i
    · rw [if_pos e2, if_pos (by omega)]
    · rw [if_neg e2, if_neg (by omega)]
theorem zr_0 {o : Nat} {f : Nat → Int32} : zr o 0 f = f := funext fun j => if_neg (by omega)
theorem ne4 {p k : Nat} (h1 : cl p k ≠ 4) (h0 : cl p k ≠ 0) : ¬ ((56 ≤ p ∧ p ≤ 61) ∨ (91 ≤ p ∧ p ≤ 93)) := fun q => h1 (cl_4 (cl_sc h0) q)
theorem ne5 {p k : Nat} (h1 : cl p k ≠ 5) (h0 : cl p k ≠ 0) : ¬ (p = 62 ∨ p = 63 ∨ p = 94 ∨ p = 95) := fun q => h1 (cl_5 (cl_sc h0) q)
theorem r_sheet_39_eq {m : M} {i : Nat} {a2 a3 : Int32} (hi : i < 4) : r_sheet_39 (nI i) a2 a3 m = some (1, mset (mset (mset m 91 (upd (m 91) i a2)) 92 (upd (m 92) i (if 0 ≤ a2 then a3 else 0))) 93 (zr (40 * i) 40 (m 93))) := by
  have h60 : ∀ (x : Int32) (mm : M), mm 92 = m 92 → mm 93 = m 93 → r_sheet_60 (nI i) (nI i) x mm = some (1, mset (mset mm 92 (upd (m 92) i x)) 93 (zr (40 * i) 40 (m 93))) := fun x mm h92 h93 => by
    unfold r_sheet_60 r_sheet_64
    rw [wr4 (p := 92) (by omega) hi, h92, Option.bind_some]
    generalize hm0 : mset mm 92 (upd (m 92) i x) = m0
    have h0 : m0 93 = m 93 := by rw [← hm0, mset_ne (by decide)]; exact h93
    have hloop := iter_seq (body := fun z : Int32 × M => r_sheet_64b (nI i) z.1 z.2) (fun j => (nI j, mset m0 93 (zr (40 * i) j (m 93)))) (r := mset m0 93 (zr (40 * i) 40 (m 93))) 40 (fun j hj => by
      show r_sheet_64b (nI i) (nI j) (mset m0 93 (zr (40 * i) j (m 93))) = _
      unfold r_sheet_64b
      rw [show (40 : Int32) = nI 40 from rfl, if_neg (nI_ge hj (by decide)), pk_mul, nI_add, wrI_at (show 40 * i + j < len 93 by rw [len93]; omega) (by rw [len93]; decide), mset_mset, mset_same, zr_step, Option.bind_some, ltE, nI_1]) (by
      show r_sheet_64b (nI i) (nI 40) _ = _
      unfold r_sheet_64b
      rw [if_pos (by decide)]) (by decide)
    rw [show ((0 : Int32), m0) = (fun j => (nI j, mset m0 93 (zr (40 * i) j (m 93)))) 0 from by show _ = (nI 0, mset m0 93 (zr (40 * i) 0 (m 93))); rw [zr_0, ← h0, mset_self]; rfl, hloop]
    rfl
  unfold r_sheet_39
  rw [wr4 (p := 91) (by omega) hi, Option.bind_some]
  by_cases c : 0 ≤ a2
  · rw [if_pos c, if_pos c]; exact h60 a3 _ (mset_ne (by decide)) (mset_ne (by decide))
  · rw [if_neg c, if_neg c]; exact h60 0 _ (mset_ne (by decide)) (mset_ne (by decide))
theorem m1_lt : ¬ (0 : Int32) ≤ -1 := by decide
theorem in_m1 {v : Int32} : (-1 ≤ v ∧ v ≤ 4) ↔ (v = -1 ∨ ∃ t, t ≤ 4 ∧ v = nI t) := by
  constructor
  · rintro ⟨h1, h2⟩
    by_cases c : 0 ≤ v
    · exact Or.inr ((in_le (v := v) (n := 4) (by decide)).mp ⟨c, h2⟩)
    · left
      apply Int32.le_antisymm
      · rw [Int32.le_iff_toInt_le] at c ⊢
        have e0 : (0 : Int32).toInt = 0 := by decide
        have e1 : (-1 : Int32).toInt = -1 := by decide
        rw [e0] at c
        rw [e1]
        omega
      · exact h1
  · rintro (rfl | ⟨t, h1, rfl⟩)
    · decide
    · refine ⟨Int32.le_trans (by decide) (nI_pos' (n := t) (by omega)), (nI_leI (b := 4) (by omega) (by decide)).mpr h1⟩
theorem ok_sheet {m : M} (hI : INV m) : OK_sheet INV m := fun y z v => by
  have hS := hI.2.2.2.1
  by_cases c1 : ¬ (0 ≤ y ∧ y ≤ 3)
  · refine ⟨-1, m, m, ?_, ?_, hI⟩
    · unfold k_sheet; rw [wi_f c1, Option.bind_some, if_pos rfl]
    · unfold r_sheet; rw [isSheet_f c1, Option.bind_some, if_pos rfl]
  have c1 := Classical.not_not.mp c1
  by_cases c2 : ¬ (-1 ≤ z ∧ z ≤ 4)
  · refine ⟨-1, m, m, ?_, ?_, hI⟩
    · unfold k_sheet; rw [wi_t c1, Option.bind_some, if_neg one_ne, wi_f c2, Option.bind_some, if_pos rfl]
    · unfold r_sheet; rw [isSheet_t c1, Option.bind_some, if_neg one_ne, in1_f c2, Option.bind_some, if_pos rfl]
  have c2 := Classical.not_not.mp c2
  have c1' := c1
  obtain ⟨i, hi, rfl⟩ := sheet_in.mp c1
  have hk : k_sheet (nI i) z v m = (if z = -1 then Option.bind (wrI m 60 (nI i) (-1)) (fun m5 => some (1, m5)) else (if v ≤ 40 then (if 0 ≤ v then Option.bind (wrI m 60 (nI i) z) (fun m3 => Option.bind (wrI m3 61 (nI i) v) (fun m4 => k_sheet_66 (nI i) v 0 m4)) else some (-14, m)) else some (-1, m))) := by
    unfold k_sheet; rw [wi_t c1', Option.bind_some, if_neg one_ne, wi_t c2, Option.bind_some, if_neg one_ne]
  have hr : ∀ mm : M, r_sheet (nI i) z v mm = (if z < 0 then r_sheet_28 (nI i) z v mm else (if v ≤ 40 then r_sheet_28 (nI i) z v mm else some (-1, mm))) := fun mm => by
    unfold r_sheet; rw [isSheet_t c1', Option.bind_some, if_neg one_ne, in1_t c2, Option.bind_some, if_neg one_ne]
  have hfr : ∀ (m1 : M) (x : Int32), (∀ p q, ¬ ((56 ≤ p ∧ p ≤ 61) ∨ (91 ≤ p ∧ p ≤ 93)) → m1 p q = m p q) → Ch 4 m (mset (mset (mset m1 91 (upd (m1 91) i z)) 92 (upd (m1 92) i x)) 93 (zr (40 * i) 40 (m1 93))) := fun m1 x hm p q q1 q0 => by
    have := ne4 q1 q0
    rw [mset_ne (by omega), mset_ne (by omega), mset_ne (by omega), hm p q this]
  rcases in_m1.mp c2 with rfl | ⟨t, ht, rfl⟩
  · obtain ⟨m1, hm1⟩ : ∃ m1, m1 = mset m 60 (upd (m 60) i (-1)) := ⟨_, rfl⟩
    have hne : ∀ p, p ≠ 60 → m1 p = m p := fun p hp => by rw [hm1, mset_ne hp]
    refine ⟨1, m1, mset (mset (mset m1 91 (upd (m1 91) i (-1))) 92 (upd (m1 92) i (if (0 : Int32) ≤ -1 then v else 0))) 93 (zr (40 * i) 40 (m1 93)), ?_, ?_, hI.c4 (hfr m1 _ (fun p q h => by rw [hne p (by omega)])) (fun i' hi' => ?_)⟩
    · rw [hk, if_pos rfl, wr4 (by omega) hi, Option.bind_some, hm1]
    · rw [hr, if_pos (by decide)]
      unfold r_sheet_28
      rw [if_pos (by decide), r_sheet_39_eq hi]
    · by_cases e : i' = i
      · subst e
        left
        refine ⟨?_, ?_⟩
        · rw [mset_ne (by decide), mset_ne (by decide), mset_ne (by decide), hm1, mset_same, upd_at]
        · rw [mset_ne (by decide), mset_ne (by decide), mset_same, upd_at]
      · have h60 : (mset (mset (mset m1 91 (upd (m1 91) i (-1))) 92 (upd (m1 92) i (if (0 : Int32) ≤ -1 then v else 0))) 93 (zr (40 * i) 40 (m1 93))) 60 i' = m 60 i' := by
          rw [mset_ne (by decide), mset_ne (by decide), mset_ne (by decide), hm1, mset_same, upd_off e]
        have h91 : (mset (mset (mset m1 91 (upd (m1 91) i (-1))) 92 (upd (m1 92) i (if (0 : Int32) ≤ -1 then v else 0))) 93 (zr (40 * i) 40 (m1 93))) 91 i' = m 91 i' := by
          rw [mset_ne (by decide), mset_ne (by decide), mset_same, upd_off e, hne 91 (by decide)]
        have h61 : (mset (mset (mset m1 91 (upd (m1 91) i (-1))) 92 (upd (m1 92) i (if (0 : Int32) ≤ -1 then v else 0))) 93 (zr (40 * i) 40 (m1 93))) 61 i' = m 61 i' := by
          rw [mset_ne (by decide), mset_ne (by decide), mset_ne (by decide), hne 61 (by decide)]
        have h92 : (mset (mset (mset m1 91 (upd (m1 91) i (-1))) 92 (upd (m1 92) i (if (0 : Int32) ≤ -1 then v else 0))) 93 (zr (40 * i) 40 (m1 93))) 92 i' = m 92 i' := by
          rw [mset_ne (by decide), mset_same, upd_off e, hne 92 (by decide)]
        rw [h60, h91, h61, h92]
        rcases hS i' hi' with h | ⟨t, n, a1, a2, a3, a4, a5, a6, a7⟩
        · exact Or.inl h
        · refine Or.inr ⟨t, n, a1, a2, a3, a4, a5, a6, fun j hj => ?_⟩
          rw [mset_ne (by omega), mset_ne (by omega), mset_ne (by omega), hne (56 + i') (by omega), mset_same, a7 j hj, hne 93 (by decide)]
          unfold zr
          rw [if_neg (by omega)]
  · have hz : ¬ nI t = -1 := fun q => by have := nI_pos' (n := t) (by omega); rw [q] at this; exact m1_lt this
    have hz2 : ¬ nI t < 0 := nI_pos (by omega)
    by_cases c3 : ¬ v ≤ 40
    · refine ⟨-1, m, m, by rw [hk, if_neg hz, if_neg c3], by rw [hr, if_neg hz2, if_neg c3], hI⟩
    have c3 := Classical.not_not.mp c3
    by_cases c4 : ¬ 0 ≤ v
    · refine ⟨-14, m, m, by rw [hk, if_neg hz, if_pos c3, if_neg c4], ?_, hI⟩
      rw [hr, if_neg hz2, if_pos c3]
      unfold r_sheet_28
      rw [if_neg hz2, if_neg c4]
    have c4 := Classical.not_not.mp c4
    obtain ⟨n, hn, rfl⟩ := (in_le (v := v) (n := 40) (by decide)).mp ⟨c4, c3⟩
    obtain ⟨m0, hm0⟩ : ∃ m0, m0 = mset (mset m 60 (upd (m 60) i (nI t))) 61 (upd (m 61) i (nI n)) := ⟨_, rfl⟩
    obtain ⟨m1, hm1⟩ : ∃ m1, m1 = mset m0 (56 + i) (zr 0 n (m0 (56 + i))) := ⟨_, rfl⟩
    have hne : ∀ p, p ≠ 60 → p ≠ 61 → p ≠ 56 + i → m1 p = m p := fun p x1 x2 x3 => by rw [hm1, mset_ne x3, hm0, mset_ne x2, mset_ne x1]
    have h160 : m1 60 = upd (m 60) i (nI t) := by rw [hm1, mset_ne (by omega), hm0, mset_ne (by decide), mset_same]
    have h161 : m1 61 = upd (m 61) i (nI n) := by rw [hm1, mset_ne (by omega), hm0, mset_same]
    have h156 : m1 (56 + i) = zr 0 n (m0 (56 + i)) := by rw [hm1, mset_same]
    have h0t : (0 : Int32) ≤ nI t := nI_pos' (by omega)
    have hloop := iter_seq (body := fun z : Int32 × M => k_sheet_66b (nI i) (nI n) z.1 z.2) (fun j => (nI j, mset m0 (56 + i) (zr 0 j (m0 (56 + i))))) (r := m1) n (fun j hj => by
      show k_sheet_66b (nI i) (nI n) (nI j) (mset m0 (56 + i) (zr 0 j (m0 (56 + i)))) = _
      have hst := zr_step (o := 0) (i := j) (f := m0 (56 + i))
      rw [Nat.zero_add] at hst
      unfold k_sheet_66b
      rw [if_neg (nI_ge hj (by omega)), sheets_at hi, Option.bind_some, wrI_at (show j < len (56 + i) by rw [len56 hi]; omega) (by rw [len56 hi]; decide), mset_mset, mset_same, hst, Option.bind_some, ltE, nI_1]) (by
      show k_sheet_66b (nI i) (nI n) (nI n) _ = _
      unfold k_sheet_66b
      rw [if_pos (Int32.le_refl _), hm1]) (by omega)
    have hk66 : k_sheet_66 (nI i) (nI n) 0 m0 = some (1, m1) := by
      unfold k_sheet_66
      rw [show ((0 : Int32), m0) = (fun j => (nI j, mset m0 (56 + i) (zr 0 j (m0 (56 + i))))) 0 from by show _ = (nI 0, mset m0 (56 + i) (zr 0 0 (m0 (56 + i)))); rw [zr_0, mset_self]; rfl, hloop]
      rfl
    obtain ⟨m2, hm2⟩ : ∃ m2, m2 = mset (mset (mset m1 91 (upd (m1 91) i (nI t))) 92 (upd (m1 92) i (if (0 : Int32) ≤ nI t then nI n else 0))) 93 (zr (40 * i) 40 (m1 93)) := ⟨_, rfl⟩
    have g60 : m2 60 = upd (m 60) i (nI t) := by rw [hm2, mset_ne (by decide), mset_ne (by decide), mset_ne (by decide), h160]
    have g61 : m2 61 = upd (m 61) i (nI n) := by rw [hm2, mset_ne (by decide), mset_ne (by decide), mset_ne (by decide), h161]
    have g91 : m2 91 = upd (m 91) i (nI t) := by rw [hm2, mset_ne (by decide), mset_ne (by decide), mset_same, hne 91 (by decide) (by decide) (by omega)]
    have g92 : m2 92 = upd (m 92) i (nI n) := by rw [hm2, mset_ne (by decide), mset_same, hne 92 (by decide) (by decide) (by omega), if_pos h0t]
    have g93 : m2 93 = zr (40 * i) 40 (m 93) := by rw [hm2, mset_same, hne 93 (by decide) (by decide) (by omega)]
    have g56 : ∀ k, k < 4 → m2 (56 + k) = m1 (56 + k) := fun k hk => by rw [hm2, mset_ne (by omega), mset_ne (by omega), mset_ne (by omega)]
    refine ⟨1, m1, m2, ?_, ?_, hI.c4 (by rw [hm2]; exact hfr m1 _ (fun p q h => by rw [hne p (by omega) (by omega) (by omega)])) (fun i' hi' => ?_)⟩
    · rw [hk, if_neg hz, if_pos c3, if_pos c4, wr4 (p := 60) (by omega) hi, Option.bind_some, wr4 (p := 61) (by omega) hi, mset_ne (show (61 : Nat) ≠ 60 by decide), Option.bind_some, ← hm0, hk66]
    · rw [hr, if_neg hz2, if_pos c3]
      unfold r_sheet_28
      rw [if_neg hz2, if_pos c4, r_sheet_39_eq hi, hm2]
    · rw [g60, g61, g91, g92, g93, g56 i' hi']
      by_cases e : i' = i
      · subst e
        rw [upd_at, upd_at, upd_at, upd_at]
        refine Or.inr ⟨t, n, ht, hn, rfl, rfl, rfl, rfl, fun j hj => ?_⟩
        rw [h156]
        unfold zr
        rw [if_pos (by omega), if_pos (by omega)]
      · rw [upd_off e, upd_off e, upd_off e, upd_off e, hne (56 + i') (by omega) (by omega) (by omega)]
        rcases hS i' hi' with h | ⟨t, n, a1, a2, a3, a4, a5, a6, a7⟩
        · exact Or.inl h
        · refine Or.inr ⟨t, n, a1, a2, a3, a4, a5, a6, fun j hj => ?_⟩
          rw [a7 j hj]
          unfold zr
          rw [if_neg (by omega)]
theorem narrowed_eq {v s : Int32} {m m' : M} : ∃ x, k_narrowed v s m = some x ∧ r_narrowed v s m' = some x := by
  unfold k_narrowed r_narrowed
  by_cases c0 : s = 0
  · rw [if_pos c0, if_pos c0]; exact ⟨_, rfl, rfl⟩
  · rw [if_neg c0, if_neg c0]
    by_cases c1 : s = 1
    · rw [if_pos c1, if_pos c1]; exact ⟨_, rfl, rfl⟩
    · rw [if_neg c1, if_neg c1]
      by_cases c4 : s = 4
      · rw [if_neg (by rw [c4]; decide), if_neg (by rw [c4]; decide), if_pos c4]
        split <;> exact ⟨_, rfl, rfl⟩
      · rw [if_neg c4, ite_self, ite_self]
        exact ⟨_, rfl, rfl⟩
theorem isPlace_eq {m : M} {i n : Nat} {z : Int32} (hi : i < 4) (h : m 61 i = nI n) : k_isPlace (nI i) z m = some (b01 (decide (0 ≤ z ∧ z ≤ nI n - 1))) := by
  unfold k_isPlace
  rw [rd4 (p := 61) (by omega) hi, h, Option.bind_some, k_within_eq, Option.bind_some, and1]
theorem sort_ne {t : Nat} (h : t ≤ 4) : ¬ nI t = -1 := fun q => by have := nI_pos' (n := t) (by omega); rw [q] at this; exact m1_lt this
theorem ok_write {m : M} (hI : INV m) : OK_write INV m := fun y z v => by
  have hS := hI.2.2.2.1
  by_cases c1 : ¬ (0 ≤ y ∧ y ≤ 3)
  · refine ⟨-1, m, m, ?_, ?_, hI⟩
    · unfold k_write; rw [wi_f c1, Option.bind_some, if_pos rfl]
    · unfold r_write; rw [isSheet_f c1, Option.bind_some, if_pos rfl]
  have c1 := Classical.not_not.mp c1
  have c1' := c1
  obtain ⟨i, hi, rfl⟩ := sheet_in.mp c1
  unfold k_write r_write
  rw [wi_t c1', Option.bind_some, if_neg one_ne, rd4 (p := 60) (by omega) hi, Option.bind_some]
  rcases hS i hi with ⟨s1, s2⟩ | ⟨t, n, a1, a2, a3, a4, a5, a6, a7⟩
  · refine ⟨-11, m, m, by rw [s1, if_pos rfl], ?_, hI⟩
    rw [isSheet_t c1', Option.bind_some, if_neg one_ne, rd4 (p := 91) (by omega) hi, Option.bind_some, s2, if_neg m1_lt]
  · rw [a3, if_neg (sort_ne a1), isPlace_eq hi a5, Option.bind_some]
    by_cases c2 : 0 ≤ z ∧ z ≤ nI n - 1
    · rw [decide_eq_true c2, b01_t, sheets_at hi, Option.bind_some, Option.bind_some]
      obtain ⟨x, x1, x2⟩ := narrowed_eq (v := v) (s := nI t) (m := m) (m' := m)
      obtain ⟨k, hk, rfl⟩ := (in_nat (by omega)).mp c2
      obtain ⟨m1, hm1⟩ : ∃ m1, m1 = mset m (56 + i) (upd (m (56 + i)) k x) := ⟨_, rfl⟩
      have hne : ∀ p, p ≠ 56 + i → m1 p = m p := fun p hp => by rw [hm1, mset_ne hp]
      obtain ⟨m2, hm2⟩ : ∃ m2, m2 = mset m1 93 (upd (m 93) (40 * i + k) x) := ⟨_, rfl⟩
      have hne2 : ∀ p, p ≠ 93 → m2 p = m1 p := fun p hp => by rw [hm2, mset_ne hp]
      refine ⟨1, m1, m2, ?_, ?_, hI.c4 (fun p q q1 q0 => ?_) (fun i' hi' => ?_)⟩
      · rw [x1, Option.bind_some, wrI_at (by rw [len56 hi]; omega) (by rw [len56 hi]; decide), Option.bind_some, hm1]
      · rw [isSheet_t c1', Option.bind_some, if_neg one_ne, rd4 (p := 91) (by omega) hi, Option.bind_some, hne 91 (by omega), a4, if_pos (nI_pos' (by omega)), rd4 (p := 92) (by omega) hi, Option.bind_some, hne 92 (by omega), a6, in1_t c2, Option.bind_some, if_neg one_ne, Option.bind_some, show r_narrowed v (nI t) m1 = some x from x2, Option.bind_some, show (40 : Int32) = nI 40 from rfl, pk_mul, nI_add, wrI_at (show 40 * i + k < len 93 by rw [len93]; omega) (by rw [len93]; decide), hne 93 (by omega), Option.bind_some, hm2]
      · have := ne4 q1 q0
        rw [hne2 p (by omega), hne p (by omega)]
      · rw [hne2 60 (by decide), hne2 61 (by decide), hne2 91 (by decide), hne2 92 (by decide), hne2 (56 + i') (by omega), hne 60 (by omega), hne 61 (by omega), hne 91 (by omega), hne 92 (by omega), hm2, mset_same]
        rcases hS i' hi' with h | ⟨t', n', d1, d2, d3, d4, d5, d6, d7⟩
        · exact Or.inl h
        · refine Or.inr ⟨t', n', d1, d2, d3, d4, d5, d6, fun j hj => ?_⟩
          by_cases e : i' = i
          · subst e
            rw [hm1, mset_same]
            by_cases e2 : j = k
            · subst e2; rw [upd_at, upd_at]
            · rw [upd_off e2, upd_off (by omega)]; exact d7 j hj
          · rw [hne (56 + i') (by omega), upd_off (by omega)]; exact d7 j hj
    · rw [decide_eq_false c2, b01_f]
      refine ⟨-12, m, m, rfl, ?_, hI⟩
      rw [isSheet_t c1', Option.bind_some, if_neg one_ne, rd4 (p := 91) (by omega) hi, Option.bind_some, a4, if_pos (nI_pos' (by omega)), rd4 (p := 92) (by omega) hi, Option.bind_some, a6, in1_f c2, Option.bind_some, if_pos rfl]
