/-! calls that write a cell of the board, and calls that read it -/
theorem now_cells {m m2 : M} {b' : Nat → Int32} {rs : List Rl} (hR : RR (m 77) rs) (hKR : KR m rs) (hWR : WR (m 77)) (hKP : KP m (m 77)) (hsc : m2 1 4 = b' 2) (hW' : WF b') (hK : KB m2 b') (hb2 : m2 77 = b') (h7 : b' 7 = m 77 7) (h8 : b' 8 = m 77 8) (hhi : ∀ j, 67 ≤ j → b' j = m 77 j) (hf : ∀ p k, p ≠ 1 → ¬ (10 ≤ p ∧ p ≤ 16) → p ≠ 77 → m2 p k = m p k) : NOW m2 ∧ Ch 1 m m2 := by
  have hrow : ∀ p, p = 3 ∨ p = 4 ∨ (26 ≤ p ∧ p ≤ 33) → m2 p = m p := fun p hp => funext fun k => hf p k (by omega) (by omega) (by omega)
  refine ⟨⟨rs, ?_, ?_, ?_, ?_, ?_, ?_, ?_⟩, fun p k q1 q0 => ?_⟩
  · rw [hb2]; exact hW'
  · rw [hb2]; exact hK
  · rw [hb2]; exact hsc
  · rw [hb2]
    exact ⟨h7.trans hR.1, hR.2.congr (fun r _ => ⟨hhi _ (by omega), hhi _ (by omega), hhi _ (by omega)⟩) (fun j _ => hhi _ (by omega))⟩
  · unfold KR at *
    rw [hrow 3 (by omega), hrow 26 (by omega), hrow 27 (by omega), hrow 28 (by omega), hrow 29 (by omega)]
    exact hKR
  · rw [hb2]
    refine ⟨by rw [h8]; exact hWR.1, fun r hr hr2 => ?_⟩
    rw [hhi _ (by omega)]
    exact hWR.2 r hr (by unfold repN at *; rw [h8] at hr2; exact hr2)
  · rw [hb2]
    refine ⟨by rw [hrow 4 (by omega), h8]; exact hKP.1, fun r hr hr2 => ?_⟩
    rw [hrow 30 (by omega), hrow 31 (by omega), hrow 32 (by omega), hrow 33 (by omega), hhi _ (by omega), hhi _ (by omega), hhi _ (by omega), hhi _ (by omega)]
    exact hKP.2 r hr (by unfold repN at *; rw [h8] at hr2; exact hr2)
  · have hn := ne1 q1 q0
    exact hf p k (by omega) (by omega) (by omega)
theorem now_cell {m : M} {p c j : Nat} {v : Int32} (hI : INV m) (hp : KBP p c j) (hW' : WF (m 77) → WF (upd (m 77) j v)) : INV (mset (mset m p (upd (m p) c v)) 77 (upd (m 77) j v)) := by
  obtain ⟨rs, h1, h2, h3, h4, h5, h6, h7⟩ := hI.1
  have hj : j < 67 ∧ j ≠ 7 ∧ j ≠ 8 ∧ j ≠ 2 ∧ p ≠ 77 ∧ (p = 1 ∨ (10 ≤ p ∧ p ≤ 16)) ∧ ¬ (p = 1 ∧ c = 4) := by unfold KBP at hp; omega
  obtain ⟨n1, n2⟩ := now_cells (m := m) (m2 := mset (mset m p (upd (m p) c v)) 77 (upd (m 77) j v)) (b' := upd (m 77) j v) h4 h5 h6 h7 (by
    rw [mset_ne (by decide), upd_off (by omega), ← h3]
    by_cases e : p = 1
    · subst e; rw [mset_same, upd_off (by omega)]
    · rw [mset_ne (Ne.symm e)]) (hW' h1) ((h2.wr hp).cong (fun p' c' j' hp' => by rw [mset_ne (by unfold KBP at hp'; omega)]) (by rw [mset_ne (by decide)])) mset_same (upd_off (by omega)) (upd_off (by omega)) (fun i hi => upd_off (by omega)) (fun q k x1 x2 x3 => by rw [mset_ne x3, mset_ne (by omega)])
  exact hI.c1 n2 n1
theorem in1_t {v a b : Int32} {m : M} (h : a ≤ v ∧ v ≤ b) : r_in1 v a b m = some 1 := by rw [r_in1_eq, if_pos h]
theorem in1_f {v a b : Int32} {m : M} (h : ¬ (a ≤ v ∧ v ≤ b)) : r_in1 v a b m = some 0 := by rw [r_in1_eq, if_neg h]
theorem wi_t {v a b : Int32} {m : M} (h : a ≤ v ∧ v ≤ b) : k_within v a b m = some 1 := by rw [k_within_eq, if_pos h]
theorem wi_f {v a b : Int32} {m : M} (h : ¬ (a ≤ v ∧ v ≤ b)) : k_within v a b m = some 0 := by rw [k_within_eq, if_neg h]
theorem one_ne : ¬ (1 : Int32) = 0 := by decide
theorem isMem_f {m : M} {b : Nat → Int32} (hK : KB m b) {y : Int32} (h : ¬ memB b y = true) : b_isMember y m = some 0 := by rw [b_isMember_eq hK, Bool.eq_false_iff.mpr h]; rfl
theorem isMem_t {m : M} {b : Nat → Int32} (hK : KB m b) {y : Int32} (h : memB b y = true) : b_isMember y m = some 1 := by rw [b_isMember_eq hK, h]; rfl
theorem risMem_f {m : M} {b : Nat → Int32} (hb : m 77 = b) {y : Int32} (h : ¬ memB b y = true) : r_isMember y m = some 0 := by rw [r_isMember_eq hb, Bool.eq_false_iff.mpr h]; rfl
theorem risMem_t {m : M} {b : Nat → Int32} (hb : m 77 = b) {y : Int32} (h : memB b y = true) : r_isMember y m = some 1 := by rw [r_isMember_eq hb, h]; rfl
/-- the class writes a cell of a place of six or sixteen -/
theorem exch_t {m : M} {p c n : Nat} {v x : Int32} (hl : lenI p = some (nI n)) (hn : len p = n) (hn2 : n < 100) (hc : c < n) (hv : 0 ≤ v ∧ v ≤ x) : k_exchanged p (nI c) v x m = some (m p c, mset m p (upd (m p) c v)) := by
  unfold k_exchanged
  rw [hl, Option.bind_some, wi_t ((in_nat (by omega)).mpr ⟨c, hc, rfl⟩), Option.bind_some, if_neg one_ne, wi_t hv, Option.bind_some, if_neg one_ne, rdI_at (by rw [hn]; exact hc) (by rw [hn]; omega), Option.bind_some, wrI_at (by rw [hn]; exact hc) (by rw [hn]; omega)]
  rfl
theorem exch_fv {m : M} {p c n : Nat} {v x : Int32} (hl : lenI p = some (nI n)) (hn2 : n < 100) (hc : c < n) (hv : ¬ (0 ≤ v ∧ v ≤ x)) : k_exchanged p (nI c) v x m = some (-1, m) := by
  unfold k_exchanged
  rw [hl, Option.bind_some, wi_t ((in_nat (by omega)).mpr ⟨c, hc, rfl⟩), Option.bind_some, if_neg one_ne, wi_f hv, Option.bind_some, if_pos rfl]
theorem exch_fc {m : M} {p n : Nat} {y v x : Int32} (hl : lenI p = some (nI n)) (hn2 : n < 100) (hc : ¬ ∃ c, c < n ∧ y = nI c) : k_exchanged p y v x m = some (-1, m) := by
  unfold k_exchanged
  rw [hl, Option.bind_some, wi_f (fun q => hc ((in_nat (by omega)).mp q)), Option.bind_some, if_pos rfl]
theorem lenI_of {p n : Nat} (h : len p = n) (h0 : 0 < n) : lenI p = some (nI n) := by
  unfold lenI
  rw [h, if_pos h0]
  rfl
theorem lI10 : lenI 10 = some (nI 6) := lenI_of (by decide) (by decide)
theorem lI11 : lenI 11 = some (nI 6) := lenI_of (by decide) (by decide)
theorem lI12 : lenI 12 = some (nI 6) := lenI_of (by decide) (by decide)
theorem lI13 : lenI 13 = some (nI 6) := lenI_of (by decide) (by decide)
theorem lI14 : lenI 14 = some (nI 16) := lenI_of (by decide) (by decide)
theorem lI15 : lenI 15 = some (nI 6) := lenI_of (by decide) (by decide)
theorem lI16 : lenI 16 = some (nI 6) := lenI_of (by decide) (by decide)
/-- the reference writes a cell of its row -/
theorem becomes_eq {m : M} {j : Nat} {v : Int32} (hj : j < 315) : r_becomes (nI j) v m = some (m 77 j, mset m 77 (upd (m 77) j v)) := by
  unfold r_becomes
  rw [rd77 hj, Option.bind_some, wr77 hj]
  rfl
theorem n7c {m : M} {p : Nat} {f : Nat → Int32} (h : p ≠ 77) : (mset m p f) 77 = m 77 := mset_ne (Ne.symm h)
theorem le_bd {v : Int32} {n : Nat} (hn : n < 2 ^ 31) (h : 0 ≤ v ∧ v ≤ nI n) : bd v n := by
  obtain ⟨j, h1, h2⟩ := (in_le hn).mp h
  exact ⟨j, h1, h2⟩
theorem le_bd1 {v : Int32} {n : Nat} (hn : n < 2 ^ 31) (h : 1 ≤ v ∧ v ≤ nI n) : bd v n := le_bd hn ⟨Int32.le_trans (by decide) h.1, h.2⟩
theorem bench_in {y : Int32} : (0 ≤ y ∧ y ≤ 5) ↔ ∃ c, c < 6 ∧ y = nI c := by
  rw [show (5 : Int32) = nI 5 from rfl, in_le (by decide)]
  exact ⟨fun ⟨j, h1, h2⟩ => ⟨j, by omega, h2⟩, fun ⟨j, h1, h2⟩ => ⟨j, by omega, h2⟩⟩
theorem ship_in {y : Int32} : (0 ≤ y ∧ y ≤ 15) ↔ ∃ c, c < 16 ∧ y = nI c := by
  rw [show (15 : Int32) = nI 15 from rfl, in_le (by decide)]
  exact ⟨fun ⟨j, h1, h2⟩ => ⟨j, by omega, h2⟩, fun ⟨j, h1, h2⟩ => ⟨j, by omega, h2⟩⟩
theorem ok_seed {m : M} (hI : INV m) : OK_seed INV m := fun y => by
  obtain ⟨rs, h1, h2, h3, h4, h5, h6, h7⟩ := hI.1
  refine ⟨m 77 5, mset m 1 (upd (m 1) 5 y), mset (mset m 1 (upd (m 1) 5 y)) 77 (upd (m 77) 5 y), ?_, ?_, now_cell hI (p := 1) (c := 5) (j := 5) (by unfold KBP; omega) (fun h => WF_upd h)⟩
  · unfold k_seed
    rw [ltE, ltE, h2.f5]; rfl
  · unfold r_seed
    rw [show (5 : Int32) = nI 5 from rfl, becomes_eq (by decide), Option.bind_some, n7c (by decide)]
theorem ok_ship {m : M} (hI : INV m) : OK_ship INV m := fun y v => by
  obtain ⟨rs, h1, h2, h3, h4, h5, h6, h7⟩ := hI.1
  unfold k_ship r_ship
  by_cases c1 : 0 ≤ y ∧ y ≤ 15
  · obtain ⟨c, hc, rfl⟩ := ship_in.mp c1
    by_cases c2 : 0 ≤ v ∧ v ≤ 15
    · refine ⟨m 77 (9 + c), mset m 14 (upd (m 14) c v), mset (mset m 14 (upd (m 14) c v)) 77 (upd (m 77) (9 + c) v), ?_, ?_, now_cell hI (p := 14) (c := c) (j := 9 + c) (by unfold KBP; omega) (fun h => WF_upd h (h9 := fun _ _ _ => le_bd (n := 15) (by decide) c2))⟩
      · rw [exch_t lI14 (by decide) (by decide) hc c2, Option.bind_some, h2.ship hc]
      · rw [in1_t c1, Option.bind_some, if_neg one_ne, in1_t c2, Option.bind_some, if_neg one_ne, n9, nI_add, becomes_eq (by omega), Option.bind_some, n7c (by decide)]
    · refine ⟨-1, m, m, ?_, ?_, hI⟩
      · rw [exch_fv lI14 (by decide) hc c2]; rfl
      · rw [in1_t c1, Option.bind_some, if_neg one_ne, in1_f c2, Option.bind_some, if_pos rfl]
  · refine ⟨-1, m, m, ?_, ?_, hI⟩
    · rw [exch_fc lI14 (by decide) (fun q => c1 (ship_in.mpr q))]; rfl
    · rw [in1_f c1, Option.bind_some, if_pos rfl]
theorem ok_remake {m : M} (hI : INV m) : OK_remake INV m := fun y v => by
  obtain ⟨rs, h1, h2, h3, h4, h5, h6, h7⟩ := hI.1
  unfold k_remake r_remake
  by_cases c1 : memB (m 77) y = true
  · have c1' := c1
    obtain ⟨k, hk1, hk, rfl⟩ := h1.mem c1
    rw [isMem_t h2 c1', Option.bind_some, if_neg one_ne]
    by_cases c2 : 1 ≤ v ∧ v ≤ 5
    · refine ⟨m 77 (37 + 5 * k + 0), mset m 10 (upd (m 10) k v), mset (mset m 10 (upd (m 10) k v)) 77 (upd (m 77) (37 + 5 * k + 0) v), ?_, ?_, now_cell hI (p := 10) (c := k) (j := 37 + 5 * k + 0) (by unfold KBP; omega) (fun h => WF_upd h (m0 := fun _ _ _ => le_bd1 (n := 5) (by decide) c2))⟩
      · rw [wi_t c2, Option.bind_some, if_neg one_ne, exch_t lI10 (by decide) (by decide) hk ⟨Int32.le_trans (by decide) c2.1, c2.2⟩, Option.bind_some, h2.kind hk]
      · rw [risMem_t (n7c (by decide)) c1', Option.bind_some, if_neg one_ne, in1_t c2, Option.bind_some, if_neg one_ne, n37, n5, pk_mul, nI_add, becomes_eq (by omega), Option.bind_some, n7c (by decide)]
        rfl
    · refine ⟨-1, m, m, ?_, ?_, hI⟩
      · rw [wi_f c2, Option.bind_some, if_pos rfl]
      · rw [risMem_t rfl c1', Option.bind_some, if_neg one_ne, in1_f c2, Option.bind_some, if_pos rfl]
  · refine ⟨-1, m, m, ?_, ?_, hI⟩
    · rw [isMem_f h2 c1, Option.bind_some, if_pos rfl]
    · rw [risMem_f rfl c1, Option.bind_some, if_pos rfl]
theorem ok_bench {m : M} (hI : INV m) : OK_bench INV m := fun y z v => by
  obtain ⟨rs, h1, h2, h3, h4, h5, h6, h7⟩ := hI.1
  unfold k_bench r_bench r_bench_35 r_isBench r_isDigit
  have hbad : ¬ (∃ c, c < 6 ∧ y = nI c) ∨ ¬ (0 ≤ v ∧ v ≤ 9) → r_bench y z v m = some (-1, m) := fun q => by
    unfold r_bench r_bench_35 r_isBench r_isDigit
    by_cases c1 : 0 ≤ y ∧ y ≤ 5
    · have c3 : ¬ (0 ≤ v ∧ v ≤ 9) := q.resolve_left (fun w => w (bench_in.mp c1))
      rw [in1_t c1, in1_f c3]
      by_cases c2 : 0 ≤ z ∧ z ≤ 1
      · rw [in1_t c2]; rfl
      · rw [in1_f c2]; rfl
    · rw [in1_f c1]; rfl
  have hz0 : (0 : Int32) ≤ 0 ∧ (0 : Int32) ≤ 1 := by decide
  have hz1 : (0 : Int32) ≤ 1 ∧ (1 : Int32) ≤ 1 := by decide
  by_cases e0 : z = 0
  · subst e0
    by_cases c : (∃ c, c < 6 ∧ y = nI c) ∧ (0 ≤ v ∧ v ≤ 9)
    · obtain ⟨⟨c, hc, rfl⟩, c2⟩ := c
      refine ⟨m 77 (25 + c), mset m 15 (upd (m 15) c v), mset (mset m 15 (upd (m 15) c v)) 77 (upd (m 77) (25 + c) v), ?_, ?_, now_cell hI (p := 15) (c := c) (j := 25 + c) (by unfold KBP; omega) (fun h => WF_upd h (h25 := fun _ _ _ => le_bd (n := 9) (by decide) c2))⟩
      · rw [if_pos rfl, exch_t lI15 (by decide) (by decide) hc c2, Option.bind_some, h2.hush hc]
      · rw [in1_t (bench_in.mpr ⟨c, hc, rfl⟩), Option.bind_some, Option.bind_some, if_neg (by decide), in1_t hz0, Option.bind_some, if_neg one_ne, in1_t c2, Option.bind_some, Option.bind_some, if_neg (by decide), if_pos rfl, show (25 : Int32) = nI 25 by decide, nI_add, becomes_eq (by omega), Option.bind_some, n7c (by decide)]
    · have c' : ¬ (∃ c, c < 6 ∧ y = nI c) ∨ ¬ (0 ≤ v ∧ v ≤ 9) := Classical.not_and_iff_not_or_not.mp c
      refine ⟨-1, m, m, ?_, hbad c', hI⟩
      rw [if_pos rfl]
      by_cases c1 : ∃ c, c < 6 ∧ y = nI c
      · obtain ⟨c0, hc, rfl⟩ := c1
        rw [exch_fv lI15 (by decide) hc (fun q => c ⟨⟨c0, hc, rfl⟩, q⟩)]; rfl
      · rw [exch_fc lI15 (by decide) c1]; rfl
  · rw [if_neg e0]
    by_cases e1 : z = 1
    · subst e1
      by_cases c : (∃ c, c < 6 ∧ y = nI c) ∧ (0 ≤ v ∧ v ≤ 9)
      · obtain ⟨⟨c, hc, rfl⟩, c2⟩ := c
        refine ⟨m 77 (31 + c), mset m 16 (upd (m 16) c v), mset (mset m 16 (upd (m 16) c v)) 77 (upd (m 77) (31 + c) v), ?_, ?_, now_cell hI (p := 16) (c := c) (j := 31 + c) (by unfold KBP; omega) (fun h => WF_upd h (h31 := fun _ _ _ => le_bd (n := 9) (by decide) c2))⟩
        · rw [if_pos rfl, exch_t lI16 (by decide) (by decide) hc c2, Option.bind_some, h2.zeal hc]
        · rw [in1_t (bench_in.mpr ⟨c, hc, rfl⟩), Option.bind_some, Option.bind_some, if_neg (by decide), in1_t hz1, Option.bind_some, if_neg one_ne, in1_t c2, Option.bind_some, Option.bind_some, if_neg (by decide), if_neg e0, n31, nI_add, becomes_eq (by omega), Option.bind_some, n7c (by decide)]
      · have c' : ¬ (∃ c, c < 6 ∧ y = nI c) ∨ ¬ (0 ≤ v ∧ v ≤ 9) := Classical.not_and_iff_not_or_not.mp c
        refine ⟨-1, m, m, ?_, hbad c', hI⟩
        rw [if_pos rfl]
        by_cases c1 : ∃ c, c < 6 ∧ y = nI c
        · obtain ⟨c0, hc, rfl⟩ := c1
          rw [exch_fv lI16 (by decide) hc (fun q => c ⟨⟨c0, hc, rfl⟩, q⟩)]; rfl
        · rw [exch_fc lI16 (by decide) c1]; rfl
    · refine ⟨-1, m, m, by rw [if_neg e1], ?_, hI⟩
      by_cases c1 : 0 ≤ y ∧ y ≤ 5
      · rw [in1_t c1, in1_f (v := z) (fun q => by
          obtain ⟨j, hj, rfl⟩ := (in_le (v := z) (n := 1) (by decide)).mp q
          rcases (show j = 0 ∨ j = 1 by omega) with rfl | rfl
          · exact e0 rfl
          · exact e1 rfl)]; rfl
      · rw [in1_f c1]; rfl
theorem isBench_t {y : Int32} {m : M} (h : 0 ≤ y ∧ y ≤ 5) : r_isBench y m = some 1 := by unfold r_isBench; rw [in1_t h]; rfl
theorem isBench_f {y : Int32} {m : M} (h : ¬ (0 ≤ y ∧ y ≤ 5)) : r_isBench y m = some 0 := by unfold r_isBench; rw [in1_f h]; rfl
theorem ok_benchOf {m : M} (hI : INV m) : OK_benchOf INV m := fun y z => by
  obtain ⟨rs, h1, h2, h3, h4, h5, h6, h7⟩ := hI.1
  by_cases c1 : 0 ≤ y ∧ y ≤ 5
  · by_cases c2 : 0 ≤ z ∧ z ≤ 1
    · obtain ⟨c, hc, rfl⟩ := bench_in.mp c1
      refine ⟨if z = 0 then m 77 (25 + c) else m 77 (31 + c), ?_, ?_, hI⟩
      · unfold k_benchOf
        rw [wi_t c1, Option.bind_some, if_neg one_ne, wi_t c2, Option.bind_some, if_neg one_ne, rd6 (p := 15) (by decide) hc, rd6 (p := 16) (by decide) hc, h2.hush hc, h2.zeal hc, Option.bind_some, Option.bind_some]
        split <;> rfl
      · unfold r_benchOf r_benchOf_31
        rw [isBench_t c1, Option.bind_some, if_neg one_ne, in1_t c2, Option.bind_some, if_neg one_ne, show (25 : Int32) = nI 25 by decide, n31, nI_add, nI_add, rd77 (j := 25 + c) (by omega), rd77 (j := 31 + c) (by omega), Option.bind_some, Option.bind_some]
        split <;> rfl
    · refine ⟨-1, ?_, ?_, hI⟩
      · unfold k_benchOf
        rw [wi_t c1, Option.bind_some, if_neg one_ne, wi_f c2, Option.bind_some, if_pos rfl]
      · unfold r_benchOf
        rw [isBench_t c1, Option.bind_some, if_neg one_ne, in1_f c2, Option.bind_some, if_pos rfl]
  · refine ⟨-1, ?_, ?_, hI⟩
    · unfold k_benchOf
      rw [wi_f c1, Option.bind_some, if_pos rfl]
    · unfold r_benchOf
      rw [isBench_f c1, Option.bind_some, if_pos rfl]
theorem ok_rock {m : M} (hI : INV m) : OK_rock INV m := fun y v => by
  obtain ⟨rs, h1, h2, h3, h4, h5, h6, h7⟩ := hI.1
  unfold k_rock k_rock_32 r_rock r_rock_23 r_rock_39
  by_cases e0 : y = 0
  · subst e0
    rw [if_pos rfl]
    by_cases c : 0 ≤ v ∧ v ≤ 9
    · refine ⟨m 77 3, mset m 1 (upd (m 1) 2 v), mset (mset m 1 (upd (m 1) 2 v)) 77 (upd (m 77) 3 v), ?_, ?_, now_cell hI (p := 1) (c := 2) (j := 3) (by unfold KBP; omega) (fun h => WF_upd h (h3 := fun _ => le_bd (n := 9) (by decide) c))⟩
      · rw [wi_t c, Option.bind_some, if_neg one_ne, ltE, ltE, h2.f2]; rfl
      · rw [in1_t (by decide), Option.bind_some, if_neg one_ne, if_pos rfl, in1_t c, Option.bind_some, if_neg one_ne, if_pos rfl, n3, becomes_eq (by decide), Option.bind_some, n7c (by decide)]
    · refine ⟨-1, m, m, ?_, ?_, hI⟩
      · rw [wi_f c, Option.bind_some, if_pos rfl, if_neg (by decide)]
      · rw [in1_t (by decide), Option.bind_some, if_neg one_ne, if_pos rfl, in1_f c, Option.bind_some, if_pos rfl]
  · rw [if_neg e0]
    by_cases e1 : y = 1
    · subst e1
      rw [if_pos rfl]
      by_cases c : 0 ≤ v ∧ v ≤ 999
      · refine ⟨m 77 4, mset m 1 (upd (m 1) 3 v), mset (mset m 1 (upd (m 1) 3 v)) 77 (upd (m 77) 4 v), ?_, ?_, now_cell hI (p := 1) (c := 3) (j := 4) (by unfold KBP; omega) (fun h => WF_upd h (h4 := fun _ => le_bd (n := 999) (by decide) c))⟩
        · rw [wi_t c, Option.bind_some, if_neg one_ne, ltE, ltE, h2.f3]; rfl
        · rw [in1_t (by decide), Option.bind_some, if_neg one_ne, if_neg e0, in1_t c, Option.bind_some, if_neg one_ne, if_neg e0, n4, becomes_eq (by decide), Option.bind_some, n7c (by decide)]
      · refine ⟨-1, m, m, ?_, ?_, hI⟩
        · rw [wi_f c, Option.bind_some, if_pos rfl]
        · rw [in1_t (by decide), Option.bind_some, if_neg one_ne, if_neg e0, in1_f c, Option.bind_some, if_pos rfl]
    · refine ⟨-1, m, m, by rw [if_neg e1], ?_, hI⟩
      rw [in1_f (v := y) (fun q => by
        obtain ⟨j, hj, rfl⟩ := (in_le (v := y) (n := 1) (by decide)).mp q
        rcases (show j = 0 ∨ j = 1 by omega) with rfl | rfl
        · exact e0 rfl
        · exact e1 rfl), Option.bind_some, if_pos rfl]
theorem ok_ends {m : M} (hI : INV m) : OK_ends INV m := fun v => by
  obtain ⟨rs, h1, h2, h3, h4, h5, h6, h7⟩ := hI.1
  unfold k_ends r_ends
  by_cases c : 1 ≤ v ∧ v ≤ 16
  · rw [wi_t c, Option.bind_some, if_neg one_ne, h2.f0]
    by_cases c2 : m 77 0 ≤ v
    · refine ⟨m 77 1, mset m 1 (upd (m 1) 1 v), mset (mset m 1 (upd (m 1) 1 v)) 77 (upd (m 77) 1 v), ?_, ?_, now_cell hI (p := 1) (c := 1) (j := 1) (by unfold KBP; omega) (fun h => WF_upd h (h1 := fun _ => ⟨le_bd1 (n := 16) (by decide) c, c2⟩))⟩
      · rw [if_pos c2, ltE, ltE, h2.f1]; rfl
      · rw [in1_t c, Option.bind_some, if_neg one_ne, rd77_0, n7c (by decide), Option.bind_some, if_pos c2, n1, becomes_eq (by decide), Option.bind_some, n7c (by decide)]
    · refine ⟨-4, m, m, by rw [if_neg c2], ?_, hI⟩
      rw [in1_t c, Option.bind_some, if_neg one_ne, rd77_0, Option.bind_some, if_neg c2]
  · refine ⟨-1, m, m, ?_, ?_, hI⟩
    · rw [wi_f c, Option.bind_some, if_pos rfl]
    · rw [in1_f c, Option.bind_some, if_pos rfl]
theorem ok_state {m : M} (hI : INV m) : OK_state INV m := fun y => by
  obtain ⟨rs, h1, h2, h3, h4, h5, h6, h7⟩ := hI.1
  unfold k_state r_state
  rw [rd77_0, rd77_1, rd77_2, rd77_3, rd77_4, h2.f0, h2.f1, h3, h2.f2, h2.f3, h2.f7, isOverK h2 h1, isOverR rfl h1, r_those_eq h1 rfl, b_shipNow_eq h2 h1, r_shipNow_eq h1, b_count_eq h2 h1, r_theCount_eq h1]
  simp only [Option.bind_some, k_side_eq]
  have e8 : (if countB (m 77) ≤ 0 then (if 0 ≤ countB (m 77) then some (1 : Int32) else some 0) else some 2) = some (sideV (countB (m 77))) := by
    unfold sideV
    repeat' split
    all_goals rfl
  rw [e8]
  by_cases c0 : y = 0
  · rw [if_pos c0]; (try rw [if_pos c0]); exact ⟨_, rfl, rfl, hI⟩
  rw [if_neg c0]; (try rw [if_neg c0])
  by_cases c1 : y = 1
  · rw [if_pos c1]; (try rw [if_pos c1]); exact ⟨_, rfl, rfl, hI⟩
  rw [if_neg c1]; (try rw [if_neg c1])
  by_cases c2 : y = 2
  · rw [if_pos c2]; (try rw [if_pos c2]); exact ⟨_, rfl, rfl, hI⟩
  rw [if_neg c2]; (try rw [if_neg c2])
  by_cases c3 : y = 3
  · rw [if_pos c3]; (try rw [if_pos c3])
    by_cases e : leftB (m 77) = 0
    · rw [if_pos e]; exact ⟨_, rfl, rfl, hI⟩
    · rw [if_neg e]; exact ⟨_, rfl, rfl, hI⟩
  rw [if_neg c3]; (try rw [if_neg c3])
  by_cases c4 : y = 4
  · rw [if_pos c4]; (try rw [if_pos c4]); exact ⟨_, rfl, rfl, hI⟩
  rw [if_neg c4]; (try rw [if_neg c4])
  by_cases c5 : y = 5
  · rw [if_pos c5]; (try rw [if_pos c5]); exact ⟨_, rfl, rfl, hI⟩
  rw [if_neg c5]; (try rw [if_neg c5])
  by_cases c6 : y = 6
  · rw [if_pos c6]; (try rw [if_pos c6]); exact ⟨_, rfl, rfl, hI⟩
  rw [if_neg c6]; (try rw [if_neg c6])
  by_cases c7 : y = 7
  · rw [if_pos c7]; (try rw [if_pos c7]); exact ⟨_, rfl, rfl, hI⟩
  rw [if_neg c7]; (try rw [if_neg c7])
  by_cases c8 : y = 8
  · rw [if_pos c8]; (try rw [if_pos c8]); exact ⟨_, rfl, rfl, hI⟩
  rw [if_neg c8]; (try rw [if_neg c8])
  exact ⟨_, rfl, rfl, hI⟩
theorem ones_tab : ∀ s, s < 64 → r_ones (nI s) (fun _ _ => 0) = some (nI (popN s 6)) := by decide +kernel
theorem r_ones_eq {m : M} {s : Nat} (h : s < 64) : r_ones (nI s) m = some (nI (popN s 6)) := ones_tab s h
theorem ok_many {m : M} (hI : INV m) : OK_many INV m := fun y => by
  obtain ⟨rs, h1, h2, h3, h4, h5, h6, h7⟩ := hI.1
  obtain ⟨nr, hr1, hr2, hr3, hr4⟩ := hI.2.2.1
  obtain ⟨nt, ht1, ht2, ht3, ht4⟩ := hI.2.2.2.2.2.1
  obtain ⟨nd, hd1, hd2, hd3, hd4⟩ := hI.2.2.2.2.2.2.1
  unfold k_many r_many
  rw [rd77_6, rd77_7, rd77_8, h2.f6, h2.f7, h4.1, h5.1, h7.1, hr2, hr3, ht2, ht3, hd2, hd3, r_those_eq h1 rfl, i_bitCount_eq h1.heard64]
  simp only [Option.bind_some]
  rw [r_ones_eq h1.heard64]
  by_cases c0 : y = 0
  · rw [if_pos c0]; (try rw [if_pos c0]); exact ⟨_, rfl, rfl, hI⟩
  rw [if_neg c0]; (try rw [if_neg c0])
  by_cases c1 : y = 1
  · rw [if_pos c1]; (try rw [if_pos c1]); exact ⟨_, rfl, rfl, hI⟩
  rw [if_neg c1]; (try rw [if_neg c1])
  by_cases c2 : y = 2
  · rw [if_pos c2]; (try rw [if_pos c2]); exact ⟨_, rfl, rfl, hI⟩
  rw [if_neg c2]; (try rw [if_neg c2])
  by_cases c3 : y = 3
  · rw [if_pos c3]; (try rw [if_pos c3]); exact ⟨_, rfl, rfl, hI⟩
  rw [if_neg c3]; (try rw [if_neg c3])
  by_cases c4 : y = 4
  · rw [if_pos c4]; (try rw [if_pos c4]); exact ⟨_, rfl, rfl, hI⟩
  rw [if_neg c4]; (try rw [if_neg c4])
  by_cases c5 : y = 5
  · rw [if_pos c5]; (try rw [if_pos c5]); exact ⟨_, rfl, rfl, hI⟩
  rw [if_neg c5]; (try rw [if_neg c5])
  by_cases c6 : y = 6
  · rw [if_pos c6]; (try rw [if_pos c6]); exact ⟨_, rfl, rfl, hI⟩
  rw [if_neg c6]; (try rw [if_neg c6])
  exact ⟨_, rfl, rfl, hI⟩
theorem in08 {y : Int32} : (0 ≤ y ∧ y ≤ 8) ↔ (y = 0 ∨ y = 1 ∨ y = 2 ∨ y = 3 ∨ y = 4 ∨ y = 5 ∨ y = 6 ∨ y = 7 ∨ y = 8) := by
  constructor
  · intro h
    obtain ⟨j, hj, rfl⟩ := (in_le (v := y) (n := 8) (by decide)).mp h
    rcases (show j = 0 ∨ j = 1 ∨ j = 2 ∨ j = 3 ∨ j = 4 ∨ j = 5 ∨ j = 6 ∨ j = 7 ∨ j = 8 by omega) with e | e | e | e | e | e | e | e | e <;> subst e
    · exact Or.inl rfl
    · exact Or.inr (Or.inl rfl)
    · exact Or.inr (Or.inr (Or.inl rfl))
    · exact Or.inr (Or.inr (Or.inr (Or.inl rfl)))
    · exact Or.inr (Or.inr (Or.inr (Or.inr (Or.inl rfl))))
    · exact Or.inr (Or.inr (Or.inr (Or.inr (Or.inr (Or.inl rfl)))))
    · exact Or.inr (Or.inr (Or.inr (Or.inr (Or.inr (Or.inr (Or.inl rfl))))))
    · exact Or.inr (Or.inr (Or.inr (Or.inr (Or.inr (Or.inr (Or.inr (Or.inl rfl)))))))
    · exact Or.inr (Or.inr (Or.inr (Or.inr (Or.inr (Or.inr (Or.inr (Or.inr rfl)))))))
  · rintro (rfl | rfl | rfl | rfl | rfl | rfl | rfl | rfl | rfl) <;> decide
theorem ok_memberOf {m : M} (hI : INV m) : OK_memberOf INV m := fun y z => by
  obtain ⟨rs, h1, h2, h3, h4, h5, h6, h7⟩ := hI.1
  unfold k_memberOf r_memberOf
  by_cases c : memB (m 77) y = true
  · have c' := c
    obtain ⟨k, hk1, hk, rfl⟩ := h1.mem c
    rw [isMem_t h2 c', risMem_t rfl c', Option.bind_some, Option.bind_some, if_neg one_ne, if_neg one_ne]
    have g : ∀ f, f < 5 → r_get (nI k) (nI f) m = some (m 77 (37 + 5 * k + f)) := fun f hf => r_get_at hk hf
    by_cases cz : 0 ≤ z ∧ z ≤ 8
    · rw [in1_t cz, Option.bind_some, if_neg one_ne]
      rcases in08.mp cz with rfl | rfl | rfl | rfl | rfl | rfl | rfl | rfl | rfl
      · rw [if_pos rfl, if_neg (by decide), if_neg (by decide), if_neg (by decide), if_neg (by decide), rd6 (by decide) hk, h2.kind hk, show r_get (nI k) (0 : Int32) m = some (m 77 (37 + 5 * k + 0)) from g 0 (by decide)]
        exact ⟨_, m, rfl, rfl, hI⟩
      · rw [if_neg (by decide), if_pos rfl, if_neg (by decide), if_neg (by decide), if_neg (by decide), if_neg (by decide), rd6 (by decide) hk, h2.votes hk, show r_get (nI k) (1 : Int32) m = some (m 77 (37 + 5 * k + 1)) from g 1 (by decide)]
        exact ⟨_, m, rfl, rfl, hI⟩
      · rw [if_neg (by decide), if_neg (by decide), if_pos rfl, if_neg (by decide), if_neg (by decide), if_neg (by decide), if_neg (by decide), rd6 (by decide) hk, h2.greed hk, show r_get (nI k) (2 : Int32) m = some (m 77 (37 + 5 * k + 2)) from g 2 (by decide)]
        exact ⟨_, m, rfl, rfl, hI⟩
      · rw [if_neg (by decide), if_neg (by decide), if_neg (by decide), if_pos rfl, if_neg (by decide), if_neg (by decide), if_neg (by decide), if_neg (by decide), rd6 (by decide) hk, h2.seat hk, show r_get (nI k) (3 : Int32) m = some (m 77 (37 + 5 * k + 3)) from g 3 (by decide)]
        exact ⟨_, m, rfl, rfl, hI⟩
      · rw [if_neg (by decide), if_neg (by decide), if_neg (by decide), if_neg (by decide), if_pos rfl, if_neg (by decide), if_neg (by decide), if_neg (by decide), if_neg (by decide), b_isHeard_eq h2 h1 hk, show r_get (nI k) (4 : Int32) m = some (m 77 (37 + 5 * k + 4)) from g 4 (by decide)]
        obtain ⟨e1, e2⟩ := h1.hNk hk
        rw [e1]
        rcases (show hN (m 77) k = 0 ∨ hN (m 77) k = 1 by omega) with e | e
        · rw [e]; exact ⟨_, m, rfl, rfl, hI⟩
        · rw [e]; exact ⟨_, m, rfl, rfl, hI⟩
      · rw [if_neg (by decide), if_neg (by decide), if_neg (by decide), if_neg (by decide), if_neg (by decide), if_pos rfl, if_pos rfl, b_leanOf_eq h2 h1 hk, r_sideOf_eq h1 hk, Option.bind_some, k_side_eq]
        exact ⟨_, m, rfl, rfl, hI⟩
      · rw [if_neg (by decide), if_neg (by decide), if_neg (by decide), if_neg (by decide), if_neg (by decide), if_neg (by decide), if_pos rfl, if_neg (by decide), if_pos rfl, b_weightOf_eq h2 h1 hk, r_weighsOf_eq h1 hk]
        exact ⟨_, m, rfl, rfl, hI⟩
      · obtain ⟨m2, g1, g2⟩ := r_wouldCarry_eq (k := k) rfl h1 h4 hk
        rw [if_neg (by decide), if_neg (by decide), if_neg (by decide), if_neg (by decide), if_neg (by decide), if_neg (by decide), if_neg (by decide), if_pos rfl, if_neg (by decide), if_neg (by decide), if_pos rfl, b_count_eq h2 h1, Option.bind_some, b_wouldCarry_eq h2 h1 h5 hk, g1, Option.bind_some, Option.bind_some]
        have hsq : SQ m m2 := g2.E76.EQ.SQ g2.r77
        cases carryB rs (m 77) k
        · exact ⟨0, m2, by rw [b01_f], by rw [b01_f], hI.sq hsq⟩
        · exact ⟨1, m2, by rw [b01_t], by rw [b01_t], hI.sq hsq⟩
      · obtain ⟨m2, g1, g2⟩ := r_willOf_eq (k := k) rfl h1 h4 hk
        rw [if_neg (by decide), if_neg (by decide), if_neg (by decide), if_neg (by decide), if_neg (by decide), if_neg (by decide), if_neg (by decide), if_neg (by decide), if_pos rfl, if_neg (by decide), if_neg (by decide), if_neg (by decide), if_pos rfl, b_willOf_eq h2 h1 h5 hk, g1]
        exact ⟨_, m2, rfl, rfl, hI.sq (g2.E76.EQ.SQ g2.r77)⟩
    · rw [in1_f cz, Option.bind_some, if_pos rfl]
      rw [in08] at cz
      simp only [not_or] at cz
      obtain ⟨z0, z1, z2, z3, z4, z5, z6, z7, z8⟩ := cz
      rw [if_neg z0, if_neg z1, if_neg z2, if_neg z3, if_neg z4, if_neg z5, if_neg z6, if_neg z7, if_neg z8]
      exact ⟨-1, m, rfl, rfl, hI⟩
  · rw [isMem_f h2 c, risMem_f rfl c]
    exact ⟨-1, m, rfl, rfl, hI⟩
