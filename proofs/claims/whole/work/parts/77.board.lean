/-! members join and change, the coast begins anew, reports -/
theorem hear_tab : ∀ h, h < 64 → ∀ k, k < 6 → ∀ w, w < 2 → ((nI h &&& (((1 : Int32) <<< (nI k &&& 31)) ^^^ -1)) ||| (nI w <<< (nI k &&& 31))) = nI (h - 2 ^ k * (h / 2 ^ k % 2) + 2 ^ k * w) := by decide +kernel
theorem heardN_to {b : Nat → Int32} (hW : WF b) {k w : Nat} (hk : k < 6) (hw : w < 2) : heardN b - 2 ^ k * (heardN b / 2 ^ k % 2) + 2 ^ k * w = heardN (upd b (37 + 5 * k + 4) (nI w)) := by
  rw [hW.bitN hk]
  have h0 := (hW.hNk (k := 0) (by decide)).2
  have h1 := (hW.hNk (k := 1) (by decide)).2
  have h2 := (hW.hNk (k := 2) (by decide)).2
  have h3 := (hW.hNk (k := 3) (by decide)).2
  have h4 := (hW.hNk (k := 4) (by decide)).2
  have h5 := (hW.hNk (k := 5) (by decide)).2
  have hu : ∀ i, i < 6 → hN (upd b (37 + 5 * k + 4) (nI w)) i = if i = k then w else hN b i := fun i hi => by
    unfold hN
    by_cases e : i = k
    · subst e; rw [upd_at, if_pos rfl, nI_clamp (by omega)]
    · rw [upd_off (by omega), if_neg e]
  unfold heardN
  rw [hu 0 (by decide), hu 1 (by decide), hu 2 (by decide), hu 3 (by decide), hu 4 (by decide), hu 5 (by decide)]
  match k, hk with
  | 0, _ => simp <;> omega
  | 1, _ => simp <;> omega
  | 2, _ => simp <;> omega
  | 3, _ => simp <;> omega
  | 4, _ => simp <;> omega
  | 5, _ => simp <;> omega
  | k + 6, h => omega
theorem in14 {y : Int32} : (1 ≤ y ∧ y ≤ 4) ↔ (y = 1 ∨ y = 2 ∨ y = 3 ∨ y = 4) := by
  constructor
  · intro h
    obtain ⟨j, hj1, hj, rfl⟩ := in_1 (v := y) (n := 4) (by decide) h
    rcases (show j = 1 ∨ j = 2 ∨ j = 3 ∨ j = 4 by omega) with e | e | e | e <;> subst e
    · exact Or.inl rfl
    · exact Or.inr (Or.inl rfl)
    · exact Or.inr (Or.inr (Or.inl rfl))
    · exact Or.inr (Or.inr (Or.inr rfl))
  · rintro (rfl | rfl | rfl | rfl) <;> decide
theorem chg_20_t {m : M} {b : Nat → Int32} (hb : m 77 = b) {k f : Nat} {v s : Int32} (hm : memB b (nI k) = true) (hk : k < 6) (hf : f < 5) (hf1 : (1 : Int32) ≤ nI f ∧ nI f ≤ 4) (hv : 0 ≤ v ∧ v ≤ s) : r_change_20 (nI k) (nI f) v s m = some (b (37 + 5 * k + f), mset m 77 (upd b (37 + 5 * k + f) v)) := by
  unfold r_change_20
  rw [risMem_t hb hm, Option.bind_some, if_neg one_ne, in1_t hf1, Option.bind_some, if_neg one_ne, in1_t hv, Option.bind_some, if_neg one_ne, n37, n5, pk_mul, nI_add, nI_add, becomes_eq (by omega), hb]
  rfl
theorem chg_20_f {m : M} {b : Nat → Int32} (hb : m 77 = b) {y z v s : Int32} (h : ¬ (memB b y = true ∧ (1 ≤ z ∧ z ≤ 4) ∧ (0 ≤ v ∧ v ≤ s))) : r_change_20 y z v s m = some (-1, m) := by
  unfold r_change_20
  by_cases c1 : memB b y = true
  · rw [risMem_t hb c1, Option.bind_some, if_neg one_ne]
    by_cases c2 : 1 ≤ z ∧ z ≤ 4
    · rw [in1_t c2, Option.bind_some, if_neg one_ne, in1_f (fun q => h ⟨c1, c2, q⟩), Option.bind_some, if_pos rfl]
    · rw [in1_f c2, Option.bind_some, if_pos rfl]
  · rw [risMem_f hb c1, Option.bind_some, if_pos rfl]
theorem ok_change {m : M} (hI : INV m) : OK_change INV m := fun y z v => by
  obtain ⟨rs, h1, h2, h3, h4, h5, h6, h7⟩ := hI.1
  have hrf : ∀ s : Int32, ¬ (memB (m 77) y = true ∧ (1 ≤ z ∧ z ≤ 4) ∧ (0 ≤ v ∧ v ≤ s)) → (if z = 3 then (5 : Int32) else if z = 4 then 1 else 9) = s → r_change y z v m = some (-1, m) := fun s hs e => by
    unfold r_change
    subst e
    by_cases e3 : z = 3
    · rw [if_pos e3] at hs ⊢; exact chg_20_f rfl hs
    · rw [if_neg e3] at hs ⊢
      by_cases e4 : z = 4
      · rw [if_pos e4] at hs ⊢; exact chg_20_f rfl hs
      · rw [if_neg e4] at hs ⊢; exact chg_20_f rfl hs
  unfold k_change
  by_cases c1 : memB (m 77) y = true
  · have c1' := c1
    obtain ⟨k, hk1, hk, rfl⟩ := h1.mem c1
    rw [isMem_t h2 c1', Option.bind_some, if_neg one_ne]
    by_cases c2 : 1 ≤ z ∧ z ≤ 4
    · rcases in14.mp c2 with rfl | rfl | rfl | rfl
      · rw [if_pos rfl]
        by_cases c3 : 0 ≤ v ∧ v ≤ 9
        · refine ⟨m 77 (37 + 5 * k + 1), mset m 11 (upd (m 11) k v), mset (mset m 11 (upd (m 11) k v)) 77 (upd (m 77) (37 + 5 * k + 1) v), ?_, ?_, now_cell hI (p := 11) (c := k) (j := 37 + 5 * k + 1) (by unfold KBP; omega) (fun h => WF_upd h (m1 := fun _ _ _ => le_bd (n := 9) (by decide) c3))⟩
          · rw [exch_t lI11 (by decide) (by decide) hk c3, Option.bind_some, h2.votes hk]
          · unfold r_change
            rw [if_neg (by decide), if_neg (by decide)]
            exact chg_20_t (f := 1) (n7c (by decide)) c1' hk (by decide) (by decide) c3
        · exact ⟨-1, m, m, by rw [exch_fv lI11 (by decide) hk c3]; rfl, hrf 9 (fun q => c3 q.2.2) (by decide), hI⟩
      · rw [if_neg (by decide), if_pos rfl]
        by_cases c3 : 0 ≤ v ∧ v ≤ 9
        · refine ⟨m 77 (37 + 5 * k + 2), mset m 12 (upd (m 12) k v), mset (mset m 12 (upd (m 12) k v)) 77 (upd (m 77) (37 + 5 * k + 2) v), ?_, ?_, now_cell hI (p := 12) (c := k) (j := 37 + 5 * k + 2) (by unfold KBP; omega) (fun h => WF_upd h (m2 := fun _ _ _ => le_bd (n := 9) (by decide) c3))⟩
          · rw [exch_t lI12 (by decide) (by decide) hk c3, Option.bind_some, h2.greed hk]
          · unfold r_change
            rw [if_neg (by decide), if_neg (by decide)]
            exact chg_20_t (f := 2) (n7c (by decide)) c1' hk (by decide) (by decide) c3
        · exact ⟨-1, m, m, by rw [exch_fv lI12 (by decide) hk c3]; rfl, hrf 9 (fun q => c3 q.2.2) (by decide), hI⟩
      · rw [if_neg (by decide), if_neg (by decide), if_pos rfl]
        by_cases c3 : 0 ≤ v ∧ v ≤ 5
        · refine ⟨m 77 (37 + 5 * k + 3), mset m 13 (upd (m 13) k v), mset (mset m 13 (upd (m 13) k v)) 77 (upd (m 77) (37 + 5 * k + 3) v), ?_, ?_, now_cell hI (p := 13) (c := k) (j := 37 + 5 * k + 3) (by unfold KBP; omega) (fun h => WF_upd h (m3 := fun _ _ _ => le_bd (n := 5) (by decide) c3))⟩
          · rw [exch_t lI13 (by decide) (by decide) hk c3, Option.bind_some, h2.seat hk]
          · unfold r_change
            rw [if_pos rfl]
            exact chg_20_t (f := 3) (n7c (by decide)) c1' hk (by decide) (by decide) c3
        · exact ⟨-1, m, m, by rw [exch_fv lI13 (by decide) hk c3]; rfl, hrf 5 (fun q => c3 q.2.2) (by decide), hI⟩
      · rw [if_neg (by decide), if_neg (by decide), if_neg (by decide), if_pos rfl]
        by_cases c3 : 0 ≤ v ∧ v ≤ 1
        · obtain ⟨w, hw, rfl⟩ := (in_le (v := v) (n := 1) (by decide)).mp c3
          have hW' : WF (upd (m 77) (37 + 5 * k + 4) (nI w)) := WF_upd h1 (m4 := fun i hi e => ⟨bd_nI hw, fun hq => by omega⟩)
          have hv : ((m 1 7 &&& (((1 : Int32) <<< (nI k &&& 31)) ^^^ -1)) ||| (nI w <<< (nI k &&& 31))) = nI (heardN (upd (m 77) (37 + 5 * k + 4) (nI w))) := by
            rw [h2.f7, hear_tab _ h1.heard64 k hk w (by omega), heardN_to h1 hk (by omega)]
          have hK' := h2.hear (k := k) (w := nI w) hk hv
          obtain ⟨e1, e2⟩ := h1.hNk hk
          obtain ⟨q1, q2⟩ := now_cells (m := m) (m2 := mset (wrF m 1 7 ((m 1 7 &&& (((1 : Int32) <<< (nI k &&& 31)) ^^^ -1)) ||| (nI w <<< (nI k &&& 31)))) 77 (upd (m 77) (37 + 5 * k + 4) (nI w))) (b' := upd (m 77) (37 + 5 * k + 4) (nI w)) h4 h5 h6 h7 (by
            rw [mset_ne (by decide), wrF_off (by decide), h3, upd_off (by omega)]) hW' (hK'.cong (fun p' c' j' hp' => by rw [mset_ne (by unfold KBP at hp'; omega)]) (by rw [mset_ne (by decide)])) mset_same (upd_off (by omega)) (upd_off (by omega)) (fun i hi => upd_off (by omega)) (fun q j x1 x2 x3 => by rw [mset_ne x3, wrF_ne x1])
          refine ⟨m 77 (37 + 5 * k + 4), wrF m 1 7 ((m 1 7 &&& (((1 : Int32) <<< (nI k &&& 31)) ^^^ -1)) ||| (nI w <<< (nI k &&& 31))), _, ?_, ?_, hI.c1 q2 q1⟩
          · rw [wi_t c3, Option.bind_some, if_neg one_ne]
            unfold b_hearOrNot b_hearOrNot_13
            rw [b_isHeard_eq h2 h1 hk, Option.bind_some, ltE, ltE, e1]
            rcases (show hN (m 77) k = 0 ∨ hN (m 77) k = 1 by omega) with e | e
            · rw [e, if_pos (by decide)]; rfl
            · rw [e, if_neg (by decide)]; rfl
          · unfold r_change
            rw [if_neg (by decide), if_pos rfl]
            exact chg_20_t (f := 4) (wrF_ne (by decide)) c1' hk (by decide) (by decide) c3
        · refine ⟨-1, m, m, ?_, hrf 1 (fun q => c3 q.2.2) (by decide), hI⟩
          rw [wi_f c3, Option.bind_some, if_pos rfl]
    · refine ⟨-1, m, m, ?_, hrf _ (fun q => c2 q.2.1) rfl, hI⟩
      rw [in14] at c2
      simp only [not_or] at c2
      rw [if_neg c2.1, if_neg c2.2.1, if_neg c2.2.2.1, if_neg c2.2.2.2]
  · refine ⟨-1, m, m, ?_, hrf _ (fun q => c1 q.1) rfl, hI⟩
    rw [isMem_f h2 c1, Option.bind_some, if_pos rfl]
theorem WF_many {b : Nat → Int32} (h : WF b) {n : Nat} (hn : n ≤ 6) (hge : manyB b ≤ n) : WF (upd b 6 (nI n)) := by
  have e : ∀ j, j ≠ 6 → upd b 6 (nI n) j = b j := fun j hj => upd_off hj
  refine ⟨⟨?_, ?_, ?_⟩, ?_, ?_, ?_, fun j hj => ?_, fun j hj => ?_, fun j hj => ?_, fun k hk => ⟨?_, ?_, ?_, ?_, ?_⟩, fun k q1 q2 => ?_⟩
  · rw [e 0 (by decide)]; exact h.night
  · rw [e 1 (by decide)]; exact h.fin
  · rw [e 0 (by decide), e 1 (by decide)]; exact h.le
  · rw [e 3 (by decide)]; exact h.light
  · rw [e 4 (by decide)]; exact h.fund
  · rw [upd_at]; exact bd_nI hn
  · rw [e _ (by omega)]; exact h.ship j hj
  · rw [e _ (by omega)]; exact h.hush j hj
  · rw [e _ (by omega)]; exact h.zeal j hj
  · rw [e _ (by omega)]; exact h.kind hk
  · rw [e _ (by omega)]; exact h.votes hk
  · rw [e _ (by omega)]; exact h.greed hk
  · rw [e _ (by omega)]; exact h.bench hk
  · rw [e _ (by omega)]; exact h.heard hk
  · rw [e _ (by omega)]
    rw [upd_at, nI_clamp (by omega)] at q1
    exact h.over k (by unfold manyB at hge; omega) q2
theorem isDigit_t {y : Int32} {m : M} (h : 0 ≤ y ∧ y ≤ 9) : r_isDigit y m = some 1 := by unfold r_isDigit; rw [in1_t h]; rfl
theorem isDigit_f {y : Int32} {m : M} (h : ¬ (0 ≤ y ∧ y ≤ 9)) : r_isDigit y m = some 0 := by unfold r_isDigit; rw [in1_f h]; rfl
theorem ok_member {m : M} (hI : INV m) : OK_member INV m := fun y z v w => by
  obtain ⟨rs, h1, h2, h3, h4, h5, h6, h7⟩ := hI.1
  obtain ⟨e6, n6⟩ := h1.manyN
  by_cases c1 : ¬ (1 ≤ y ∧ y ≤ 5)
  · refine ⟨-1, m, m, ?_, ?_, hI⟩
    · unfold k_member; rw [wi_f c1, Option.bind_some, if_pos rfl]
    · unfold r_member; rw [in1_f c1, Option.bind_some, if_pos rfl]
  have c1 := Classical.not_not.mp c1
  by_cases c2 : ¬ (0 ≤ z ∧ z ≤ 9)
  · refine ⟨-1, m, m, ?_, ?_, hI⟩
    · unfold k_member; rw [wi_t c1, Option.bind_some, if_neg one_ne, wi_f c2, Option.bind_some, if_pos rfl]
    · unfold r_member; rw [in1_t c1, Option.bind_some, if_neg one_ne, isDigit_f c2, Option.bind_some, if_pos rfl]
  have c2 := Classical.not_not.mp c2
  by_cases c3 : ¬ (0 ≤ v ∧ v ≤ 9)
  · refine ⟨-1, m, m, ?_, ?_, hI⟩
    · unfold k_member; rw [wi_t c1, Option.bind_some, if_neg one_ne, wi_t c2, Option.bind_some, if_neg one_ne, wi_f c3, Option.bind_some, if_pos rfl]
    · unfold r_member; rw [in1_t c1, Option.bind_some, if_neg one_ne, isDigit_t c2, Option.bind_some, if_neg one_ne, isDigit_f c3, Option.bind_some, if_pos rfl]
  have c3 := Classical.not_not.mp c3
  by_cases c4 : ¬ (0 ≤ w ∧ w ≤ 5)
  · refine ⟨-1, m, m, ?_, ?_, hI⟩
    · unfold k_member; rw [wi_t c1, Option.bind_some, if_neg one_ne, wi_t c2, Option.bind_some, if_neg one_ne, wi_t c3, Option.bind_some, if_neg one_ne, wi_f c4, Option.bind_some, if_pos rfl]
    · unfold r_member; rw [in1_t c1, Option.bind_some, if_neg one_ne, isDigit_t c2, Option.bind_some, if_neg one_ne, isDigit_t c3, Option.bind_some, if_neg one_ne, isBench_f c4, Option.bind_some, if_pos rfl]
  have c4 := Classical.not_not.mp c4
  have hk0 : k_member y z v w m = (if m 1 6 < 6 then Option.bind (b_join y z v w m) (fun z5 => some (z5.1, z5.2)) else some (-2, m)) := by
    unfold k_member; rw [wi_t c1, Option.bind_some, if_neg one_ne, wi_t c2, Option.bind_some, if_neg one_ne, wi_t c3, Option.bind_some, if_neg one_ne, wi_t c4, Option.bind_some, if_neg one_ne]
  by_cases c5 : manyB (m 77) = 6
  · refine ⟨-2, m, m, ?_, ?_, hI⟩
    · rw [hk0, h2.f6, e6, c5, if_neg (by decide)]
    · unfold r_member; rw [in1_t c1, Option.bind_some, if_neg one_ne, isDigit_t c2, Option.bind_some, if_neg one_ne, isDigit_t c3, Option.bind_some, if_neg one_ne, isBench_t c4, Option.bind_some, if_neg one_ne, rd77_6, Option.bind_some, e6, c5, if_pos (by decide)]
  · generalize hn : manyB (m 77) = n at *
    have hn6 : n < 6 := by omega
    -- the class
    have hl : ∀ p, (p = 10 ∨ p = 11 ∨ p = 12 ∨ p = 13) → ∀ (mm : M) (x : Int32), wrI mm p (nI n) x = some (mset mm p (upd (mm p) n x)) := fun p hp mm x => wrI_at (by rcases hp with rfl | rfl | rfl | rfl <;> exact hn6) (by rcases hp with rfl | rfl | rfl | rfl <;> decide)
    have hKa := h2.wr (p := 10) (c := n) (j := 37 + 5 * n + 0) (v := y) (by unfold KBP; omega)
    have hKb := hKa.wr (p := 11) (c := n) (j := 37 + 5 * n + 1) (v := z) (by unfold KBP; omega)
    have hKc := hKb.wr (p := 12) (c := n) (j := 37 + 5 * n + 2) (v := v) (by unfold KBP; omega)
    have hKd := hKc.wr (p := 13) (c := n) (j := 37 + 5 * n + 3) (v := w) (by unfold KBP; omega)
    have hKe := hKd.wr (p := 1) (c := 6) (j := 6) (v := nI (n + 1)) (by unfold KBP; omega)
    generalize hm1 : mset m 10 (upd (m 10) n y) = m1 at *
    generalize hm2 : mset m1 11 (upd (m1 11) n z) = m2 at *
    generalize hm3 : mset m2 12 (upd (m2 12) n v) = m3 at *
    generalize hm4 : mset m3 13 (upd (m3 13) n w) = m4 at *
    have h46 : m4 1 6 = nI n := by rw [← hm4, mset_ne (by decide), ← hm3, mset_ne (by decide), ← hm2, mset_ne (by decide), ← hm1, mset_ne (by decide), h2.f6, e6]
    have hf4 : ∀ p, p ≠ 10 → p ≠ 11 → p ≠ 12 → p ≠ 13 → m4 p = m p := fun p x1 x2 x3 x4 => by rw [← hm4, mset_ne x4, ← hm3, mset_ne x3, ← hm2, mset_ne x2, ← hm1, mset_ne x1]
    -- the row
    obtain ⟨b4, hb4⟩ : ∃ b4, b4 = upd (upd (upd (upd (m 77) (37 + 5 * n + 0) y) (37 + 5 * n + 1) z) (37 + 5 * n + 2) v) (37 + 5 * n + 3) w := ⟨_, rfl⟩
    rw [← hb4] at hKe
    have hW4 : WF b4 := by
      rw [hb4]
      exact WF_upd (WF_upd (WF_upd (WF_upd h1 (m0 := fun _ _ _ => le_bd1 (n := 5) (by decide) c1)) (m1 := fun _ _ _ => le_bd (n := 9) (by decide) c2)) (m2 := fun _ _ _ => le_bd (n := 9) (by decide) c3)) (m3 := fun _ _ _ => le_bd (n := 5) (by decide) c4)
    have ho : ∀ j, (j < 37 + 5 * n ∨ 37 + 5 * n + 4 ≤ j) → b4 j = m 77 j := fun j hj => by
      rw [hb4, upd_off (by omega), upd_off (by omega), upd_off (by omega), upd_off (by omega)]
    have hmany4 : manyB b4 = n := by unfold manyB; rw [ho 6 (by omega), e6, nI_clamp (by omega)]
    have h0 : b4 (37 + 5 * n + 4) = 0 := by
      rw [ho _ (by omega)]
      exact h1.over n (by unfold manyB at hn; omega) hn6
    have h6' : b4 6 = nI n := by rw [ho 6 (by omega), e6]
    have hW5 : WF (upd b4 6 (nI (n + 1))) := WF_many hW4 (by omega) (by omega)
    obtain ⟨q1, q2⟩ := now_cells (m := m) (m2 := mset (mset m4 1 (upd (m4 1) 6 (nI (n + 1)))) 77 (upd b4 6 (nI (n + 1)))) (b' := upd b4 6 (nI (n + 1))) h4 h5 h6 h7 (by
      rw [mset_ne (by decide), mset_same, upd_off (by decide), hf4 1 (by decide) (by decide) (by decide) (by decide), h3, upd_off (by decide), ho 2 (by omega)]) hW5 (hKe.cong (fun p' c' j' hp' => by rw [mset_ne (by unfold KBP at hp'; omega)]) (by rw [mset_ne (by decide)])) mset_same (by rw [upd_off (by decide), ho 7 (by omega)]) (by rw [upd_off (by decide), ho 8 (by omega)]) (fun i hi => by rw [upd_off (by omega), ho i (by omega)]) (fun q j x1 x2 x3 => by rw [mset_ne x3, mset_ne x1, hf4 q (by omega) (by omega) (by omega) (by omega)])
    refine ⟨nI n, mset m4 1 (upd (m4 1) 6 (nI (n + 1))), _, ?_, ?_, hI.c1 q2 q1⟩
    · rw [hk0, h2.f6, e6, if_pos (show nI n < (6 : Int32) from (nI_ltI (b := 6) (by omega) (by decide)).mpr hn6)]
      unfold b_join
      rw [ltE, h2.f6, e6, hl 10 (by omega), hm1, Option.bind_some, hl 11 (by omega), hm2, Option.bind_some, hl 12 (by omega), hm3, Option.bind_some, hl 13 (by omega), hm4, Option.bind_some, ltE, h46, nI_1]
      rfl
    · have hmr : ∀ mm : M, mm 77 = m 77 → r_member y z v w mm = some (nI n, mset mm 77 (upd b4 6 (nI (n + 1)))) := fun mm hmm => by
        unfold r_member
        have hp : ∀ (f : Nat) (x : Int32) (m' : M), f < 5 → r_puts (nI n) (nI f) x m' = some (mset m' 77 (upd (m' 77) (37 + 5 * n + f) x)) := fun f x m' hf => r_puts_at hn6 hf
        rw [in1_t c1, Option.bind_some, if_neg one_ne, isDigit_t c2, Option.bind_some, if_neg one_ne, isDigit_t c3, Option.bind_some, if_neg one_ne, isBench_t c4, Option.bind_some, if_neg one_ne, rd77_6, Option.bind_some, hmm, e6, if_neg (fun q => by have := (nI_eq (b := 6) (by omega) (by decide)).mp q; omega), Option.bind_some]
        rw [show r_puts (nI n) 0 y mm = some (mset mm 77 (upd (mm 77) (37 + 5 * n + 0) y)) from hp 0 y mm (by decide), Option.bind_some, show ∀ m' : M, r_puts (nI n) 1 z m' = some (mset m' 77 (upd (m' 77) (37 + 5 * n + 1) z)) from fun m' => hp 1 z m' (by decide), Option.bind_some, mset_mset, mset_same, show ∀ m' : M, r_puts (nI n) 2 v m' = some (mset m' 77 (upd (m' 77) (37 + 5 * n + 2) v)) from fun m' => hp 2 v m' (by decide), Option.bind_some, mset_mset, mset_same, show ∀ m' : M, r_puts (nI n) 3 w m' = some (mset m' 77 (upd (m' 77) (37 + 5 * n + 3) w)) from fun m' => hp 3 w m' (by decide), Option.bind_some, mset_mset, mset_same, hmm, ← hb4, show ∀ m' : M, r_puts (nI n) 4 0 m' = some (mset m' 77 (upd (m' 77) (37 + 5 * n + 4) 0)) from fun m' => hp 4 0 m' (by decide), Option.bind_some, mset_mset, mset_same, show upd b4 (37 + 5 * n + 4) 0 = b4 from by rw [← h0, upd_self], rd77_6, mset_same, h6', Option.bind_some, wr77_6, mset_mset, mset_same, nI_1]
        rfl
      exact hmr _ (by rw [mset_ne (by decide), hf4 77 (by decide) (by decide) (by decide) (by decide)])
/-- the coast anew -/
def hz (n : Nat) (f : Nat → Int32) : Nat → Int32 := foldN (fun k f => upd f (37 + 5 * k + 4) 0) n f
theorem hz_at {f : Nat → Int32} : ∀ {n k : Nat}, k < n → hz n f (37 + 5 * k + 4) = 0
  | n + 1, k, h => by
    show upd (hz n f) (37 + 5 * n + 4) 0 (37 + 5 * k + 4) = 0
    by_cases e : k = n
    · subst e; rw [upd_at]
    · rw [upd_off (by omega)]; exact hz_at (by omega)
theorem hz_off {f : Nat → Int32} {j : Nat} : ∀ {n : Nat}, (∀ k, k < n → j ≠ 37 + 5 * k + 4) → hz n f j = f j
  | 0, _ => rfl
  | n + 1, h => by
    show upd (hz n f) (37 + 5 * n + 4) 0 j = f j
    rw [upd_off (h n (by omega)), hz_off (fun k hk => h k (by omega))]
theorem ok_anew {m : M} (hI : INV m) : OK_anew INV m := by
  obtain ⟨rs, h1, h2, h3, h4, h5, h6, h7⟩ := hI.1
  obtain ⟨e6, n6⟩ := h1.manyN
  generalize hn : manyB (m 77) = n at *
  obtain ⟨b3, hb3⟩ : ∃ b3, b3 = upd (upd (upd (m 77) 2 0) 3 5) 4 0 := ⟨_, rfl⟩
  have h3off : ∀ j, j ≠ 2 → j ≠ 3 → j ≠ 4 → b3 j = m 77 j := fun j x1 x2 x3 => by rw [hb3, upd_off x3, upd_off x2, upd_off x1]
  obtain ⟨b', hb'⟩ : ∃ b', b' = upd (hz n b3) 0 0 := ⟨_, rfl⟩
  have hoff : ∀ j, j ≠ 0 → j ≠ 2 → j ≠ 3 → j ≠ 4 → (∀ k, k < 6 → j ≠ 37 + 5 * k + 4) → b' j = m 77 j := fun j x0 x2 x3 x4 xh => by
    rw [hb', upd_off x0, hz_off (fun k hk => xh k (by omega)), h3off j x2 x3 x4]
  have hhrd : ∀ k, k < 6 → b' (37 + 5 * k + 4) = 0 := fun k hk => by
    rw [hb', upd_off (by omega)]
    by_cases c : k < n
    · exact hz_at c
    · rw [hz_off (fun i hi => by omega), h3off _ (by omega) (by omega) (by omega)]
      exact h1.over k (by unfold manyB at hn; omega) hk
  have v0 : b' 0 = 0 := by rw [hb', upd_at]
  have v2 : b' 2 = 0 := by rw [hb', upd_off (by decide), hz_off (fun k hk => by omega), hb3, upd_off (by decide), upd_off (by decide), upd_at]
  have v3 : b' 3 = 5 := by rw [hb', upd_off (by decide), hz_off (fun k hk => by omega), hb3, upd_off (by decide), upd_at]
  have v4 : b' 4 = 0 := by rw [hb', upd_off (by decide), hz_off (fun k hk => by omega), hb3, upd_at]
  have hW' : WF b' := by
    refine ⟨⟨?_, ?_, ?_⟩, ?_, ?_, ?_, fun j hj => ?_, fun j hj => ?_, fun j hj => ?_, fun k hk => ⟨?_, ?_, ?_, ?_, ?_⟩, fun k q1 q2 => ?_⟩
    · rw [v0]; exact ⟨0, by omega, by decide⟩
    · rw [hoff 1 (by decide) (by decide) (by decide) (by decide) (fun k hk => by omega)]; exact h1.fin
    · rw [v0, hoff 1 (by decide) (by decide) (by decide) (by decide) (fun k hk => by omega), h1.endN.1]
      exact nI_pos' (by have := h1.endN.2; omega)
    · rw [v3]; exact ⟨5, by omega, by decide⟩
    · rw [v4]; exact ⟨0, by omega, by decide⟩
    · rw [hoff 6 (by decide) (by decide) (by decide) (by decide) (fun k hk => by omega)]; exact h1.many
    · rw [hoff _ (by omega) (by omega) (by omega) (by omega) (fun k hk => by omega)]; exact h1.ship j hj
    · rw [hoff _ (by omega) (by omega) (by omega) (by omega) (fun k hk => by omega)]; exact h1.hush j hj
    · rw [hoff _ (by omega) (by omega) (by omega) (by omega) (fun k hk => by omega)]; exact h1.zeal j hj
    · rw [hoff _ (by omega) (by omega) (by omega) (by omega) (fun i hi => by omega)]; exact h1.kind hk
    · rw [hoff _ (by omega) (by omega) (by omega) (by omega) (fun i hi => by omega)]; exact h1.votes hk
    · rw [hoff _ (by omega) (by omega) (by omega) (by omega) (fun i hi => by omega)]; exact h1.greed hk
    · rw [hoff _ (by omega) (by omega) (by omega) (by omega) (fun i hi => by omega)]; exact h1.bench hk
    · rw [hhrd k hk]; exact ⟨0, by omega, by decide⟩
    · exact hhrd k q2
  obtain ⟨m1, hm1⟩ : ∃ m1, m1 = wrF (wrF (wrF (wrF (wrF m 1 0 0) 1 4 0) 1 2 5) 1 3 0) 1 7 0 := ⟨_, rfl⟩
  have hne : ∀ p, p ≠ 1 → m1 p = m p := fun p hp => by rw [hm1, wrF_ne hp, wrF_ne hp, wrF_ne hp, wrF_ne hp, wrF_ne hp]
  have w0 : m1 1 0 = 0 := by rw [hm1, wrF_off (by decide), wrF_off (by decide), wrF_off (by decide), wrF_off (by decide), wrF_at]
  have w4 : m1 1 4 = 0 := by rw [hm1, wrF_off (by decide), wrF_off (by decide), wrF_off (by decide), wrF_at]
  have w2 : m1 1 2 = 5 := by rw [hm1, wrF_off (by decide), wrF_off (by decide), wrF_at]
  have w3 : m1 1 3 = 0 := by rw [hm1, wrF_off (by decide), wrF_at]
  have w7 : m1 1 7 = 0 := by rw [hm1, wrF_at]
  have wo : ∀ k, k = 1 ∨ k = 5 ∨ k = 6 → m1 1 k = m 1 k := fun k hk => by rw [hm1, wrF_off (by omega), wrF_off (by omega), wrF_off (by omega), wrF_off (by omega), wrF_off (by omega)]
  have hK' : KB m1 b' := by
    obtain ⟨g1, g7⟩ := KB_iff.mp h2
    refine KB_iff.mpr ⟨fun p c j hp => ?_, ?_⟩
    · by_cases e1 : p = 1
      · subst e1
        rcases (show (c = 0 ∧ j = 0) ∨ (c = 1 ∧ j = 1) ∨ (c = 2 ∧ j = 3) ∨ (c = 3 ∧ j = 4) ∨ (c = 5 ∧ j = 5) ∨ (c = 6 ∧ j = 6) by unfold KBP at hp; omega) with ⟨rfl, rfl⟩ | ⟨rfl, rfl⟩ | ⟨rfl, rfl⟩ | ⟨rfl, rfl⟩ | ⟨rfl, rfl⟩ | ⟨rfl, rfl⟩
        · rw [w0, v0]
        · rw [wo 1 (by omega), g1 1 1 1 hp, hoff 1 (by decide) (by decide) (by decide) (by decide) (fun k hk => by omega)]
        · rw [w2, v3]
        · rw [w3, v4]
        · rw [wo 5 (by omega), g1 1 5 5 hp, hoff 5 (by decide) (by decide) (by decide) (by decide) (fun k hk => by omega)]
        · rw [wo 6 (by omega), g1 1 6 6 hp, hoff 6 (by decide) (by decide) (by decide) (by decide) (fun k hk => by omega)]
      · rw [hne p e1, g1 p c j hp, hoff j (by unfold KBP at hp; omega) (by unfold KBP at hp; omega) (by unfold KBP at hp; omega) (by unfold KBP at hp; omega) (fun k hk => by unfold KBP at hp; omega)]
    · rw [w7]
      unfold heardN hN
      rw [hhrd 0 (by decide), hhrd 1 (by decide), hhrd 2 (by decide), hhrd 3 (by decide), hhrd 4 (by decide), hhrd 5 (by decide)]
      decide
  obtain ⟨q1, q2⟩ := now_cells (m := m) (m2 := mset m1 77 b') (b' := b') h4 h5 h6 h7 (by rw [mset_ne (by decide), w4, v2]) hW' (hK'.cong (fun p' c' j' hp' => by rw [mset_ne (by unfold KBP at hp'; omega)]) (by rw [mset_ne (by decide)])) mset_same (hoff 7 (by decide) (by decide) (by decide) (by decide) (fun k hk => by omega)) (hoff 8 (by decide) (by decide) (by decide) (by decide) (fun k hk => by omega)) (fun i hi => hoff i (by omega) (by omega) (by omega) (by omega) (fun k hk => by omega)) (fun q j x1 x2 x3 => by rw [mset_ne x3, hne q x1])
  refine ⟨m 77 0, m1, mset m1 77 b', ?_, ?_, hI.c1 q2 q1⟩
  · unfold k_anew
    rw [ltE, ltE, ltE, ltE, ltE, ltE, ← hm1, h2.f0]
  · have hb1 : m1 77 = m 77 := hne 77 (by decide)
    unfold r_anew r_anew_23
    rw [wr77_2, hb1, Option.bind_some, wr77_3, mset_mset, mset_same, Option.bind_some, wr77_4, mset_mset, mset_same, Option.bind_some, ← hb3]
    have hloop := iter_seq (body := fun z : Int32 × M => r_anew_23b z.1 z.2) (fun i => (nI i, mset m1 77 (hz i b3))) (r := mset m1 77 (hz n b3)) n (fun i hi => by
      show r_anew_23b (nI i) (mset m1 77 (hz i b3)) = _
      unfold r_anew_23b
      rw [rd77_6, mset_same, hz_off (fun k hk => by omega), h3off 6 (by decide) (by decide) (by decide), e6, Option.bind_some, if_neg (nI_ge hi (by omega)), show r_puts (nI i) (4 : Int32) 0 (mset m1 77 (hz i b3)) = some (mset (mset m1 77 (hz i b3)) 77 (upd ((mset m1 77 (hz i b3)) 77) (37 + 5 * i + 4) 0)) from r_puts_at (f := 4) (by omega) (by decide), mset_mset, mset_same, Option.bind_some, ltE, nI_1]
      rfl) (by
      show r_anew_23b (nI n) (mset m1 77 (hz n b3)) = _
      unfold r_anew_23b
      rw [rd77_6, mset_same, hz_off (fun k hk => by omega), h3off 6 (by decide) (by decide) (by decide), e6, Option.bind_some, if_pos (Int32.le_refl _)]) (by omega)
    rw [show ((0 : Int32), mset m1 77 b3) = (fun i => (nI i, mset m1 77 (hz i b3))) 0 from rfl, hloop, Option.bind_some, show (0 : Int32) = nI 0 from rfl, becomes_eq (by decide), mset_mset, mset_same, Option.bind_some, hz_off (fun k hk => by omega), h3off 0 (by decide) (by decide) (by decide), hb']
    rfl
theorem ok_forget {m : M} (hI : INV m) : OK_forget INV m := by
  obtain ⟨rs, h1, h2, h3, h4, h5, h6, h7⟩ := hI.1
  have hK : KB m (upd (m 77) 8 0) := by
    obtain ⟨g1, g7⟩ := KB_iff.mp h2
    exact KB_iff.mpr ⟨fun p c j hp => by rw [upd_off (by unfold KBP at hp; omega)]; exact g1 p c j hp, by rw [heardN_off (fun k hk => by omega)]; exact g7⟩
  refine ⟨m 77 8, wrF m 4 0 0, mset (wrF m 4 0 0) 77 (upd (m 77) 8 0), ?_, ?_, hI.c1 (fun p k q1 q0 => ?_) ⟨rs, ?_, ?_, ?_, ?_, ?_, ?_, ?_⟩⟩
  · unfold k_forget
    rw [ltE, ltE, h7.1]
  · unfold r_forget
    rw [show (8 : Int32) = nI 8 from rfl, becomes_eq (by decide), wrF_ne (by decide)]; rfl
  · have := ne1 q1 q0
    rw [mset_ne (by omega), wrF_ne (by omega)]
  · rw [mset_same]; exact WF_upd h1
  · rw [mset_same]
    exact hK.cong (fun p c j hp => by rw [mset_ne (by unfold KBP at hp; omega), wrF_ne (by unfold KBP at hp; omega)]) (by rw [mset_ne (by decide), wrF_ne (by decide)])
  · rw [mset_same, mset_ne (by decide), wrF_ne (by decide), upd_off (by decide)]; exact h3
  · rw [mset_same]; exact RR_upd h4 (by decide) (by decide)
  · unfold KR at *
    rw [mset_ne (by decide), mset_ne (by decide), mset_ne (by decide), mset_ne (by decide), mset_ne (by decide), wrF_ne (by decide), wrF_ne (by decide), wrF_ne (by decide), wrF_ne (by decide), wrF_ne (by decide)]
    exact h5
  · rw [mset_same]
    refine ⟨by rw [upd_at]; exact ⟨0, by omega, by decide⟩, fun r hr hr2 => ?_⟩
    unfold repN at hr2
    rw [upd_at] at hr2
    exact absurd hr2 (by rw [show (0 : Int32).toNatClampNeg = 0 from by decide]; omega)
  · rw [mset_same]
    refine ⟨by rw [mset_ne (by decide), wrF_at, upd_at], fun r hr hr2 => ?_⟩
    unfold repN at hr2
    rw [upd_at] at hr2
    exact absurd hr2 (by rw [show (0 : Int32).toNatClampNeg = 0 from by decide]; omega)
theorem ok_report {m : M} (hI : INV m) : OK_report INV m := fun y z v w => by
  obtain ⟨rs, h1, h2, h3, h4, h5, h6, h7⟩ := hI.1
  obtain ⟨e8, n8⟩ := h6.n
  have hbad : ¬ ((0 ≤ y ∧ y ≤ 15) ∧ (0 ≤ z ∧ z ≤ 1) ∧ (0 ≤ v ∧ v ≤ w ∧ w ≤ (if z = 0 then 9 else 999))) → ∃ (x : Int32) (m1 m2 : M), k_report y z v w m = some (x, m1) ∧ r_report y z v w m1 = some (x, m2) ∧ INV m2 := fun h => by
    refine ⟨-1, m, m, ?_, ?_, hI⟩
    · unfold k_report k_report_45
      by_cases c1 : 0 ≤ y ∧ y ≤ 15
      · rw [wi_t c1, Option.bind_some, if_neg one_ne]
        by_cases c2 : 0 ≤ z ∧ z ≤ 1
        · rw [wi_t c2, Option.bind_some, if_neg one_ne]
          by_cases c3 : v < 0
          · rw [if_pos c3]
          · rw [if_neg c3]
            by_cases c4 : w < v
            · rw [if_pos c4]
            · rw [if_neg c4]
              have h' : ¬ w ≤ (if z = 0 then 9 else 999) := fun q => h ⟨c1, c2, Int32.not_lt.mp c3, Int32.not_lt.mp c4, q⟩
              by_cases e : z = 0
              · rw [if_pos e] at h'
                rw [if_pos e, if_neg h']
              · rw [if_neg e] at h'
                rw [if_neg e, if_neg h']
        · rw [wi_f c2, Option.bind_some, if_pos rfl]
      · rw [wi_f c1, Option.bind_some, if_pos rfl]
    · have hr : ∀ s, (if z = 0 then (9 : Int32) else 999) = s → r_report_12 y z v w s m = some (-1, m) := fun s hs => by
        unfold r_report_12
        rw [hs] at h
        by_cases c1 : 0 ≤ y ∧ y ≤ 15
        · rw [in1_t c1, Option.bind_some, if_neg one_ne]
          by_cases c2 : 0 ≤ z ∧ z ≤ 1
          · rw [in1_t c2, Option.bind_some, if_neg one_ne]
            by_cases c3 : 0 ≤ v ∧ v ≤ s
            · rw [in1_t c3, Option.bind_some, if_neg one_ne, in1_f (fun q => h ⟨c1, c2, c3.1, q.1, q.2⟩), Option.bind_some, if_pos rfl]
            · rw [in1_f c3, Option.bind_some, if_pos rfl]
          · rw [in1_f c2, Option.bind_some, if_pos rfl]
        · rw [in1_f c1, Option.bind_some, if_pos rfl]
      unfold r_report
      by_cases e : z = 0
      · rw [if_pos e]; exact hr 9 (if_pos e)
      · rw [if_neg e]; exact hr 999 (if_neg e)
  by_cases c : ¬ ((0 ≤ y ∧ y ≤ 15) ∧ (0 ≤ z ∧ z ≤ 1) ∧ (0 ≤ v ∧ v ≤ w ∧ w ≤ (if z = 0 then 9 else 999)))
  · exact hbad c
  have c := Classical.not_not.mp c
  obtain ⟨c1, c2, c3, c4, c5⟩ := c
  generalize hs : (if z = 0 then (9 : Int32) else 999) = s at c5
  have hk : k_report y z v w m = (if 6 ≤ m 4 0 then some (-2, m) else Option.bind (p_add y z v w m) (fun z1 => some (z1.1, z1.2))) := by
    unfold k_report k_report_45
    rw [wi_t c1, Option.bind_some, if_neg one_ne, wi_t c2, Option.bind_some, if_neg one_ne, if_neg (Int32.not_lt.mpr c3), if_neg (Int32.not_lt.mpr c4)]
    by_cases e : z = 0
    · rw [if_pos e] at hs
      subst hs
      rw [if_pos e, if_pos c5]
    · rw [if_neg e] at hs
      subst hs
      rw [if_neg e, if_pos c5]
  have hr : ∀ mm : M, r_report y z v w mm = Option.bind (rdI mm 77 8) (fun v5 => if v5 = 6 then some (-2, mm) else Option.bind (rdI mm 77 8) (fun v6 => lt (67 + (4 * v6)) (fun w7 : Int32 => Option.bind (wrI mm 77 w7 y) (fun m8 => Option.bind (wrI m8 77 (w7 + 1) z) (fun m9 => Option.bind (wrI m9 77 (w7 + 2) v) (fun m10 => Option.bind (wrI m10 77 (w7 + 3) w) (fun m11 => Option.bind (rdI m11 77 8) (fun v12 => Option.bind (wrI m11 77 8 (v12 + 1)) (fun m13 => Option.bind (rdI m13 77 8) (fun v14 => some ((v14 - 1), m13))))))))))) := fun mm => by
    have h12 : r_report y z v w mm = r_report_12 y z v w s mm := by
      unfold r_report
      by_cases e : z = 0
      · rw [if_pos e] at hs ⊢; rw [hs]
      · rw [if_neg e] at hs ⊢; rw [hs]
    rw [h12]
    unfold r_report_12
    rw [in1_t c1, Option.bind_some, if_neg one_ne, in1_t c2, Option.bind_some, if_neg one_ne, in1_t ⟨c3, Int32.le_trans c4 c5⟩, Option.bind_some, if_neg one_ne, in1_t ⟨c4, c5⟩, Option.bind_some, if_neg one_ne]
  generalize hn : repN (m 77) = n at *
  by_cases c6 : n = 6
  · refine ⟨-2, m, m, ?_, ?_, hI⟩
    · rw [hk, h7.1, e8, c6, if_pos (by decide)]
    · rw [hr, rd77_8, Option.bind_some, e8, c6, if_pos (by decide)]
  · have hn6 : n < 6 := by omega
    obtain ⟨m1, hm1⟩ : ∃ m1, m1 = wrF (mset (mset (mset (mset m 30 (upd (m 30) n y)) 31 (upd (m 31) n z)) 32 (upd (m 32) n v)) 33 (upd (m 33) n w)) 4 0 (nI (n + 1)) := ⟨_, rfl⟩
    have hne : ∀ p, p ≠ 4 → p ≠ 30 → p ≠ 31 → p ≠ 32 → p ≠ 33 → m1 p = m p := fun p x x0 x1 x2 x3 => by rw [hm1, wrF_ne x, mset_ne x3, mset_ne x2, mset_ne x1, mset_ne x0]
    have w4 : m1 4 0 = nI (n + 1) := by rw [hm1, wrF_at]
    have w30 : m1 30 = upd (m 30) n y := by rw [hm1, wrF_ne (by decide), mset_ne (by decide), mset_ne (by decide), mset_ne (by decide), mset_same]
    have w31 : m1 31 = upd (m 31) n z := by rw [hm1, wrF_ne (by decide), mset_ne (by decide), mset_ne (by decide), mset_same]
    have w32 : m1 32 = upd (m 32) n v := by rw [hm1, wrF_ne (by decide), mset_ne (by decide), mset_same]
    have w33 : m1 33 = upd (m 33) n w := by rw [hm1, wrF_ne (by decide), mset_same]
    have hb1 : m1 77 = m 77 := hne 77 (by decide) (by decide) (by decide) (by decide) (by decide)
    obtain ⟨b', hb'⟩ : ∃ b', b' = upd (upd (upd (upd (upd (m 77) (67 + 4 * n) y) (67 + 4 * n + 1) z) (67 + 4 * n + 2) v) (67 + 4 * n + 3) w) 8 (nI (n + 1)) := ⟨_, rfl⟩
    have ho : ∀ j, j ≠ 8 → (j < 67 + 4 * n ∨ 67 + 4 * n + 4 ≤ j) → b' j = m 77 j := fun j x hj => by rw [hb', upd_off x, upd_off (by omega), upd_off (by omega), upd_off (by omega), upd_off (by omega)]
    have u8 : b' 8 = nI (n + 1) := by rw [hb', upd_at]
    have u0 : b' (67 + 4 * n + 0) = y := by rw [hb', upd_off (by omega), upd_off (by omega), upd_off (by omega), upd_off (by omega)]; exact upd_at
    have u1 : b' (67 + 4 * n + 1) = z := by rw [hb', upd_off (by omega), upd_off (by omega), upd_off (by omega), upd_at]
    have u2 : b' (67 + 4 * n + 2) = v := by rw [hb', upd_off (by omega), upd_off (by omega), upd_at]
    have u3 : b' (67 + 4 * n + 3) = w := by rw [hb', upd_off (by omega), upd_at]
    have hrep : repN b' = n + 1 := by unfold repN; rw [u8, nI_clamp (by omega)]
    have hK : KB m b' := by
      obtain ⟨g1, g7⟩ := KB_iff.mp h2
      refine KB_iff.mpr ⟨fun p c j hp => by rw [ho j (by unfold KBP at hp; omega) (by unfold KBP at hp; omega)]; exact g1 p c j hp, ?_⟩
      unfold heardN hN
      rw [ho _ (by omega) (by omega), ho _ (by omega) (by omega), ho _ (by omega) (by omega), ho _ (by omega) (by omega), ho _ (by omega) (by omega), ho _ (by omega) (by omega)]
      exact g7
    have hW' : WF b' := by
      rw [hb']
      exact WF_upd (WF_upd (WF_upd (WF_upd (WF_upd h1))))
    refine ⟨nI n, m1, mset m1 77 b', ?_, ?_, hI.c1 (fun p k q1 q0 => ?_) ⟨rs, ?_, ?_, ?_, ?_, ?_, ?_, ?_⟩⟩
    · rw [hk, h7.1, e8, if_neg (show ¬ (6 : Int32) ≤ nI n from nI_ge (a := n) (b := 6) hn6 (by decide))]
      unfold p_add
      have hwr : ∀ (p : Nat) (mm : M) (x : Int32), len p = 6 → wrI mm p (nI n) x = some (mset mm p (upd (mm p) n x)) := fun p mm x hp => wrI_at (by rw [hp]; exact hn6) (by rw [hp]; decide)
      rw [ltE, h7.1, e8, hwr 30 _ _ (by decide), Option.bind_some, hwr 31 _ _ (by decide), Option.bind_some, hwr 32 _ _ (by decide), Option.bind_some, hwr 33 _ _ (by decide), Option.bind_some, ltE, hm1]
      simp only [mset_ne (show (31 : Nat) ≠ 30 by decide), mset_ne (show (32 : Nat) ≠ 31 by decide), mset_ne (show (32 : Nat) ≠ 30 by decide), mset_ne (show (33 : Nat) ≠ 32 by decide), mset_ne (show (33 : Nat) ≠ 31 by decide), mset_ne (show (33 : Nat) ≠ 30 by decide), mset_ne (show (4 : Nat) ≠ 33 by decide), mset_ne (show (4 : Nat) ≠ 32 by decide), mset_ne (show (4 : Nat) ≠ 31 by decide), mset_ne (show (4 : Nat) ≠ 30 by decide)]
      rw [h7.1, e8, nI_1]
      rfl
    · rw [hr, rd77_8, hb1, Option.bind_some, e8, if_neg (fun q => by have := (nI_eq (b := 6) (by omega) (by decide)).mp q; omega), Option.bind_some, ltE, show (67 : Int32) = nI 67 by decide, show (4 : Int32) = nI 4 by decide, pk_mul, nI_add, wr77 (by omega), hb1, Option.bind_some, show nI (67 + 4 * n) + (1 : Int32) = nI (67 + 4 * n + 1) from nI_1 _, wr77 (by omega), mset_mset, mset_same, Option.bind_some, show nI (67 + 4 * n) + (2 : Int32) = nI (67 + 4 * n + 2) from nI_add _ 2, wr77 (by omega), mset_mset, mset_same, Option.bind_some, show nI (67 + 4 * n) + (3 : Int32) = nI (67 + 4 * n + 3) from nI_add _ 3, wr77 (by omega), mset_mset, mset_same, Option.bind_some, rd77_8, mset_same, upd_off (by omega), upd_off (by omega), upd_off (by omega), upd_off (by omega), e8, Option.bind_some, wr77_8, mset_mset, mset_same, nI_1, ← hb', Option.bind_some, rd77_8, mset_same, u8, Option.bind_some, nI_pred]
    · have := ne1 q1 q0
      rw [mset_ne (by omega), hne p (by omega) (by omega) (by omega) (by omega) (by omega)]
    · rw [mset_same]; exact hW'
    · rw [mset_same]
      exact hK.cong (fun p c j hp => by rw [mset_ne (by unfold KBP at hp; omega), hne p (by unfold KBP at hp; omega) (by unfold KBP at hp; omega) (by unfold KBP at hp; omega) (by unfold KBP at hp; omega) (by unfold KBP at hp; omega)]) (by rw [mset_ne (by decide), hne 1 (by decide) (by decide) (by decide) (by decide) (by decide)])
    · rw [mset_same, mset_ne (by decide), hne 1 (by decide) (by decide) (by decide) (by decide) (by decide), ho 2 (by decide) (by omega)]; exact h3
    · rw [mset_same]
      exact ⟨(ho 7 (by decide) (by omega)).trans h4.1, h4.2.congr (fun r _ => ⟨ho _ (by omega) (by omega), ho _ (by omega) (by omega), ho _ (by omega) (by omega)⟩) (fun j _ => ho _ (by omega) (by omega))⟩
    · unfold KR at *
      rw [mset_ne (by decide), mset_ne (by decide), mset_ne (by decide), mset_ne (by decide), mset_ne (by decide), hne 3 (by decide) (by decide) (by decide) (by decide) (by decide), hne 26 (by decide) (by decide) (by decide) (by decide) (by decide), hne 27 (by decide) (by decide) (by decide) (by decide) (by decide), hne 28 (by decide) (by decide) (by decide) (by decide) (by decide), hne 29 (by decide) (by decide) (by decide) (by decide) (by decide)]
      exact h5
    · rw [mset_same]
      refine ⟨by rw [u8]; exact bd_nI (by omega), fun r hr hr2 => ?_⟩
      rw [hrep] at hr2
      by_cases e : r = n
      · subst e; rw [u0]; exact le_bd (n := 15) (by decide) c1
      · rw [ho _ (by omega) (by omega)]; exact h6.2 r hr (by omega)
    · rw [mset_same]
      refine ⟨by rw [mset_ne (by decide), w4, u8], fun r hr hr2 => ?_⟩
      rw [hrep] at hr2
      rw [mset_ne (by decide), mset_ne (by decide), mset_ne (by decide), mset_ne (by decide), w30, w31, w32, w33]
      by_cases e : r = n
      · subst e; rw [upd_at, upd_at, upd_at, upd_at, u0, u1, u2, u3]; exact ⟨rfl, rfl, rfl, rfl⟩
      · rw [upd_off e, upd_off e, upd_off e, upd_off e, ho _ (by omega) (by omega), ho _ (by omega) (by omega), ho _ (by omega) (by omega), ho _ (by omega) (by omega)]
        exact h7.2 r hr (by omega)
