/-! rules: both sides -/
theorem WF.low {b b' : Nat → Int32} (h : WF b) (he : ∀ j, j < 67 → j ≠ 7 → b' j = b j) : WF b' := by
  refine ⟨⟨?_, ?_, ?_⟩, ?_, ?_, ?_, fun i hi => ?_, fun i hi => ?_, fun i hi => ?_, fun k hk => ⟨?_, ?_, ?_, ?_, ?_⟩, fun k hk1 hk => ?_⟩
  · rw [he 0 (by decide) (by decide)]; exact h.night
  · rw [he 1 (by decide) (by decide)]; exact h.fin
  · rw [he 0 (by decide) (by decide), he 1 (by decide) (by decide)]; exact h.le
  · rw [he 3 (by decide) (by decide)]; exact h.light
  · rw [he 4 (by decide) (by decide)]; exact h.fund
  · rw [he 6 (by decide) (by decide)]; exact h.many
  · rw [he _ (by omega) (by omega)]; exact h.ship i hi
  · rw [he _ (by omega) (by omega)]; exact h.hush i hi
  · rw [he _ (by omega) (by omega)]; exact h.zeal i hi
  · rw [he _ (by omega) (by omega)]; exact h.kind hk
  · rw [he _ (by omega) (by omega)]; exact h.votes hk
  · rw [he _ (by omega) (by omega)]; exact h.greed hk
  · rw [he _ (by omega) (by omega)]; exact h.bench hk
  · rw [he _ (by omega) (by omega)]; exact h.heard hk
  · rw [he _ (by omega) (by omega)]; rw [he 6 (by decide) (by decide)] at hk1; exact h.over k hk1 hk
theorem KB.low {m : M} {b b' : Nat → Int32} (h : KB m b) (he : ∀ j, j < 67 → j ≠ 7 → b' j = b j) : KB m b' := by
  obtain ⟨g1, g7⟩ := KB_iff.mp h
  refine KB_iff.mpr ⟨fun p c j hp => by rw [he j (by unfold KBP at hp; omega) (by unfold KBP at hp; omega)]; exact g1 p c j hp, ?_⟩
  unfold heardN hN
  rw [he _ (by omega) (by omega), he _ (by omega) (by omega), he _ (by omega) (by omega), he _ (by omega) (by omega), he _ (by omega) (by omega), he _ (by omega) (by omega)]
  exact g7
theorem RulesAt.into {g : Rl → List Nat} {kd wl en st kd' wl' en' st' : Nat → Int32} {rs : List Rl} (h : RulesAt g kd wl en st rs) (h1 : ∀ r, r < rs.length → kd' r = kd r ∧ wl' r = wl r ∧ en' r = en r) (h2 : ∀ j, j < (rs.flatMap g).length → st' j = st j) : RulesAt g kd' wl' en' st' rs := by
  refine ⟨h.1, h.2.1, fun r x hr => ?_, h.2.2.2.congr (fun j _ hj => h2 j (by omega))⟩
  have hlt : r < rs.length := by
    rcases Nat.lt_or_ge r rs.length with q | q
    · exact q
    · rw [List.getElem?_eq_none q] at hr; cases hr
  obtain ⟨b1, b2, b3⟩ := h1 r hlt
  obtain ⟨a1, a2, a3, a4⟩ := h.2.2.1 r x hr
  exact ⟨b1.trans a1, b2.trans a2, b3.trans a3, a4⟩
/-- the reference goes to its first word -/
theorem ref_pre {n : Nat} {t : Nat → Nat} {N : Nat} {K : Nat → Int32} (hB : pTB n t N K) {mm : M} (hm : RTp n t mm) : ∃ mr, r_rules mm = Option.bind (iter (fun z => r_rules_18b z.1 z.2.1 z.2.2) FU (nI 0, 1, mr)) (fun r => r_rules_42 r.1 r.2.1 r.2.2) ∧ gR n t N 0 [] mr ∧ frR mm mr := by
  obtain ⟨m1, hm1⟩ : ∃ m1, m1 = wrF (wrF mm 76 8 0) 76 13 0 := ⟨_, rfl⟩
  have k1 : Fl [8, 13] mm m1 := by rw [hm1]; exact (Fl_w (by simp)).trans (Fl_w (by simp))
  have a8 : m1 76 8 = nI 0 := by rw [hm1, wrF_off (by decide), wrF_at]; rfl
  obtain ⟨mr, f1, f2, f3, f4⟩ := r_next_eq hB.1 (hm.fk k1 (by decide)) (Nat.zero_le n) a8
  have hw : wNx n t 0 = wSt n t 0 := rfl
  rw [hw] at f3 f4
  refine ⟨mr, ?_, ⟨⟨(hm.fk k1 (by decide)).fk f2 (by decide), f3, ?_⟩, ?_, by decide, by decide, fun r x h => by simp at h, trivial⟩, ?_⟩
  · unfold r_rules r_rules_18
    rw [ltE, ltE, ← hm1, f1, Option.bind_some]
    rfl
  · rcases f4 with ⟨g1, g2, g3⟩ | ⟨g1, g2, g3⟩
    · refine Or.inl ⟨?_, g3⟩
      rcases Nat.lt_or_ge 0 N with h | h
      · have := (hB.2.2 0 h).1; omega
      · omega
    · refine Or.inr ⟨?_, g2, g3⟩
      rcases Nat.lt_or_ge 0 N with h | h
      · exact h
      · have e : N = 0 := by omega
        have := hB.2.1.2.1
        rw [e] at this
        omega
  · rw [f2.k (by decide), hm1, wrF_at]; rfl
  · intro p k h
    rw [f2 p k (fun q => h (Or.inr (Or.inr ⟨q.1, by have := q.2; revert this; simp; omega⟩))), k1 p k (fun q => h (Or.inr (Or.inr ⟨q.1, by have := q.2; revert this; simp; omega⟩)))]
def cpR (m : M) : M := cpF 200 45 29 (cpF 8 44 28 (cpF 8 43 27 (cpF 8 42 26 (wrF (wrF m 3 0 (m 8 0)) 3 5 (m 8 5)))))
theorem u_copyFrom_eq (m : M) : u_copyFrom m = some (cpR m) := by
  unfold u_copyFrom
  rw [ltE, ltE, b_copy_eq (n := 8) (by decide) (by decide) (by decide) (by decide), Option.bind_some, b_copy_eq (n := 8) (by decide) (by decide) (by decide) (by decide), Option.bind_some, b_copy_eq (n := 8) (by decide) (by decide) (by decide) (by decide), Option.bind_some, b_copy_eq (n := 200) (by decide) (by decide) (by decide) (by decide), Option.bind_some, wrF_ne (by decide)]
  rfl
theorem cpR_ne {m : M} {p : Nat} (h : p ≠ 3) (h1 : ¬ (26 ≤ p ∧ p ≤ 29)) : cpR m p = m p := by
  unfold cpR
  rw [cpF_ne (by omega), cpF_ne (by omega), cpF_ne (by omega), cpF_ne (by omega), wrF_ne h, wrF_ne h]
theorem cpR_3 {m : M} : cpR m 3 0 = m 8 0 := by
  unfold cpR
  rw [cpF_ne (by decide), cpF_ne (by decide), cpF_ne (by decide), cpF_ne (by decide), wrF_off (by decide), wrF_at]
theorem cpR_26 {m : M} {j : Nat} (hj : j < 8) : cpR m 26 j = m 42 j := by
  unfold cpR
  rw [cpF_ne (by decide), cpF_ne (by decide), cpF_ne (by decide), cpF_at hj, wrF_ne (by decide), wrF_ne (by decide)]
theorem cpR_27 {m : M} {j : Nat} (hj : j < 8) : cpR m 27 j = m 43 j := by
  unfold cpR
  rw [cpF_ne (by decide), cpF_ne (by decide), cpF_at hj, cpF_ne (by decide), wrF_ne (by decide), wrF_ne (by decide)]
theorem cpR_28 {m : M} {j : Nat} (hj : j < 8) : cpR m 28 j = m 44 j := by
  unfold cpR
  rw [cpF_ne (by decide), cpF_at hj, cpF_ne (by decide), cpF_ne (by decide), wrF_ne (by decide), wrF_ne (by decide)]
theorem cpR_29 {m : M} {j : Nat} (hj : j < 200) : cpR m 29 j = m 45 j := by
  unfold cpR
  rw [cpF_at hj, cpF_ne (by decide), cpF_ne (by decide), cpF_ne (by decide), wrF_ne (by decide), wrF_ne (by decide)]
theorem sc_all {p k : Nat} (h : cl p k ≠ 0) : ¬ (p = 42 ∨ p = 43 ∨ p = 44 ∨ p = 45 ∨ (p = 7 ∧ k = 4) ∨ p = 8) ∧ ¬ (p = 83 ∨ p = 84 ∨ (p = 76 ∧ k ∈ [8, 9, 10, 11, 12, 13])) ∧ p ≠ 47 ∧ p ≠ 48 := by
  obtain ⟨a, b, _, d, _⟩ := sc_of (cl_sc h)
  refine ⟨by omega, ?_, by omega, by omega⟩
  rintro (e | e | ⟨e, e2⟩)
  · omega
  · omega
  · exact b ⟨e, by revert e2; simp; omega⟩
theorem ok_rules {m : M} (hI : INV m) : OK_rules INV m := by
  obtain ⟨rs0, h1, h2, h3, h4, h5, h6, h7⟩ := hI.1
  obtain ⟨n, t1, t2, t3, t4⟩ := hI.2.2.2.2.2.1
  obtain ⟨t, ht⟩ : ∃ t : Nat → Nat, t = fun j => (m 46 j).toNatClampNeg := ⟨_, rfl⟩
  have htc : ∀ j, j < n → t j < 256 ∧ m 46 j = nI (t j) ∧ m 81 j = nI (t j) := fun j hj => by
    obtain ⟨c, c1, c2, c3⟩ := t4 j hj
    have e : t j = c := by rw [ht]; show (m 46 j).toNatClampNeg = c; rw [c2, nI_clamp (by omega)]
    rw [e]
    exact ⟨c1, c2, c3⟩
  have hT : TXT n t := ⟨t1, fun j hj => (htc j hj).1⟩
  have hCm : CTp n t m := ⟨t2, fun j hj => (htc j hj).2.1⟩
  have hRm : RTp n t m := ⟨t3, fun j hj => (htc j hj).2.2, hI.2.2.2.2.2.2.2⟩
  obtain ⟨N, m1, s1, s2, s3⟩ := t_split_eq hT hCm
  obtain ⟨m3, hm3⟩ : ∃ m3, m3 = wrF (wrF (wrF m1 7 4 0) 8 0 0) 8 5 0 := ⟨_, rfl⟩
  obtain ⟨K, hK⟩ : ∃ K, K = m1 47 := ⟨_, rfl⟩
  have hB : pTB n t N K := ⟨hT, ⟨s2.1.1, s2.1.2.1, by rw [hK]; exact s2.1.2.2.1⟩, fun i hi => ⟨(s2.2 i hi).1, by rw [hK]; exact (s2.2 i hi).2.1⟩⟩
  have hN : N ≤ n := s2.1.1
  have e3 : ∀ p, p ≠ 7 → p ≠ 8 → m3 p = m1 p := fun p x1 x2 => by rw [hm3, wrF_ne x2, wrF_ne x2, wrF_ne x1]
  have e70 : ∀ k, k ≠ 4 → m3 7 k = m1 7 k := fun k hk => by rw [hm3, wrF_ne (by decide), wrF_ne (by decide), wrF_off hk]
  have hgC : gC K N 0 [] m3 := ⟨⟨by rw [e3 47 (by decide) (by decide), hK], by rw [hm3, wrF_ne (by decide), wrF_ne (by decide), wrF_at]; rfl, Nat.zero_le _, by rw [hm3, wrF_at]; rfl, by decide⟩, by rw [hm3, wrF_off (by decide), wrF_at]; rfl, by decide, by decide, fun r x h => by simp at h, trivial⟩
  have hfr3 : ∀ p k, cl p k ≠ 0 → m3 p k = m p k := fun p k h => by
    obtain ⟨a1, a2, a3, a4⟩ := sc_all h
    by_cases e : p = 7
    · subst e; rw [e70 k (by omega), s3 7 a3 a4]
    · rw [e3 p e (by omega), s3 p a3 a4]
  have hrun : t_readInto m = Option.bind (iter (fun z => t_readInto_15b z.1 z.2) FU (nI 0, m3)) (fun r => (match r with
  | .inl r => some ((-1 : Int32), r)
  | .inr r => t_readInto_43 r)) := by
    unfold t_readInto u_clear
    rw [s1, Option.bind_some, ltE, ltE, ltE, Option.bind_some, ← hm3]
    rfl
  have H := fun mr (hg : gR n t N 0 [] mr) => rules_loop hB (N + 1) 0 FU FU [] m3 mr (by omega) (by unfold FU; omega) (by unfold FU; omega) hgC hg (Nat.le_refl _) (Nat.le_refl _)
  have hRT : ∀ m' : M, m' 76 6 = m 76 6 → m' 81 = m 81 → m' 82 = m 82 → RTp n t m' := fun m' x1 x2 x3 => ⟨x1.trans hRm.1, fun j hj => by rw [x2]; exact hRm.2.1 j hj, x3.trans hRm.2.2⟩
  obtain ⟨mr0, _, d2, _⟩ := ref_pre hB hRm
  rcases H mr0 d2 with ⟨mc, _, _, _, w1, _, _, _, w5, _⟩ | ⟨mc, _, i1, _, w1, _, w3, w4, w5, _⟩
  · have hfrc : ∀ p k, cl p k ≠ 0 → mc p k = m p k := fun p k h => (w5 p k (sc_all h).1).trans (hfr3 p k h)
    obtain ⟨m4, hm4⟩ : ∃ m4, m4 = wrF mc 7 0 0 := ⟨_, rfl⟩
    obtain ⟨mK, hmK⟩ : ∃ mK, mK = cpR m4 := ⟨_, rfl⟩
    have hk : k_rules m = some (mK 3 0, mK) := by
      unfold k_rules
      rw [hrun, show iter (fun z => t_readInto_15b z.1 z.2) FU (nI 0, m3) = _ from w1, Option.bind_some]
      show Option.bind (some ((-1 : Int32), mc)) _ = _
      rw [Option.bind_some, ltE, if_pos (show (-1 : Int32) < 0 by decide), ← hm4, u_copyFrom_eq, Option.bind_some, ← hmK]
    have eK : ∀ p, p ≠ 3 → ¬ (26 ≤ p ∧ p ≤ 29) → p ≠ 7 → mK p = mc p := fun p x1 x2 x3 => by rw [hmK, cpR_ne x1 x2, hm4, wrF_ne x3]
    have eK7 : ∀ k, k ≠ 0 → mK 7 k = mc 7 k := fun k hk => by rw [hmK, cpR_ne (by decide) (by decide), hm4, wrF_off hk]
    have eK70 : mK 7 0 = 0 := by rw [hmK, cpR_ne (by decide) (by decide), hm4, wrF_at]
    have c81 : ∀ k, cl 81 k ≠ 0 := fun k => by rw [cl_6 (scp (by omega)) (by omega)]; decide
    have c82 : ∀ k, cl 82 k ≠ 0 := fun k => by rw [cl_8]; decide
    obtain ⟨mr1, b1, b2, b3⟩ := ref_pre hB (hRT mK (by rw [eK 76 (by decide) (by decide) (by decide)]; exact hfrc 76 6 (by decide)) (by rw [eK 81 (by decide) (by decide) (by decide)]; exact funext fun k => hfrc 81 k (c81 k)) (by rw [eK 82 (by decide) (by decide) (by decide)]; exact funext fun k => hfrc 82 k (c82 k)))
    rcases H mr1 b2 with ⟨mc', mr', i', rs, v1, v2, v3, v4, v5, v6⟩ | ⟨mc', mr', i', a, v1, _⟩
    · have emc : mc' = mc := by
        have := v1.symm.trans w1
        simpa using this
      rw [emc] at v3
      obtain ⟨⟨q1, q2, q3, q4, q5⟩, q6, q7⟩ := v3
      obtain ⟨⟨_, _, _⟩, u2, u3⟩ := v4
      obtain ⟨mf, x1, x2, x3, x4, x5, x6, x7⟩ := r_rules_42_ok (m := mr') (q := rs.length) (L := (rs.flatMap Rl.rc).length) u3.1 u3.2.1 u2
      have hr : r_rules mK = some (nI rs.length, mf) := by
        rw [b1, show iter (fun z => r_rules_18b z.1 z.2.1 z.2.2) FU (nI 0, 1, mr1) = _ from v2, Option.bind_some]
        exact x1
      have hK3 : mK 3 0 = nI rs.length := by rw [hmK, cpR_3, hm4, wrF_ne (by decide), q6]
      have hff : ∀ p k, cl p k ≠ 0 → p ≠ 77 → ¬ (p = 76 ∧ k = 6) → mf p k = mK p k := fun p k h y1 y2 => by
        have := (sc_all h).2.1
        rw [x3 p k y1 y2, v6 p k this, b3 p k this]
      have hfm : ∀ p k, cl p k ≠ 0 → p ≠ 77 → ¬ (p = 76 ∧ k = 6) → p ≠ 3 → ¬ (26 ≤ p ∧ p ≤ 29) → ¬ (p = 7 ∧ k = 0) → mf p k = m p k := fun p k h y1 y2 y3 y4 y5 => by
        rw [hff p k h y1 y2]
        by_cases e : p = 7
        · subst e
          rw [eK7 k (fun z => y5 ⟨rfl, z⟩)]
          exact hfrc 7 k h
        · rw [eK p y3 y4 e]
          exact hfrc p k h
      have c77 : ∀ k, cl 77 k ≠ 0 := fun k => by rw [cl_1 (scp (by omega)) (by omega)]; decide
      have hb : ∀ j, j < 91 → j ≠ 7 → mf 77 j = m 77 j := fun j y1 y2 => by
        have hs := (sc_all (c77 j)).2.1
        rw [x7 j y1 y2, v6 77 j hs, b3 77 j hs, eK 77 (by decide) (by decide) (by decide)]
        exact hfrc 77 j (c77 j)
      have c3 : ∀ p k, (p = 3 ∨ p = 4 ∨ (10 ≤ p ∧ p ≤ 16) ∨ (26 ≤ p ∧ p ≤ 33)) → cl p k ≠ 0 := fun p k h => by rw [cl_1 (scp (by omega)) (by omega)]; decide
      have c1 : ∀ k, k ≠ 8 → cl 1 k ≠ 0 := fun k h => by rw [cl_1 (sc1 h) (by omega)]; decide
      have hrow : ∀ p, (p = 4 ∨ (10 ≤ p ∧ p ≤ 16) ∨ (30 ≤ p ∧ p ≤ 33)) → mf p = m p := fun p h => funext fun k => hfm p k (c3 p k (by omega)) (by omega) (by omega) (by omega) (by omega) (by omega)
      have hrowK : ∀ p, (p = 3 ∨ (26 ≤ p ∧ p ≤ 29)) → mf p = mK p := fun p h => funext fun k => hff p k (c3 p k (by omega)) (by omega) (by omega)
      have hone : ∀ k, k ≠ 8 → mf 1 k = m 1 k := fun k h => hfm 1 k (c1 k h) (by decide) (by omega) (by decide) (by omega) (by omega)
      have hNOW : NOW mf := by
        refine ⟨rs, h1.low (fun j y1 y2 => hb j (by omega) y2), ?_, ?_, ⟨x4, u3.into (fun r hr => ⟨?_, ?_, ?_⟩) (fun j hj => x6 j hj)⟩, ⟨?_, q7.into (fun r hr => ?_) (fun j hj => ?_)⟩, ⟨?_, fun r hr hr2 => ?_⟩, ⟨?_, fun r hr hr2 => ?_⟩⟩
        · refine (h2.cong (m' := mf) (fun p c j hp => ?_) (hone 7 (by decide))).low (fun j y1 y2 => hb j (by omega) y2)
          by_cases e : p = 1
          · subst e; exact hone c (by unfold KBP at hp; omega)
          · rw [hrow p (by unfold KBP at hp; omega)]
        · rw [hone 4 (by decide), hb 2 (by decide) (by decide)]; exact h3
        · show mf 77 (91 + 3 * r + 0) = _
          rw [Nat.add_zero, x5 _ (by omega)]
        · show mf 77 (91 + 3 * r + 1) = _
          rw [Nat.add_assoc, x5 _ (by omega)]
        · show mf 77 (91 + 3 * r + 2) = _
          rw [Nat.add_assoc, x5 _ (by omega)]
        · rw [hrowK 3 (by omega)]; exact hK3
        · have hr8 : r < 8 := by have := q7.1; omega
          rw [hrowK 26 (by omega), hrowK 27 (by omega), hrowK 28 (by omega), hmK, cpR_26 hr8, cpR_27 hr8, cpR_28 hr8, hm4, wrF_ne (by decide), wrF_ne (by decide), wrF_ne (by decide)]
          exact ⟨rfl, rfl, rfl⟩
        · have := q7.2.1
          rw [hrowK 29 (by omega), hmK, cpR_29 (by omega), hm4, wrF_ne (by decide)]
        · rw [hb 8 (by decide) (by decide)]; exact h6.1
        · have e8 : repN (mf 77) = repN (m 77) := by unfold repN; rw [hb 8 (by decide) (by decide)]
          rw [hb _ (by omega) (by omega)]
          exact h6.2 r hr (by omega)
        · rw [hrow 4 (by omega), hb 8 (by decide) (by decide)]; exact h7.1
        · have e8 : repN (mf 77) = repN (m 77) := by unfold repN; rw [hb 8 (by decide) (by decide)]
          rw [hrow 30 (by omega), hrow 31 (by omega), hrow 32 (by omega), hrow 33 (by omega), hb _ (by omega) (by omega), hb _ (by omega) (by omega), hb _ (by omega) (by omega), hb _ (by omega) (by omega)]
          exact h7.2 r hr (by omega)
      have hTAPE : TAPE mf := ⟨0, by decide, by rw [hff 7 0 (by decide) (by decide) (by decide), eK70]; rfl, by rw [x2]; rfl, fun j hj => absurd hj (by omega)⟩
      have hS : ∀ d, d ≠ 0 → d ≠ 1 → d ≠ 6 → Sm1 d m mf := fun d z0 z1 z6 p k hd => by
        refine hfm p k (by omega) ?_ ?_ ?_ ?_ ?_
        · intro e; subst e; rw [cl_1 (scp (by omega)) (by omega)] at hd; omega
        · rintro ⟨e, e2⟩; subst e; subst e2; rw [show cl 76 6 = 6 by decide] at hd; omega
        · intro e; subst e; rw [cl_1 (scp (by omega)) (by omega)] at hd; omega
        · intro e; rw [cl_1 (scp (by omega)) (by omega)] at hd; omega
        · rintro ⟨e, e2⟩; subst e; subst e2; rw [show cl 7 0 = 6 by decide] at hd; omega
      exact ⟨nI rs.length, mK, mf, by rw [hk, hK3], hr, hNOW, hI.2.1.cong (hS 2 (by decide) (by decide) (by decide)), hI.2.2.1.cong (hS 3 (by decide) (by decide) (by decide)), hI.2.2.2.1.cong (hS 4 (by decide) (by decide) (by decide)), hI.2.2.2.2.1.cong (hS 5 (by decide) (by decide) (by decide)), hTAPE, hI.2.2.2.2.2.2.1.cong (hS 7 (by decide) (by decide) (by decide)), hI.2.2.2.2.2.2.2.cong (hS 8 (by decide) (by decide) (by decide))⟩
    · have := v1.symm.trans w1
      simp at this
  · have hfrc : ∀ p k, cl p k ≠ 0 → mc p k = m p k := fun p k h => (w5 p k (sc_all h).1).trans (hfr3 p k h)
    have r48 : mc 48 = m1 48 := by
      rw [show mc 48 = m3 48 from funext fun j => w5 48 j (by omega), e3 48 (by decide) (by decide)]
    have hw48 : m1 48 i1 = nI (wSt n t i1) := by
      rcases Nat.lt_or_ge i1 N with q | q
      · exact (s2.2 i1 q).2.2
      · have e : i1 = N := by omega
        rw [e, s2.1.2.2.2, s2.1.2.1]
    have hle : wSt n t i1 ≤ n := by
      rcases Nat.lt_or_ge i1 N with q | q
      · have := (s2.2 i1 q).1; omega
      · have e : i1 = N := by omega
        rw [e, s2.1.2.1]; exact Nat.le_refl _
    obtain ⟨m4, hm4⟩ : ∃ m4, m4 = wrF mc 7 0 0 := ⟨_, rfl⟩
    have hk : k_rules m = some (-100 - nI (wSt n t i1), m4) := by
      unfold k_rules
      rw [hrun, show iter (fun z => t_readInto_15b z.1 z.2) FU (nI 0, m3) = _ from w1, Option.bind_some]
      show Option.bind (t_readInto_43 mc) _ = _
      unfold t_readInto_43
      rw [w4, rdI_at (by rw [len48]; omega) (by rw [len48]; decide), r48, hw48, Option.bind_some, Option.bind_some, ltE, if_neg (nI_pos (by omega)), ← hm4]
    have c81 : ∀ k, cl 81 k ≠ 0 := fun k => by rw [cl_6 (scp (by omega)) (by omega)]; decide
    have c82 : ∀ k, cl 82 k ≠ 0 := fun k => by rw [cl_8]; decide
    have e4 : ∀ p, p ≠ 7 → m4 p = mc p := fun p h => by rw [hm4, wrF_ne h]
    obtain ⟨mr1, b1, b2, b3⟩ := ref_pre hB (hRT m4 (by rw [e4 76 (by decide)]; exact hfrc 76 6 (by decide)) (by rw [e4 81 (by decide)]; exact funext fun k => hfrc 81 k (c81 k)) (by rw [e4 82 (by decide)]; exact funext fun k => hfrc 82 k (c82 k)))
    rcases H mr1 b2 with ⟨mc', mr', i', rs, v1, _⟩ | ⟨mc', mr', i', a, v1, v2, v3, v4, v5, v6, v7⟩
    · have := v1.symm.trans w1
      simp at this
    · have emc : mc' = mc := by
        have := v1.symm.trans w1
        simpa using this
      rw [emc] at v4
      have ei : i' = i1 := (nI_eq (by omega) (by omega)).mp (v4.symm.trans w4)
      refine ⟨-100 - nI (wSt n t i1), m4, wrF mr' 76 6 0, hk, ?_, hI.c6 (fun p k z6 z0 => ?_) ⟨0, by decide, ?_, ?_, fun j hj => absurd hj (by omega)⟩⟩
      · rw [b1, show iter (fun z => r_rules_18b z.1 z.2.1 z.2.2) FU (nI 0, 1, mr1) = _ from v2, Option.bind_some]
        show r_rules_42 a 0 mr' = _
        unfold r_rules_42
        rw [ltE, if_pos rfl, wrF_off (by decide), v6, ei]
      · have hs := (sc_all z0).2.1
        have h76 : ¬ (p = 76 ∧ k = 6) := by
          rintro ⟨e, e2⟩; subst e; subst e2; exact z6 (by decide)
        have h70 : ¬ (p = 7 ∧ k = 0) := by
          rintro ⟨e, e2⟩; subst e; subst e2; exact z6 (by decide)
        have x1 : wrF mr' 76 6 0 p k = mr' p k := by
          by_cases e : p = 76
          · subst e; rw [wrF_off (fun z => h76 ⟨rfl, z⟩)]
          · rw [wrF_ne e]
        have x2 : m4 p k = mc p k := by
          by_cases e : p = 7
          · subst e; rw [hm4, wrF_off (fun z => h70 ⟨rfl, z⟩)]
          · rw [e4 p e]
        rw [x1, v7 p k hs, b3 p k hs, x2]
        exact hfrc p k z0
      · rw [wrF_ne (by decide), v7 7 0 (by decide), b3 7 0 (by decide), hm4, wrF_at]; rfl
      · rw [wrF_at]; rfl
