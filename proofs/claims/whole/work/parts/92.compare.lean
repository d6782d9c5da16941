/-! reading a comparison on both sides -/
def jOK (n : Nat) (t : Nat → Nat) (N : Nat) (K : Nat → Int32) (lev D : Nat) (f g : M → Option (Int32 × M)) (i Lc Lr : Nat) (mc mr : M) : Prop := ∃ mc' mr' i' c, f mc = some (1, mc') ∧ g mr = some (1, mr') ∧ (i < i' ∧ CD.ok c ∧ c.dep ≤ D ∧ c.cc.length + i ≤ i' ∧ c.rc.length + i ≤ i') ∧ (pC K N i' (Lc + c.cc.length) mc' ∧ CodeAt (mc' 45) Lc c.cc ∧ fC Lc mc mc') ∧ (pR n t N i' mr' ∧ mr' 76 12 = nI lev ∧ mr' 76 13 = nI (Lr + c.rc.length) ∧ CodeAt (mr' 83) Lr c.rc ∧ fR Lr mr mr')
def jNO (n : Nat) (t : Nat → Nat) (N : Nat) (f g : M → Option (Int32 × M)) (mc mr : M) : Prop := ∃ mc' mr' i', f mc = some (0, mc') ∧ g mr = some (0, mr') ∧ i' ≤ N ∧ (mc' 7 4 = nI i' ∧ (∃ L, L ≤ 200 ∧ mc' 8 5 = nI L) ∧ fC 0 mc mc') ∧ (mr' 76 9 = nI (wSt n t i') ∧ fR 0 mr mr')
def pJ (n : Nat) (t : Nat → Nat) (N : Nat) (K : Nat → Int32) (lev D : Nat) (f g : M → Option (Int32 × M)) : Prop := ∀ i Lc Lr mc mr, pC K N i Lc mc → pR n t N i mr → mr 76 12 = nI lev → mr 76 13 = nI Lr → Lc ≤ i → Lr ≤ i → jOK n t N K lev D f g i Lc Lr mc mr ∨ jNO n t N f g mc mr
theorem rv_lt {l : Nat} (h : 13 ≤ l ∧ l ≤ 10017) : rv l ≤ 10004 := by unfold rv; split <;> omega
/-- a value: the words 13 to 10017 of the class -/
theorem tk_value {c r v : Int32} (h : TKx c r v) : (∃ l, (13 ≤ l ∧ l ≤ 10017) ∧ c = nI l ∧ ((r = 100 ∧ v = nI (rv l)) ∨ (¬ r = 100 ∧ (13 ≤ r ∧ r ≤ 17) ∧ (10000 + r) - 13 = nI (rv l)))) ∨ (¬ ((13 : Int32) ≤ c ∧ c ≤ 10017) ∧ ¬ r = 100 ∧ ¬ ((13 : Int32) ≤ r ∧ r ≤ 17)) := by
  have c13 : ∀ k, k < 2 ^ 31 → ((13 : Int32) ≤ nI k ↔ 13 ≤ k) := fun k hk => nI_leI (a := 13) (by decide) hk
  have c17 : ∀ k, k < 2 ^ 31 → (nI k ≤ (17 : Int32) ↔ k ≤ 17) := fun k hk => nI_leI (b := 17) hk (by decide)
  have cX : ∀ k, k < 2 ^ 31 → (nI k ≤ (10017 : Int32) ↔ k ≤ 10017) := fun k hk => nI_leI (b := 10017) hk (by decide)
  have c100 : ∀ k, k < 2 ^ 31 → (nI k = (100 : Int32) ↔ k = 100) := fun k hk => nI_eq (b := 100) hk (by decide)
  rcases h with (⟨k, hk, rfl, rfl⟩ | ⟨y, hy, rfl, rfl, rfl⟩ | ⟨j, hj, rfl, rfl⟩ | ⟨rfl, y, h1, h2, rfl, h4⟩) | ⟨rfl, rfl⟩
  · have hs := sw_lt hk
    by_cases c : 13 ≤ k
    · have e : sw k = k := by unfold sw; rw [if_neg (by omega), if_neg (by omega)]
      refine Or.inl ⟨k, ⟨c, by omega⟩, rfl, Or.inr ⟨?_, ?_, ?_⟩⟩
      · rw [c100 _ (by omega)]; omega
      · rw [c13 _ (by omega), c17 _ (by omega)]; omega
      · rw [e, show (10000 : Int32) = nI 10000 from rfl, nI_add, show (13 : Int32) = nI 13 from rfl, pk_sub (by omega)]
        unfold rv
        rw [if_pos (by omega)]
        congr 1
        omega
    · refine Or.inr ⟨?_, ?_, ?_⟩
      · rw [c13 _ (by omega)]; omega
      · rw [c100 _ (by omega)]; omega
      · rw [c13 _ (by omega)]
        have : sw k = k ∨ sw k = 10 ∨ sw k = 12 := by unfold sw; split <;> (try split) <;> omega
        omega
  · refine Or.inl ⟨18 + y, by omega, rfl, Or.inl ⟨rfl, ?_⟩⟩
    unfold rv
    rw [if_neg (by omega)]
    congr 1
    omega
  · have := sgn_hi j hj
    refine Or.inr ⟨?_, ?_, ?_⟩
    · rw [cX _ (by omega)]; omega
    · rw [c100 _ (by omega)]; omega
    · rw [c17 _ (by omega)]; omega
  · refine Or.inr ⟨by decide, ?_, ?_⟩
    · rw [c100 _ (by omega)]; omega
    · rw [c17 _ (by omega)]; omega
  · exact Or.inr ⟨by decide, by decide, by decide⟩
theorem oneAnd : ((1 : Int32) &&& 1) = 1 := by decide
theorem zeroAnd : ((0 : Int32) &&& 1) = 0 := by decide
theorem r_value {n : Nat} {t : Nat → Nat} {N : Nat} {K : Nat → Int32} {i L : Nat} {m : M} (hB : pTB n t N K) (hR : pR n t N i m) (h13 : m 76 13 = nI L) (hL : L < 200) : (∃ l m1, (13 ≤ l ∧ l ≤ 10017) ∧ K i = nI l ∧ i < N ∧ r_readsValue m = some (1, m1) ∧ pR n t N (i + 1) m1 ∧ m1 76 13 = nI (L + 1) ∧ m1 76 12 = m 76 12 ∧ m1 83 L = nI (rv l) ∧ fR L m m1) ∨ (¬ ((13 : Int32) ≤ K i ∧ K i ≤ 10017) ∧ r_readsValue m = some (0, m)) := by
  rcases tk_value (pTK hB hR) with ⟨l, hl, hc, hr⟩ | ⟨h1, h2, h3⟩
  · have hi : i < N := by
      rcases hR.2.2 with ⟨g1, g2⟩ | ⟨g1, _⟩
      · rw [g2] at hr
        rcases hr with ⟨q, _⟩ | ⟨_, q, _⟩
        · exact absurd q (by decide)
        · exact absurd q (by decide)
      · exact g1
    have hx : ∀ v, v = nI (rv l) → ∃ m1, r_readsValue_61 1 v m = some (1, m1) ∧ pR n t N (i + 1) m1 ∧ m1 76 13 = nI (L + 1) ∧ m1 76 12 = m 76 12 ∧ m1 83 L = nI (rv l) ∧ fR L m m1 := fun v hv => by
      obtain ⟨m1, f1, f2, f3, f4, f5⟩ := p_lays hL h13 v
      obtain ⟨m2, g1, g2, g3⟩ := p_next hB (lays_pR hR f5) hi
      refine ⟨m2, ?_, g2, (g3.k (by decide)).trans f2, (g3.k (by decide)).trans (f5 76 12 (by decide) (by decide)), by rw [g3.p (by decide), f3, hv], (lays_fR f4 f5).trans (g3.fR (by decide) L)⟩
      unfold r_readsValue_61
      rw [f1, Option.bind_some, g1, Option.bind_some, oneAnd]
    rcases hr with ⟨e1, e2⟩ | ⟨e1, e2, e3⟩
    · obtain ⟨m1, f⟩ := hx _ e2
      refine Or.inl ⟨l, m1, hl, hc, hi, ?_, f.2⟩
      unfold r_readsValue r_readsValue_23 r_readsValue_28
      rw [if_pos e1, if_neg one_ne, if_pos e1]
      exact f.1
    · obtain ⟨m1, f⟩ := hx _ e3
      refine Or.inl ⟨l, m1, hl, hc, hi, ?_, f.2⟩
      unfold r_readsValue r_readsValue_23 r_readsValue_28
      rw [if_neg e1, in1_t e2, Option.bind_some, if_neg one_ne, if_neg one_ne, if_neg e1]
      exact f.1
  · refine Or.inr ⟨h1, ?_⟩
    unfold r_readsValue r_readsValue_28
    rw [if_neg h2, in1_f h3, Option.bind_some, if_pos rfl, if_pos rfl, zeroAnd]
theorem sign_in {c r v : Int32} (h : TKx c r v) : (∃ s, (s = 10018 ∨ s = 10019 ∨ s = 10020) ∧ c = nI s ∧ ((r = 260 ∧ s = 10018) ∨ (r = 261 ∧ s = 10019) ∨ (r = 262 ∧ s = 10020))) ∨ (¬ ((10018 : Int32) ≤ c ∧ c ≤ 10020) ∧ ¬ r = 260 ∧ ¬ r = 261 ∧ ¬ r = 262) := by
  have h0 := tk_sign h (x := 0) (by decide)
  have h1 := tk_sign h (x := 1) (by decide)
  have h2 := tk_sign h (x := 2) (by decide)
  rw [show (200 + sgn 0) = 260 from rfl, show nI 260 = 260 from rfl] at h0
  rw [show (200 + sgn 1) = 261 from rfl, show nI 261 = 261 from rfl] at h1
  rw [show (200 + sgn 2) = 262 from rfl, show nI 262 = 262 from rfl] at h2
  by_cases c0 : c = nI 10018
  · exact Or.inl ⟨10018, Or.inl rfl, c0, Or.inl ⟨h0.mp c0, rfl⟩⟩
  · by_cases c1 : c = nI 10019
    · exact Or.inl ⟨10019, Or.inr (Or.inl rfl), c1, Or.inr (Or.inl ⟨h1.mp c1, rfl⟩)⟩
    · by_cases c2 : c = nI 10020
      · exact Or.inl ⟨10020, Or.inr (Or.inr rfl), c2, Or.inr (Or.inr ⟨h2.mp c2, rfl⟩)⟩
      · refine Or.inr ⟨fun q => ?_, fun q => c0 (h0.mpr q), fun q => c1 (h1.mpr q), fun q => c2 (h2.mpr q)⟩
        obtain ⟨j, hj, rfl⟩ := (in_le (v := c) (n := 10020) (by decide)).mp ⟨Int32.le_trans (by decide) q.1, q.2⟩
        have := (nI_leI (a := 10018) (by decide) (by omega)).mp q.1
        have hx : j = 10018 ∨ j = 10019 ∨ j = 10020 := by omega
        rcases hx with e | e | e
        · exact c0 (by rw [e])
        · exact c1 (by rw [e])
        · exact c2 (by rw [e])
theorem sm8 {s : Nat} (h : s = 10018 ∨ s = 10019 ∨ s = 10020) : nI (s - 8) ≠ 0 := by rcases h with rfl | rfl | rfl <;> decide
theorem cmp_ok {n : Nat} {t : Nat → Nat} {N : Nat} {K : Nat → Int32} (hB : pTB n t N K) (lev : Nat) : pJ n t N K lev 1 t_readsComparison r_readsLike := by
  intro i Lc Lr mc mr hC hR h12 h13 hLc hLr
  have hn := hB.1.1
  have hN := hB.2.1.1
  have hi := hC.2.2.1
  have ne : ∀ l, l < 2 ^ 31 → ¬ nI l = -1 := fun l hl q => m1_ne hl q.symm
  unfold jOK jNO
  unfold t_readsComparison r_readsLike
  rcases c_next hB hC (a := 13) (b := 10017) (by decide) with ⟨a1, a2, a3, m1, a4, a5, a6⟩ | ⟨a1, a2⟩
  · rcases r_value hB hR h13 (by omega) with ⟨l, q1, hl, hl2, _, b1, b2, b3, b4, b5, b6⟩ | ⟨b1, _⟩
    · rw [a4, Option.bind_some, if_neg (show ¬ K i = -1 by rw [hl2]; exact ne l (by omega)), b1, Option.bind_some, if_neg one_ne]
      rcases c_next hB a5 (a := 10018) (b := 10020) (by decide) with ⟨d1, d2, d3, m2, d4, d5, d6⟩ | ⟨d1, d2⟩
      · rcases sign_in (pTK hB b2) with ⟨s, hs, hs2, hs3⟩ | ⟨hs, _⟩
        · rw [d4, Option.bind_some, if_neg (show ¬ K (i + 1) = -1 by rw [hs2]; exact ne s (by omega))]
          have hrun : (if q1 76 10 = (260 : Int32) then r_readsLike_58 (10010 : Int32) q1 else (if q1 76 10 = (261 : Int32) then r_readsLike_58 (10011 : Int32) q1 else (if q1 76 10 = (262 : Int32) then r_readsLike_58 (10012 : Int32) q1 else r_readsLike_58 (0 : Int32) q1))) = r_readsLike_58 (nI (s - 8)) q1 := by
            rcases hs3 with ⟨e1, e2⟩ | ⟨e1, e2⟩ | ⟨e1, e2⟩
            · rw [if_pos e1, e2]; rfl
            · rw [if_neg (by rw [e1]; decide), if_pos e1, e2]; rfl
            · rw [if_neg (by rw [e1]; decide), if_neg (by rw [e1]; decide), if_pos e1, e2]; rfl
          rw [hrun]
          unfold r_readsLike_58
          rw [if_neg (sm8 hs)]
          obtain ⟨q2, e1, e2, e3⟩ := p_next hB b2 d3
          rw [e1, Option.bind_some]
          rcases c_next hB d5 (a := 13) (b := 10017) (by decide) with ⟨g1, g2, g3, m3, g4, g5, g6⟩ | ⟨g1, g2⟩
          · rcases r_value hB e2 ((e3.k (by decide)).trans b3) (by omega) with ⟨r, q3, hr, hr2, _, j1, j2, j3, j4, j5, j6⟩ | ⟨j1, _⟩
            · rw [g4, Option.bind_some, if_neg (show ¬ K (i + 1 + 1) = -1 by rw [hr2]; exact ne r (by omega)), j1, Option.bind_some, if_neg one_ne]
              obtain ⟨m4, x1, x2, x3, x4⟩ := c_add g5 (by omega : Lc < 200) (K (i + 1))
              obtain ⟨m5, y1, y2, y3, y4⟩ := c_add x2 (by omega : Lc + 1 < 200) (K i)
              obtain ⟨m6, z1, z2, z3, z4⟩ := c_add y2 (by omega : Lc + 1 + 1 < 200) (K (i + 1 + 1))
              obtain ⟨q4, w1, w2, w3, w4, w5⟩ := p_lays (by omega : Lr + 1 + 1 < 200) j3 (nI (s - 8))
              have r7 : q4 76 7 = q4 76 7 := rfl
              refine Or.inl ⟨m6, q4, i + 1 + 1 + 1, CD.cmp l s r, ?_, ?_, ⟨by omega, CD.ok_cmp hl hs hr, by rw [CD.dep_cmp]; exact Nat.le_refl _, by rw [CD.cc_cmp]; show 3 + i ≤ _; omega, by rw [CD.rc_cmp]; show 3 + i ≤ _; omega⟩, ⟨z2, ?_, ?_⟩, ⟨lays_pR j2 w5, ?_, w2, ?_, ?_⟩⟩
              · rw [x1, Option.bind_some, y1, Option.bind_some, z1]; rfl
              · rw [w1]; rfl
              · rw [CD.cc_cmp]
                refine ⟨?_, ?_, ?_, trivial⟩
                · rw [z3.2 Lc (by omega), y3.2 Lc (by omega), x4, hs2]
                · rw [z3.2 (Lc + 1) (by omega), y4, hl2]
                · rw [z4, hr2]
              · exact (a6 Lc).trans ((d6 Lc).trans ((g6 Lc).trans (x3.trans ((y3.mono (by omega)).trans (z3.mono (by omega))))))
              · rw [w5 76 12 (by decide) (by decide), j4, e3.k (by decide), b4, h12]
              · rw [CD.rc_cmp]
                refine ⟨?_, ?_, ?_, trivial⟩
                · rw [w4 Lr (by omega), j6.2 Lr (by omega), e3.p (by decide), b5]
                · rw [w4 (Lr + 1) (by omega), j5]
                · exact w3
              · exact b6.trans ((e3.fR (by decide) Lr).trans ((j6.mono (by omega)).trans ((lays_fR w4 w5).mono (by omega))))
            · exact absurd ⟨g1, g2⟩ j1
          · have j1 : r_readsValue q2 = some (0, q2) := by
              rcases r_value hB e2 ((e3.k (by decide)).trans b3) (by omega) with ⟨r, q3, hr, hr2, _⟩ | ⟨_, j⟩
              · exact absurd ⟨by rw [hr2]; exact (nI_leI (a := 13) (by decide) (by omega)).mpr hr.1, by rw [hr2]; exact (nI_leI (b := 10017) (by omega) (by decide)).mpr hr.2⟩ g1
              · exact j
            rw [g2, Option.bind_some, if_pos rfl, j1, Option.bind_some, if_pos rfl]
            refine Or.inr ⟨m2, q2, i + 1 + 1, rfl, rfl, by omega, ⟨d5.2.1, ⟨Lc, by omega, d5.2.2.2.1⟩, (a6 0).trans (d6 0)⟩, ⟨e2.2.1, (b6.mono (Nat.zero_le _)).trans (e3.fR (by decide) 0)⟩⟩
        · exact absurd ⟨d1, d2⟩ hs
      · rcases sign_in (pTK hB b2) with ⟨s, hs, hs2, hs3⟩ | ⟨_, n0, n1', n2'⟩
        · refine absurd ?_ d1
          rw [hs2]
          rcases hs with rfl | rfl | rfl <;> decide
        · rw [d2, Option.bind_some, if_pos rfl, if_neg n0, if_neg n1', if_neg n2']
          unfold r_readsLike_58
          rw [if_pos rfl]
          exact Or.inr ⟨m1, q1, i + 1, rfl, rfl, by omega, ⟨a5.2.1, ⟨Lc, by omega, a5.2.2.2.1⟩, a6 0⟩, ⟨b2.2.1, b6.mono (Nat.zero_le _)⟩⟩
    · exact absurd ⟨a1, a2⟩ b1
  · have j1 : r_readsValue mr = some (0, mr) := by
      rcases Nat.lt_or_ge Lr 200 with hlt | hge
      · rcases r_value hB hR h13 hlt with ⟨r, q3, hr, hr2, _⟩ | ⟨_, j⟩
        · exact absurd ⟨by rw [hr2]; exact (nI_leI (a := 13) (by decide) (by omega)).mpr hr.1, by rw [hr2]; exact (nI_leI (b := 10017) (by omega) (by decide)).mpr hr.2⟩ a1
        · exact j
      · rcases tk_value (pTK hB hR) with ⟨l, hl, hc, hr⟩ | ⟨h1, h2, h3⟩
        · exact absurd ⟨by rw [hc]; exact (nI_leI (a := 13) (by decide) (by omega)).mpr hl.1, by rw [hc]; exact (nI_leI (b := 10017) (by omega) (by decide)).mpr hl.2⟩ a1
        · unfold r_readsValue r_readsValue_28
          rw [if_neg h2, in1_f h3, Option.bind_some, if_pos rfl, if_pos rfl, zeroAnd]
    rw [a2, Option.bind_some, if_pos rfl, j1, Option.bind_some, if_pos rfl]
    exact Or.inr ⟨mc, mr, i, rfl, rfl, hi, ⟨hC.2.1, ⟨Lc, hC.2.2.2.2, hC.2.2.2.1⟩, fC.rfl⟩, ⟨hR.2.1, fR.rfl⟩⟩
