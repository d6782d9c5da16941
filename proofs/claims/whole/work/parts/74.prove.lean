/-! a plan is written into rows -/
def pvB (rs : List Rl) (A : Nat) (b : Nat → Int32) : Nat → (Nat → Int32)
  | 0 => b
  | k + 1 => goB rs (dg A k) (pvB rs A b k)
theorem pv_ok {rs : List Rl} {A : Nat} {b : Nat → Int32} (hW : WF b) (hA : ∀ i, dg A i ≤ manyB b) : ∀ k, k ≤ leftB b → WF (pvB rs A b k) ∧ leftB (pvB rs A b k) + k = leftB b ∧ NB b (pvB rs A b k)
  | 0, _ => ⟨hW, rfl, NB.rfl⟩
  | k + 1, hk => by
    obtain ⟨h1, h2, h3⟩ := pv_ok (rs := rs) hW hA k (by omega)
    have hm := hA k
    rw [← h3.many] at hm
    have hlg := left_go (rs := rs) h1 (by omega) hm
    refine ⟨h1.go (over0 h1 (by omega)) rs hm, ?_, h3.trans (NB_go (by have := h1.manyN.2; omega))⟩
    show leftB (goB rs (dg A k) (pvB rs A b k)) + (k + 1) = leftB b
    omega
def pvR (rs : List Rl) (A : Nat) (b : Nat → Int32) (k j : Nat) : Int32 := if j = 0 then nI (dg A k) else if j = 1 then goW rs (dg A k) (pvB rs A b k) else nI (heardN (pvB rs A b (k + 1)))
theorem k_prove_run {rs : List Rl} {w n A D : Nat} {b : Nat → Int32} {a4 : Int64} (hA12 : A < 2 ^ 12) (hD : D ≤ 4) (hW : WF b) (hA : ∀ i, dg A i ≤ manyB b) (hDl : D ≤ leftB b) {m0 : M} : ∀ (d k : Nat) {m : M}, k + d = D → KR m rs → KB m (pvB rs A b k) → m 0 6 = nI D → (∀ i, i < k → ∀ j, j < 3 → m (51 + i) j = pvR rs A b i j) → (∀ p q, ¬ (p = 1 ∧ (q = 0 ∨ q = 2 ∨ q = 3 ∨ q = 7 ∨ q = 8)) → ¬ (p = 11 ∧ q < 6) → ¬ (51 ≤ p ∧ p ≤ 54) → m p q = m0 p q) → ∃ m', (∀ F, d < F → iter (fun z : Int32 × M => k_prove_44b (lN (w * 2 ^ 32 + (n * 2 ^ 12 + A))) a4 z.1 z.2) F (nI k, m) = some m') ∧ KB m' (pvB rs A b D) ∧ (∀ i, i < D → ∀ j, j < 3 → m' (51 + i) j = pvR rs A b i j) ∧ (∀ p q, ¬ (p = 1 ∧ (q = 0 ∨ q = 2 ∨ q = 3 ∨ q = 7 ∨ q = 8)) → ¬ (p = 11 ∧ q < 6) → ¬ (51 ≤ p ∧ p ≤ 54) → m' p q = m0 p q) := by
  intro d
  induction d with
  | zero =>
    intro k m hk hR hK h6 hr hq
    have hkD : k = D := by omega
    subst hkD
    refine ⟨m, fun F hF => ?_, hK, hr, hq⟩
    obtain ⟨F', rfl⟩ : ∃ F', F = F' + 1 := ⟨F - 1, by omega⟩
    show (k_prove_44b _ a4 (nI k) m).bind _ = _
    unfold k_prove_44b
    rw [h6, if_pos (Int32.le_refl _)]; rfl
  | succ d ih =>
    intro k m hk hR hK h6 hr hq
    obtain ⟨p1, p2, p3⟩ := pv_ok (rs := rs) hW hA k (by omega)
    have hm := hA k
    rw [← p3.many] at hm
    have hl3 : len (51 + k) = 3 := len51 (by omega)
    have hlt : len (51 + k) < 2 ^ 31 := by rw [hl3]; decide
    obtain ⟨m3, hm3⟩ : ∃ m3, m3 = mset m (51 + k) (upd (m (51 + k)) 0 (nI (dg A k))) := ⟨_, rfl⟩
    have h3n : ∀ p, p ≠ 51 + k → m3 p = m p := fun p hp => by rw [hm3, mset_ne hp]
    have h3a : m3 (51 + k) 0 = nI (dg A k) := by rw [hm3, mset_same, upd_at]
    have hK3 : KB m3 (pvB rs A b k) := hK.cong (fun p c j hp => by rw [h3n p (by unfold KBP at hp; omega)]) (by rw [h3n 1 (by omega)])
    have hR3 : KR m3 rs := by
      unfold KR at *
      rw [h3n 3 (by omega), h3n 26 (by omega), h3n 27 (by omega), h3n 28 (by omega), h3n 29 (by omega)]
      exact hR
    obtain ⟨m8, f1, f2, f3, -⟩ := b_goesBy_eq (rs := rs) hK3 p1 hR3 hm
    obtain ⟨m9, hm9⟩ : ∃ m9, m9 = mset m8 (51 + k) (upd (m8 (51 + k)) 1 (goW rs (dg A k) (pvB rs A b k))) := ⟨_, rfl⟩
    have h9n : ∀ p, p ≠ 51 + k → m9 p = m8 p := fun p hp => by rw [hm9, mset_ne hp]
    have h97 : m9 1 7 = nI (heardN (pvB rs A b (k + 1))) := by rw [h9n 1 (by omega)]; exact f2.f7
    obtain ⟨m11, hm11⟩ : ∃ m11, m11 = mset m9 (51 + k) (upd (m9 (51 + k)) 2 (nI (heardN (pvB rs A b (k + 1))))) := ⟨_, rfl⟩
    have h11n : ∀ p, p ≠ 51 + k → m11 p = m8 p := fun p hp => by rw [hm11, mset_ne hp, h9n p hp]
    have h8k : ∀ j, m8 (51 + k) j = m3 (51 + k) j := fun j => f3 (51 + k) j (by omega) (by omega)
    have hrow : ∀ j, j < 3 → m11 (51 + k) j = pvR rs A b k j := fun j hj => by
      rw [hm11, mset_same]
      unfold pvR
      by_cases e2 : j = 2
      · subst e2; rw [upd_at, if_neg (by decide), if_neg (by decide)]
      · rw [upd_off e2, hm9, mset_same]
        by_cases e1 : j = 1
        · subst e1; rw [upd_at, if_neg (by decide), if_pos rfl]
        · have e0 : j = 0 := by omega
          subst e0
          rw [upd_off (by decide), h8k, h3a, if_pos rfl]
    have hk11 : KB m11 (pvB rs A b (k + 1)) := KB.cong (b := goB rs (dg A k) (pvB rs A b k)) f2 (fun p c j hp => by rw [h11n p (by unfold KBP at hp; omega)]) (by rw [h11n 1 (by omega)])
    have h8f : ∀ p q, ¬ (p = 1 ∧ (q = 0 ∨ q = 2 ∨ q = 3 ∨ q = 7 ∨ q = 8)) → ¬ (p = 11 ∧ q < 6) → p ≠ 51 + k → m11 p q = m p q := fun p q x1 x2 x3 => by
      rw [h11n p x3, f3 p q x1 x2, h3n p x3]
    obtain ⟨m', i1, i2, i3, i4⟩ := ih (k + 1) (m := m11) (by omega) (by
      have e : ∀ p, p = 3 ∨ p = 26 ∨ p = 27 ∨ p = 28 ∨ p = 29 → m11 p = m p := fun p hp => funext fun q => h8f p q (by omega) (by omega) (by omega)
      unfold KR at *
      rw [e 3 (by omega), e 26 (by omega), e 27 (by omega), e 28 (by omega), e 29 (by omega)]
      exact hR) hk11 (by rw [h8f 0 6 (by omega) (by omega) (by omega)]; exact h6) (fun i hi j hj => by
      by_cases e : i = k
      · subst e; exact hrow j hj
      · rw [h8f (51 + i) j (by omega) (by omega) (by omega)]; exact hr i (by omega) j hj) (fun p q x1 x2 x3 => by rw [h8f p q x1 x2 (by omega)]; exact hq p q x1 x2 x3)
    refine ⟨m', fun F hF => ?_, i2, i3, i4⟩
    obtain ⟨F', rfl⟩ : ∃ F', F = F' + 1 := ⟨F - 1, by omega⟩
    have hbody : k_prove_44b (lN (w * 2 ^ 32 + (n * 2 ^ 12 + A))) a4 (nI k) m = some (.inl (nI (k + 1), m11)) := by
      unfold k_prove_44b
      rw [h6, if_neg (nI_ge (show k < D by omega) (by omega)), rows_at (by omega), Option.bind_some, k_actOf_eq hA12 (by omega), Option.bind_some, show wrI m (51 + k) 0 (nI (dg A k)) = some m3 from by rw [hm3]; exact wrI_at (j := 0) (by rw [hl3]; decide) hlt, Option.bind_some, Option.bind_some, Option.bind_some, show rdI m3 (51 + k) (0 : Int32) = some (nI (dg A k)) from by rw [← h3a]; exact rdI_at (j := 0) (by rw [hl3]; decide) hlt, Option.bind_some, b_count_eq hK3 p1, Option.bind_some, f1, Option.bind_some]
      show Option.bind (wrI m8 (51 + k) 1 (goW rs (dg A k) (pvB rs A b k))) _ = _
      rw [show wrI m8 (51 + k) 1 (goW rs (dg A k) (pvB rs A b k)) = some m9 from by rw [hm9]; exact wrI_at (j := 1) (by rw [hl3]; decide) hlt, Option.bind_some, Option.bind_some, h97, show wrI m9 (51 + k) 2 (nI (heardN (pvB rs A b (k + 1)))) = some m11 from by rw [hm11]; exact wrI_at (j := 2) (by rw [hl3]; decide) hlt, Option.bind_some, ltE, nI_1]
    show (k_prove_44b (lN (w * 2 ^ 32 + (n * 2 ^ 12 + A))) a4 (nI k) m).bind _ = _
    rw [hbody]
    exact i1 F' (by omega)
theorem r_prove_run {rs : List Rl} {A D : Nat} {b : Nat → Int32} (hD : D ≤ 4) (hW : WF b) (hA : ∀ i, dg A i ≤ manyB b) (hDl : D ≤ leftB b) {m0 : M} : ∀ (d k : Nat) {m : M}, k + d = D → RR b rs → m 77 = pvB rs A b k → m 76 28 = nI D → (∀ i, i < D → m 87 i = nI (dg A i)) → (∀ i, i < k → ∀ j, j < 3 → m 90 (3 * i + j) = pvR rs A b i j) → (∀ p q, p ≠ 80 → p ≠ 77 → ¬ (p = 76 ∧ q = 16) → p ≠ 90 → m p q = m0 p q) → ∃ m', (∀ F, d < F → iter (fun z : Int32 × M => r_prove_30b z.1 z.2) F (nI k, m) = some m') ∧ m' 77 = pvB rs A b D ∧ (∀ i, i < D → ∀ j, j < 3 → m' 90 (3 * i + j) = pvR rs A b i j) ∧ (∀ p q, p ≠ 80 → p ≠ 77 → ¬ (p = 76 ∧ q = 16) → p ≠ 90 → m' p q = m0 p q) := by
  intro d
  induction d with
  | zero =>
    intro k m hk hR hb h28 h87 hr hq
    have hkD : k = D := by omega
    subst hkD
    refine ⟨m, fun F hF => ?_, hb, hr, hq⟩
    obtain ⟨F', rfl⟩ : ∃ F', F = F' + 1 := ⟨F - 1, by omega⟩
    show (r_prove_30b (nI k) m).bind _ = _
    unfold r_prove_30b
    rw [h28, if_pos (Int32.le_refl _)]; rfl
  | succ d ih =>
    intro k m hk hR hb h28 h87 hr hq
    obtain ⟨p1, p2, p3⟩ := pv_ok (rs := rs) hW hA k (by omega)
    have hm := hA k
    rw [← p3.many] at hm
    have h90 : ∀ j, j < 3 → 3 * k + j < len 90 := fun j hj => by rw [len90]; omega
    have hlt : len 90 < 2 ^ 31 := by rw [len90]; decide
    obtain ⟨m2, hm2⟩ : ∃ m2, m2 = mset m 90 (upd (m 90) (3 * k + 0) (nI (dg A k))) := ⟨_, rfl⟩
    have h2n : ∀ p, p ≠ 90 → m2 p = m p := fun p hp => by rw [hm2, mset_ne hp]
    obtain ⟨m4, f1, f2, f3, -⟩ := r_goesBy_of (rs := rs) (m := m2) (a := dg A k) (by rw [h2n 77 (by decide)]; exact hb) p1 (p3.rr hR) hm
    have hWk := (pv_ok (rs := rs) hW hA (k + 1) (by omega)).1
    obtain ⟨m5, hm5⟩ : ∃ m5, m5 = mset m4 90 (upd (m4 90) (3 * k + 1) (goW rs (dg A k) (pvB rs A b k))) := ⟨_, rfl⟩
    have h5n : ∀ p, p ≠ 90 → m5 p = m4 p := fun p hp => by rw [hm5, mset_ne hp]
    obtain ⟨m7, hm7⟩ : ∃ m7, m7 = mset m5 90 (upd (m5 90) (3 * k + 2) (nI (heardN (pvB rs A b (k + 1))))) := ⟨_, rfl⟩
    have h7n : ∀ p, p ≠ 90 → m7 p = m4 p := fun p hp => by rw [hm7, mset_ne hp, h5n p hp]
    have h4r : ∀ q, m4 90 q = m2 90 q := fun q => f3 90 q (by decide) (by decide) (by omega)
    have hrow : ∀ j, j < 3 → m7 90 (3 * k + j) = pvR rs A b k j := fun j hj => by
      rw [hm7, mset_same]
      unfold pvR
      by_cases e2 : j = 2
      · subst e2; rw [upd_at, if_neg (by decide), if_neg (by decide)]
      · rw [upd_off (by omega), hm5, mset_same]
        by_cases e1 : j = 1
        · subst e1; rw [upd_at, if_neg (by decide), if_pos rfl]
        · have e0 : j = 0 := by omega
          subst e0
          rw [upd_off (by omega), h4r, hm2, mset_same, upd_at, if_pos rfl]
    have hold : ∀ q, q < 3 * k → m7 90 q = m 90 q := fun q hq => by
      rw [hm7, mset_same, upd_off (by omega), hm5, mset_same, upd_off (by omega), h4r, hm2, mset_same, upd_off (by omega)]
    have h7f : ∀ p q, p ≠ 80 → p ≠ 77 → ¬ (p = 76 ∧ q = 16) → p ≠ 90 → m7 p q = m p q := fun p q x1 x2 x3 x4 => by
      rw [h7n p x4, f3 p q x1 x2 x3, h2n p x4]
    obtain ⟨m', i1, i2, i3, i4⟩ := ih (k + 1) (m := m7) (by omega) hR (by rw [h7n 77 (by decide)]; exact f2) (by rw [h7f 76 28 (by decide) (by decide) (by omega) (by decide)]; exact h28) (fun i hi => by rw [h7f 87 i (by decide) (by decide) (by omega) (by decide)]; exact h87 i hi) (fun i hi j hj => by
      by_cases e : i = k
      · subst e; exact hrow j hj
      · rw [hold _ (by omega)]; exact hr i (by omega) j hj) (fun p q x1 x2 x3 x4 => by rw [h7f p q x1 x2 x3 x4]; exact hq p q x1 x2 x3 x4)
    refine ⟨m', fun F hF => ?_, i2, i3, i4⟩
    obtain ⟨F', rfl⟩ : ∃ F', F = F' + 1 := ⟨F - 1, by omega⟩
    have h3k : (3 : Int32) * nI k = nI (3 * k + 0) := nI_3mul
    have hact : ∀ mm : M, mm 87 k = m 87 k → rdI mm 87 (nI k) = some (nI (dg A k)) := fun mm e => by
      rw [rdI_at (show k < len 87 by rw [len87]; omega) (by decide), e, h87 k (by omega)]
    have hbody : r_prove_30b (nI k) m = some (.inl (nI (k + 1), m7)) := by
      unfold r_prove_30b
      rw [h28, if_neg (nI_ge (show k < D by omega) (by omega)), hact m rfl, Option.bind_some, h3k, show wrI m 90 (nI (3 * k + 0)) (nI (dg A k)) = some m2 from by rw [hm2]; exact wrI_at (h90 0 (by decide)) hlt, Option.bind_some, hact m2 (by rw [h2n 87 (by decide)]), Option.bind_some, f1, Option.bind_some]
      show Option.bind (wrI m4 90 (nI (3 * k + 0) + 1) (goW rs (dg A k) (pvB rs A b k))) _ = _
      rw [show nI (3 * k + 0) + (1 : Int32) = nI (3 * k + 1) from nI_1 _, show wrI m4 90 (nI (3 * k + 1)) (goW rs (dg A k) (pvB rs A b k)) = some m5 from by rw [hm5]; exact wrI_at (h90 1 (by decide)) hlt, Option.bind_some, r_those_eq (b := pvB rs A b (k + 1)) hWk (by rw [h5n 77 (by decide)]; exact f2), Option.bind_some, show nI (3 * k + 0) + (2 : Int32) = nI (3 * k + 2) from nI_add _ 2, show wrI m5 90 (nI (3 * k + 2)) (nI (heardN (pvB rs A b (k + 1)))) = some m7 from by rw [hm7]; exact wrI_at (h90 2 (by decide)) hlt, Option.bind_some, ltE, nI_1]
    show (r_prove_30b (nI k) m).bind _ = _
    rw [hbody]
    exact i1 F' (by omega)
theorem ok_prove {m : M} (hI : INV m) : OK_prove INV m := fun y => by
  obtain ⟨rs, h1, h2, h3, h4, h5, h6, h7⟩ := hI.1
  unfold k_prove r_prove
  rw [k_plan_eq, Option.bind_some]
  by_cases h : pln y = true
  · obtain ⟨n, hn, rfl⟩ := pln_iff h
    obtain ⟨m2, w, g1, g2, g3, g4, g5, g6, g7, g8⟩ := k_plans_eq (rs := rs) h1 h2 h5 hn
    have hpb := PL_bd (rs := rs) (min n (leftB (m 77))) h1 (by omega)
    have hA : ∀ i, dg (plV rs (m 77) (nI n)).2.2 i ≤ manyB (m 77) := fun i => by
      unfold plV
      rw [dyN_nI hn]
      exact hpb.2.2.2.2.2 i
    generalize hAA : (plV rs (m 77) (nI n)).2.2 = A at *
    generalize hNN : (plV rs (m 77) (nI n)).2.1 = N at *
    generalize hDD : min n (leftB (m 77)) = D at *
    have hD4 : D ≤ 4 := by omega
    have hDl : D ≤ leftB (m 77) := by omega
    obtain ⟨m5, hm5⟩ : ∃ m5, m5 = wrF m2 0 6 (nI D) := ⟨_, rfl⟩
    have h5n : ∀ p, p ≠ 0 → m5 p = m2 p := fun p hp => by rw [hm5]; unfold wrF; rw [mset_ne hp]
    have hK5 : KB m5 (m 77) := g6.cong (fun p c j hp => by rw [h5n p (by unfold KBP at hp; omega)]) (by rw [h5n 1 (by decide)])
    have hR5 : KR m5 rs := by
      have := g7.kr h5
      unfold KR at *
      rw [h5n 3 (by decide), h5n 26 (by decide), h5n 27 (by decide), h5n 28 (by decide), h5n 29 (by decide)]
      exact this
    obtain ⟨m6, f1, f2, f3, f4⟩ := k_prove_run (rs := rs) (w := w) (n := N) (A := A) (D := D) (b := m 77) (a4 := lN (momN (m 77))) g5 hD4 h1 hA hDl (m0 := m5) D 0 (m := m5) (by omega) hR5 hK5 (by rw [hm5]; unfold wrF; rw [mset_same, upd_at]) (fun i hi => by omega) (fun _ _ _ _ _ => rfl)
    obtain ⟨m7, t1, t2, t3, t4⟩ := b_goBackTo_eq h1 f2 (pv_ok (rs := rs) h1 hA D hDl).2.2
    -- the class's side: what is changed
    have h06 : m7 0 6 = nI D := by rw [t3 0 6 (by omega) (by omega), f4 0 6 (by omega) (by omega) (by omega), hm5]; unfold wrF; rw [mset_same, upd_at]
    have hcl : ∀ p q, ¬ (p = 1 ∧ (q = 0 ∨ q = 2 ∨ q = 3 ∨ q = 7 ∨ q = 8)) → ¬ (p = 11 ∧ q < 6) → ¬ (51 ≤ p ∧ p ≤ 54) → ¬ (p = 0 ∧ q = 6) → m7 p q = m p q := fun p q x1 x2 x3 x4 => by
      rw [t3 p q x1 x2, f4 p q x1 x2 x3, hm5]
      unfold wrF
      by_cases e : p = 0
      · subst e; rw [mset_same, upd_off (fun y => x4 ⟨rfl, y⟩), g7 0 q (by omega) (by omega)]
      · rw [mset_ne e, g7 p q x1 x2]
    have hb7 : m7 77 = m 77 := funext fun q => hcl 77 q (by omega) (by omega) (by omega) (by omega)
    obtain ⟨m8, s1, s2, s3, s4, s5, s6, s7, s8⟩ := r_tries_eq (rs := rs) (w := 0) (m := m7) h1 h4 hb7 hn (by decide)
    rw [dyN_nI hn, hDD, hAA] at s8
    obtain ⟨m9, hm9⟩ : ∃ m9, m9 = mset (wrF m8 76 28 (nI D)) 79 (cpT 67 ((wrF m8 76 28 (nI D)) 77) ((wrF m8 76 28 (nI D)) 79)) := ⟨_, rfl⟩
    have h9a : ∀ p q, p ≠ 79 → ¬ (p = 76 ∧ q = 28) → m9 p q = m8 p q := fun p q x1 x2 => by
      rw [hm9, mset_ne x1]
      unfold wrF
      by_cases e : p = 76
      · subst e; rw [mset_same, upd_off (fun y => x2 ⟨rfl, y⟩)]
      · rw [mset_ne e]
    have h928 : m9 76 28 = nI D := by rw [hm9, mset_ne (by decide)]; unfold wrF; rw [mset_same, upd_at]
    have hb9 : m9 77 = m 77 := by
      funext q
      rw [h9a 77 q (by decide) (by omega), s2]
    have h979 : ∀ j, j < 67 → m9 79 j = m 77 j := fun j hj => by
      rw [hm9, mset_same]
      unfold cpT
      rw [if_pos hj, wrF_77, s2]
    obtain ⟨ma, v1, v2, v3, v4⟩ := r_prove_run (rs := rs) (A := A) (D := D) (b := m 77) hD4 h1 hA hDl (m0 := m9) D 0 (m := m9) (by omega) h4 hb9 h928 (fun i hi => by rw [h9a 87 i (by decide) (by omega)]; exact s8 i hi) (fun i hi => by omega) (fun _ _ _ _ _ _ => rfl)
    have hlay := lay_to (b := m 77) (m := ma) (fun j hj => by rw [v4 79 j (by decide) (by decide) (by omega) (by decide)]; exact h979 j hj) (fun j hj => by rw [v2]; exact (pv_ok (rs := rs) h1 hA D hDl).2.2.hi j hj)
    have h28a : (mset ma 77 (m 77)) 76 28 = nI D := by rw [mset_ne (by decide), v4 76 28 (by decide) (by decide) (by omega) (by decide)]; exact h928
    have hend : ∀ p q, sc p q = false → p ≠ 77 → p ≠ 90 → ¬ (p = 76 ∧ q = 28) → (mset ma 77 (m 77)) p q = m7 p q := fun p q x0 x1 x2 x3 => by
      have hs := sc_of x0
      rw [mset_ne x1, v4 p q (by omega) x1 (by omega) x2, h9a p q (by omega) x3, s3 p q x0]
    refine ⟨nI D, m7, mset ma 77 (m 77), ?_, ?_, hI.c3 (fun p q q1 q0 => ?_) ⟨D, hD4, ?_, h28a, fun k hk j hj => ?_⟩⟩
    · rw [h, b01_t, g1, Option.bind_some, b_moment_eq g6 h1, Option.bind_some, b_nightsOf_eq (by omega) g6 h1, Option.bind_some, ltE, hDD, ← hm5]
      unfold k_prove_44
      have := f1 FU (by show D < 4000; omega)
      rw [nI_0] at this
      rw [this, Option.bind_some, t1, Option.bind_some, h06]
    · rw [r_isPlan_eq, Option.bind_some, h, b01_t, show r_triesAll (nI n) 0 m7 = some m8 from s1, Option.bind_some, r_daysOf_eq h1 s2 hn, Option.bind_some, ltE, r_layDown_eq, Option.bind_some, hDD, ← hm9]
      unfold r_prove_30
      have := v1 FU (by show D < 4000; omega)
      rw [nI_0] at this
      rw [this, Option.bind_some, hlay, Option.bind_some, h28a]
    · have hn3 := ne3 q1 q0
      by_cases e77 : p = 77
      · subst e77; rw [mset_same]
      · rw [hend p q (cl_sc q0) e77 (by omega) (by omega)]
        by_cases e1 : p = 1 ∧ (q = 0 ∨ q = 2 ∨ q = 3 ∨ q = 7 ∨ q = 8)
        · obtain ⟨rfl, e⟩ := e1
          rcases e with rfl | rfl | rfl | rfl | rfl
          · rw [t2.f0, h2.f0]
          · rw [t2.f2, h2.f2]
          · rw [t2.f3, h2.f3]
          · rw [t2.f7, h2.f7]
          · exact absurd (cl_sc q0) (by decide)
        · by_cases e2 : p = 11 ∧ q < 6
          · obtain ⟨rfl, e⟩ := e2
            rw [t2.votes e, h2.votes e]
          · exact hcl p q e1 e2 (by omega) (by omega)
    · rw [hend 0 6 (by decide) (by decide) (by decide) (by omega)]; exact h06
    · rw [hend (51 + k) j (scp (by omega)) (by omega) (by omega) (by omega), t3 (51 + k) j (by omega) (by omega), f3 k hk j hj, mset_ne (by decide), v3 k hk j hj]
  · rw [Bool.eq_false_iff.mpr h]
    refine ⟨-1, m, m, b01_f, ?_, hI⟩
    rw [r_isPlan_eq, Option.bind_some, Bool.eq_false_iff.mpr h, b01_f]
