/-! the reference's acts of things -/
def RC (m : M) (k j : Nat) (s : Int32) : Prop := m 76 36 = nI k ∧ m 77 (37 + 5 * k + 0) = nI j ∧ m 77 (37 + 5 * k + 3) = s
theorem FR.rc {m m' : M} {k j : Nat} {s : Int32} (h : FR m m') (hc : RC m k j s) : RC m' k j s := ⟨(h 76 36 (by decide) (by omega)).trans hc.1, (h 77 _ (by decide) (by omega)).trans hc.2.1, (h 77 _ (by decide) (by omega)).trans hc.2.2⟩
theorem r_mv0 {tr : List Int32} {m : M} {a w x : Int32} {d : Nat} (hx1 : ¬ x = 1) (hx3 : ¬ x = 3) (h : TR 76 35 96 tr m) (hw : m 76 36 = w) : ∃ m', r_movesAs_d (d + 1) x a m = some (a * 2 - w, m') ∧ TR 76 35 96 (psh tr 10) m' ∧ FR m m' := by
  obtain ⟨m1, g1, g2, g3⟩ := r_begins (x := 10) h
  refine ⟨m1, ?_, g2, g3⟩
  show r_movesAs (r_movesAs_d d) x a m = _
  unfold r_movesAs
  rw [if_neg hx1, if_neg hx3, g1, Option.bind_some, g3 76 36 (by decide) (by omega), hw]
theorem r_mv {tr : List Int32} {m : M} {a w : Int32} {j : Nat} (hj : j ≤ 5) (h : TR 76 35 96 tr m) (hw : m 76 36 = w) : ∃ m', r_movesAs_d 6 (nI j) a m = some (mvV j a w, m') ∧ TR 76 35 96 (mvT j tr) m' ∧ FR m m' := by
  rcases (show j = 0 ∨ j = 1 ∨ j = 2 ∨ j = 3 ∨ j = 4 ∨ j = 5 by omega) with e | e | e | e | e | e <;> subst e
  · exact r_mv0 (d := 5) (by decide) (by decide) h hw
  · obtain ⟨m1, g1, g2, g3⟩ := r_begins (x := 20) h
    obtain ⟨m2, f1, f2, f3⟩ := r_mv0 (d := 4) (a := a) (x := 0) (by decide) (by decide) g2 ((g3 76 36 (by decide) (by omega)).trans hw)
    refine ⟨m2, ?_, f2, g3.trans f3⟩
    show r_movesAs (r_movesAs_d 5) (nI 1) a m = _
    unfold r_movesAs
    rw [if_pos (by decide), g1, Option.bind_some, f1]
    rfl
  · exact r_mv0 (d := 5) (by decide) (by decide) h hw
  · obtain ⟨m1, g1, g2, g3⟩ := r_begins (x := 50) h
    obtain ⟨m2, f1, f2, f3⟩ := r_mv0 (d := 4) (a := a - 9) (x := 2) (by decide) (by decide) g2 ((g3 76 36 (by decide) (by omega)).trans hw)
    refine ⟨m2, ?_, f2, g3.trans f3⟩
    show r_movesAs (r_movesAs_d 5) (nI 3) a m = _
    unfold r_movesAs
    rw [if_neg (by decide), if_pos (by decide), g1, Option.bind_some, f1]
    rfl
  · exact r_mv0 (d := 5) (by decide) (by decide) h hw
  · exact r_mv0 (d := 5) (by decide) (by decide) h hw
theorem r_getK {m : M} {k j f : Nat} {s : Int32} (hc : RC m k j s) (hk : k < 6) (hf : f < 5) : r_get (m 76 36) (nI f) m = some (m 77 (37 + 5 * k + f)) := by
  rw [hc.1]; exact r_get_at hk hf
theorem r_sc0 {tr : List Int32} {m : M} {a s x : Int32} {j k d : Nat} (hj : j ≤ 5) (hk : k < 6) (hx2 : ¬ x = 2) (hx3 : ¬ x = 3) (hx5 : ¬ x = 5) (h : TR 76 35 96 tr m) (hc : RC m k j s) : ∃ m', r_secondsAs_d (d + 1) x a m = some (mvV j a (nI k) + 3 * s, m') ∧ TR 76 35 96 (mvT j (psh tr 11)) m' ∧ FR m m' := by
  obtain ⟨m1, g1, g2, g3⟩ := r_begins (x := 11) h
  have c1 := g3.rc hc
  obtain ⟨m2, f1, f2, f3⟩ := r_mv (a := a) hj g2 c1.1
  have c2 := f3.rc c1
  refine ⟨m2, ?_, f2, g3.trans f3⟩
  show r_secondsAs (r_secondsAs_d d) x a m = _
  unfold r_secondsAs
  rw [if_neg hx2, if_neg hx3, if_neg hx5, g1, Option.bind_some, show r_get (m1 76 36) (0 : Int32) m1 = some (m1 77 (37 + 5 * k + 0)) from r_getK (f := 0) c1 hk (by decide), Option.bind_some, c1.2.1, f1]
  simp only [Option.bind_some]
  rw [show r_get (m2 76 36) (3 : Int32) m2 = some (m2 77 (37 + 5 * k + 3)) from r_getK (f := 3) c2 hk (by decide), c2.2.2]
  rfl
theorem r_sc {tr : List Int32} {m : M} {a s : Int32} {j k : Nat} (hj : j ≤ 5) (hk : k < 6) (h : TR 76 35 96 tr m) (hc : RC m k j s) : ∃ m', r_secondsAs_d 6 (nI j) a m = some (scV j a (nI k) s, m') ∧ TR 76 35 96 (scT j tr) m' ∧ FR m m' := by
  have hx : ∀ x y, ¬ y = (2 : Int32) → ¬ y = 3 → ¬ y = 5 → ∃ m1 m2, r_starts x m = some m1 ∧ r_secondsAs_d 5 y a m1 = some (mvV j a (nI k) + 3 * s, m2) ∧ TR 76 35 96 (mvT j (psh (psh tr x) 11)) m2 ∧ FR m m2 := fun x y y2 y3 y5 => by
    obtain ⟨m1, g1, g2, g3⟩ := r_begins (x := x) h
    obtain ⟨m2, f1, f2, f3⟩ := r_sc0 (d := 4) (a := a) hj hk y2 y3 y5 g2 (g3.rc hc)
    exact ⟨m1, m2, g1, f1, f2, g3.trans f3⟩
  rcases (show j = 0 ∨ j = 1 ∨ j = 2 ∨ j = 3 ∨ j = 4 ∨ j = 5 by omega) with e | e | e | e | e | e <;> subst e
  · exact r_sc0 (d := 5) hj hk (by decide) (by decide) (by decide) h hc
  · exact r_sc0 (d := 5) hj hk (by decide) (by decide) (by decide) h hc
  · obtain ⟨m1, m2, g1, f1, f2, f3⟩ := hx 30 0 (by decide) (by decide) (by decide)
    refine ⟨m2, ?_, f2, f3⟩
    show r_secondsAs (r_secondsAs_d 5) (nI 2) a m = _
    unfold r_secondsAs r_secondsAs_10
    rw [if_pos (by decide), g1, Option.bind_some, f1]
    rfl
  · obtain ⟨m1, m2, g1, f1, f2, f3⟩ := hx 30 0 (by decide) (by decide) (by decide)
    refine ⟨m2, ?_, f2, f3⟩
    show r_secondsAs (r_secondsAs_d 5) (nI 3) a m = _
    unfold r_secondsAs r_secondsAs_10
    rw [if_neg (by decide), if_pos (by decide), g1, Option.bind_some, f1]
    rfl
  · exact r_sc0 (d := 5) hj hk (by decide) (by decide) (by decide) h hc
  · obtain ⟨m1, m2, g1, f1, f2, f3⟩ := hx 60 4 (by decide) (by decide) (by decide)
    refine ⟨m2, ?_, f2, f3⟩
    show r_secondsAs (r_secondsAs_d 5) (nI 5) a m = _
    unfold r_secondsAs
    rw [if_neg (by decide), if_neg (by decide), if_pos (by decide), g1, Option.bind_some, f1]
    show some (-(mvV 5 a (nI k) + 3 * s), m2) = some (0 - (mvV 5 a (nI k) + 3 * s), m2)
    rw [Int32.zero_sub]
def FR2 (m m' : M) : Prop := ∀ p k, p ≠ 96 → ¬ (p = 76 ∧ (k = 35 ∨ k = 37)) → m' p k = m p k
theorem FR.F2 {m m' : M} (h : FR m m') : FR2 m m' := fun p k a b => h p k a (fun q => b ⟨q.1, Or.inl q.2⟩)
theorem FR2.trans {m m1 m2 : M} (h1 : FR2 m m1) (h2 : FR2 m1 m2) : FR2 m m2 := fun p k a b => (h2 p k a b).trans (h1 p k a b)
theorem FR2.rc {m m' : M} {k j : Nat} {s : Int32} (h : FR2 m m') (hc : RC m k j s) : RC m' k j s := ⟨(h 76 36 (by decide) (by omega)).trans hc.1, (h 77 _ (by decide) (by omega)).trans hc.2.1, (h 77 _ (by decide) (by omega)).trans hc.2.2⟩
def EN3 (bad : Bool) (v x : Int32) (m' : M) : Prop := (bad = false ∧ x = v ∧ m' 76 37 = 0) ∨ (bad = true ∧ m' 76 37 = 1)
theorem r_ct0 {tr : List Int32} {m : M} {a s x : Int32} {j k d : Nat} (hk : k < 6) (hx5 : ¬ x = 5) (hx4 : ¬ x = 4) (h : TR 76 35 96 tr m) (hc : RC m k j s) (h0 : m 76 37 = 0) : ∃ v m', r_countsAs_d (d + 1) x a m = some (v, m') ∧ EN3 (ctB (nI k) s) (ctQ a (nI k) s) v m' ∧ TR 76 35 96 (psh tr 12) m' ∧ FR2 m m' := by
  obtain ⟨m1, g1, g2, g3⟩ := r_begins (x := 12) h
  have c1 := g3.rc hc
  have h37 : m1 76 37 = 0 := (g3 76 37 (by decide) (by omega)).trans h0
  have hfr : ∀ v, FR2 m (wrF m1 76 37 v) := fun v p q x1 x2 => by
    by_cases e : p = 76
    · subst e; rw [wrF_off (fun y => x2 ⟨rfl, Or.inr y⟩)]; exact g3 76 q x1 (fun y => x2 ⟨rfl, Or.inl y.2⟩)
    · rw [wrF_ne e]; exact g3 p q x1 (fun y => e y.1)
  have htr : ∀ v, TR 76 35 96 (psh tr 12) (wrF m1 76 37 v) := fun v => ⟨by rw [wrF_off (by decide)]; exact g2.1, g2.2.1, fun j hj => by rw [wrF_ne (by decide)]; exact g2.2.2 j hj⟩
  have hrun : r_countsAs_d (d + 1) x a m = (if m1 76 37 = 0 then (if nI k + s - 4 = 0 then r_countsAs_96 (r_countsAs_d d) a (nI k + s - 4) m1 else lt (wrF m1 76 37 0) (fun m4 => (if (m4 76 37) = (0 : Int32) then Option.bind (rmI a (nI k + s - 4)) (fun q5 => some (q5, m4)) else some (0, m4)))) else r_countsAs_96 (r_countsAs_d d) a (nI k + s - 4) m1) := by
    show r_countsAs (r_countsAs_d d) x a m = _
    unfold r_countsAs
    rw [if_neg hx5, if_neg hx4, g1, Option.bind_some, show r_get (m1 76 36) (3 : Int32) m1 = some (m1 77 (37 + 5 * k + 3)) from r_getK (f := 3) c1 hk (by decide), Option.bind_some, ltE, c1.1, c1.2.2]
  rw [hrun, if_pos h37]
  by_cases c : nI k + s - 4 = 0
  · rw [if_pos c]
    unfold r_countsAs_96
    rw [ltE, wrF_at, if_neg one_ne]
    exact ⟨0, _, rfl, Or.inr ⟨decide_eq_true c, wrF_at⟩, htr 1, hfr 1⟩
  · rw [if_neg c, ltE, wrF_at, if_pos rfl]
    unfold rmI
    rw [if_neg c, Option.bind_some]
    exact ⟨ctQ a (nI k) s, _, rfl, Or.inl ⟨decide_eq_false c, rfl, wrF_at⟩, htr 0, hfr 0⟩
theorem r_ct4 {tr : List Int32} {m : M} {a s : Int32} {j k d : Nat} (hk : k < 6) (h : TR 76 35 96 tr m) (hc : RC m k j s) (h0 : m 76 37 = 0) : ∃ v m', r_countsAs_d (d + 2) 4 a m = some (v, m') ∧ EN3 (ctB (nI k) s) (ctQ a (nI k) s + 1) v m' ∧ TR 76 35 96 (psh (psh tr 40) 12) m' ∧ FR2 m m' := by
  obtain ⟨m1, g1, g2, g3⟩ := r_begins (x := 40) h
  obtain ⟨v, m2, f1, f2, f3, f4⟩ := r_ct0 (d := d) (a := a) (x := 0) hk (by decide) (by decide) g2 (g3.rc hc) ((g3 76 37 (by decide) (by omega)).trans h0)
  refine ⟨v + 1, m2, ?_, ?_, f3, g3.F2.trans f4⟩
  · show r_countsAs (r_countsAs_d (d + 1)) 4 a m = _
    unfold r_countsAs
    rw [if_neg (by decide), if_pos rfl, g1, Option.bind_some, f1]
    rfl
  · rcases f2 with ⟨e1, e2, e3⟩ | e
    · exact Or.inl ⟨e1, by rw [e2], e3⟩
    · exact Or.inr e
theorem r_ct {tr : List Int32} {m : M} {a s : Int32} {j k : Nat} (hj : j ≤ 5) (hk : k < 6) (h : TR 76 35 96 tr m) (hc : RC m k j s) (h0 : m 76 37 = 0) : ∃ v m', r_countsAs_d 6 (nI j) a m = some (v, m') ∧ EN3 (ctB (nI k) s) (ctV j a (nI k) s) v m' ∧ TR 76 35 96 (ctT j (ctB (nI k) s) tr) m' ∧ FR2 m m' := by
  rcases (show j = 0 ∨ j = 1 ∨ j = 2 ∨ j = 3 ∨ j = 4 ∨ j = 5 by omega) with e | e | e | e | e | e <;> subst e
  · exact r_ct0 (d := 5) hk (by decide) (by decide) h hc h0
  · exact r_ct0 (d := 5) hk (by decide) (by decide) h hc h0
  · exact r_ct0 (d := 5) hk (by decide) (by decide) h hc h0
  · exact r_ct0 (d := 5) hk (by decide) (by decide) h hc h0
  · exact r_ct4 (d := 4) hk h hc h0
  · obtain ⟨m1, g1, g2, g3⟩ := r_begins (x := 61) h
    obtain ⟨v, m2, f1, f2, f3, f4⟩ := r_ct4 (d := 3) (a := a) hk g2 (g3.rc hc) ((g3 76 37 (by decide) (by omega)).trans h0)
    have c2 := f4.rc (g3.rc hc)
    have hrun : r_countsAs_d 6 (nI 5) a m = (if m2 76 37 = 0 then Option.bind (r_movesAs_d 6 5 (m2 76 36) m2) (fun z10 => some (v ^^^ z10.1, z10.2)) else some (0, m2)) := by
      show r_countsAs (r_countsAs_d 5) (nI 5) a m = _
      unfold r_countsAs
      rw [if_pos (by decide), g1, Option.bind_some, f1]
      rfl
    rcases f2 with ⟨e1, e2, e3⟩ | ⟨e1, e2⟩
    · obtain ⟨m3, k1, k2, k3⟩ := r_mv0 (d := 5) (a := nI k) (x := 5) (w := nI k) (by decide) (by decide) f3 c2.1
      refine ⟨v ^^^ (nI k * 2 - nI k), m3, ?_, Or.inl ⟨e1, by rw [e2]; rfl, (k3 76 37 (by decide) (by omega)).trans e3⟩, ?_, (g3.F2.trans f4).trans k3.F2⟩
      · rw [hrun, if_pos e3, c2.1, k1]; rfl
      · show TR 76 35 96 (if ctB (nI k) s then _ else _) m3
        rw [e1, if_neg (by decide)]
        exact k2
    · refine ⟨0, m2, by rw [hrun, if_neg (by rw [e2]; decide)], Or.inr ⟨e1, e2⟩, ?_, g3.F2.trans f4⟩
      show TR 76 35 96 (if ctB (nI k) s then _ else _) m2
      rw [e1, if_pos rfl]
      exact f3
theorem r_bw0 {tr : List Int32} {m : M} {a s x : Int32} {j k d : Nat} (hj : j ≤ 5) (hk : k < 6) (hx3 : ¬ x = 3) (h : TR 76 35 96 tr m) (hc : RC m k j s) (h0 : m 76 37 = 0) : ∃ v m', r_bowsAs_d (d + 1) x a m = some (v, m') ∧ EN3 (ctB (nI k) s) (scV j a (nI k) s - ctV j a (nI k) s) v m' ∧ TR 76 35 96 (ctT j (ctB (nI k) s) (scT j (psh tr 13))) m' ∧ FR2 m m' := by
  obtain ⟨m1, g1, g2, g3⟩ := r_begins (x := 13) h
  have c1 := g3.rc hc
  obtain ⟨m2, f1, f2, f3⟩ := r_sc (a := a) hj hk g2 c1
  have c2 := f3.rc c1
  obtain ⟨v, m3, k1, k2, k3, k4⟩ := r_ct (a := a) hj hk f2 c2 ((f3 76 37 (by decide) (by omega)).trans ((g3 76 37 (by decide) (by omega)).trans h0))
  refine ⟨scV j a (nI k) s - v, m3, ?_, ?_, k3, (g3.trans f3).F2.trans k4⟩
  · show r_bowsAs (r_bowsAs_d d) x a m = _
    unfold r_bowsAs
    rw [if_neg hx3, g1, Option.bind_some, show r_get (m1 76 36) (0 : Int32) m1 = some (m1 77 (37 + 5 * k + 0)) from r_getK (f := 0) c1 hk (by decide), Option.bind_some, c1.2.1, f1]
    simp only [Option.bind_some]
    rw [show r_get (m2 76 36) (0 : Int32) m2 = some (m2 77 (37 + 5 * k + 0)) from r_getK (f := 0) c2 hk (by decide), Option.bind_some, c2.2.1, k1]
    rfl
  · rcases k2 with ⟨e1, e2, e3⟩ | e
    · exact Or.inl ⟨e1, by rw [e2], e3⟩
    · exact Or.inr e
theorem r_bw {tr : List Int32} {m : M} {a s : Int32} {j k : Nat} (hj : j ≤ 5) (hk : k < 6) (h : TR 76 35 96 tr m) (hc : RC m k j s) (h0 : m 76 37 = 0) : ∃ v m', r_bowsAs_d 6 (nI j) a m = some (v, m') ∧ EN3 (ctB (nI k) s) (bwV j a (nI k) s) v m' ∧ TR 76 35 96 (bwT j (ctB (nI k) s) tr) m' ∧ FR2 m m' := by
  rcases (show j = 0 ∨ j = 1 ∨ j = 2 ∨ j = 3 ∨ j = 4 ∨ j = 5 by omega) with e | e | e | e | e | e <;> subst e
  · exact r_bw0 (d := 5) hj hk (by decide) h hc h0
  · exact r_bw0 (d := 5) hj hk (by decide) h hc h0
  · exact r_bw0 (d := 5) hj hk (by decide) h hc h0
  · obtain ⟨m1, g1, g2, g3⟩ := r_begins (x := 51) h
    obtain ⟨v, m2, f1, f2, f3, f4⟩ := r_bw0 (d := 4) (a := a) (x := 2) hj hk (by decide) g2 (g3.rc hc) ((g3 76 37 (by decide) (by omega)).trans h0)
    have c2 := f4.rc (g3.rc hc)
    have hrun : r_bowsAs_d 6 (nI 3) a m = (if m2 76 37 = 0 then Option.bind (r_get (m2 76 36) 3 m2) (fun v8 => Option.bind (r_secondsAs_d 6 3 v8 m2) (fun z9 => some (v + z9.1, z9.2))) else some (0, m2)) := by
      show r_bowsAs (r_bowsAs_d 5) (nI 3) a m = _
      unfold r_bowsAs
      rw [if_pos (by decide), g1, Option.bind_some, f1]
      rfl
    rcases f2 with ⟨e1, e2, e3⟩ | ⟨e1, e2⟩
    · obtain ⟨m3, k1, k2, k3⟩ := r_sc (j := 3) (a := s) hj hk f3 c2
      refine ⟨v + scV 3 s (nI k) s, m3, ?_, Or.inl ⟨e1, by rw [e2]; rfl, (k3 76 37 (by decide) (by omega)).trans e3⟩, ?_, (g3.F2.trans f4).trans k3.F2⟩
      · rw [hrun, if_pos e3, show r_get (m2 76 36) (3 : Int32) m2 = some (m2 77 (37 + 5 * k + 3)) from r_getK (f := 3) c2 hk (by decide), Option.bind_some, c2.2.2, show r_secondsAs_d 6 3 s m2 = r_secondsAs_d 6 (nI 3) s m2 from rfl, k1]; rfl
      · show TR 76 35 96 (if ctB (nI k) s then _ else _) m3
        rw [e1, if_neg (by decide)]
        rw [e1] at k2
        exact k2
    · refine ⟨0, m2, by rw [hrun, if_neg (by rw [e2]; decide)], Or.inr ⟨e1, e2⟩, ?_, g3.F2.trans f4⟩
      show TR 76 35 96 (if ctB (nI k) s then _ else _) m2
      rw [e1, if_pos rfl]
      rw [e1] at f3
      exact f3
  · exact r_bw0 (d := 5) hj hk (by decide) h hc h0
  · exact r_bw0 (d := 5) hj hk (by decide) h hc h0
theorem ne7 {p k : Nat} (h1 : cl p k ≠ 7) (h0 : cl p k ≠ 0) : ¬ ((p = 9 ∧ k = 4) ∨ p = 49 ∨ p = 96 ∨ (p = 76 ∧ k = 35)) := fun q => h1 (cl_7 (cl_sc h0) q)
theorem deed_of {m m2 : M} {tr : List Int32} (hI : INV m) (h1 : TR 9 4 49 tr m2) (h2 : TR 76 35 96 tr m2) (hf : ∀ p k, p ≠ 49 → p ≠ 96 → ¬ (p = 9 ∧ (k = 0 ∨ k = 1 ∨ k = 2 ∨ k = 4)) → ¬ (p = 76 ∧ (k = 35 ∨ k = 36 ∨ k = 37)) → m2 p k = m p k) : INV m2 := by
  refine hI.c7 (fun p k q1 q0 => ?_) ⟨tr.length, h1.2.1, h1.1, h2.1, fun j hj => ?_⟩
  · have hn := ne7 q1 q0
    have hs := sc_of (cl_sc q0)
    exact hf p k (by omega) (by omega) (by omega) (by omega)
  · have a := h1.2.2 j hj
    rw [h2.2.2 j hj] at a
    exact (Option.some.inj a).symm
theorem in03 {y : Int32} : (0 ≤ y ∧ y ≤ 3) ↔ (y = 0 ∨ y = 1 ∨ y = 2 ∨ y = 3) := by
  rw [sheet_in]
  constructor
  · rintro ⟨c, hc, rfl⟩
    rcases (show c = 0 ∨ c = 1 ∨ c = 2 ∨ c = 3 by omega) with e | e | e | e <;> subst e
    · exact Or.inl rfl
    · exact Or.inr (Or.inl rfl)
    · exact Or.inr (Or.inr (Or.inl rfl))
    · exact Or.inr (Or.inr (Or.inr rfl))
  · rintro (rfl | rfl | rfl | rfl)
    · exact ⟨0, by omega, rfl⟩
    · exact ⟨1, by omega, rfl⟩
    · exact ⟨2, by omega, rfl⟩
    · exact ⟨3, by omega, rfl⟩
theorem ok_act {m : M} (hI : INV m) : OK_act INV m := fun x y a => by
  obtain ⟨rs, h1, h2, h3, h4, h5, h6, h7⟩ := hI.1
  obtain ⟨mk, hmk⟩ : ∃ mk, mk = wrF (wrF m 9 2 0) 9 4 0 := ⟨_, rfl⟩
  have hkn : ∀ p, p ≠ 9 → mk p = m p := fun p hp => by rw [hmk, wrF_ne hp, wrF_ne hp]
  have hk4 : mk 9 4 = 0 := by rw [hmk, wrF_at]
  have hk2 : mk 9 2 = 0 := by rw [hmk, wrF_off (by decide), wrF_at]
  have hko : ∀ k, k ≠ 2 → k ≠ 4 → mk 9 k = m 9 k := fun k x1 x2 => by rw [hmk, wrF_off x2, wrF_off x1]
  have htr0 : TR 9 4 49 [] mk := ⟨by rw [hk4]; rfl, by show 0 ≤ 30; omega, fun j hj => absurd hj (by show ¬ j < 0; omega)⟩
  have hclear : d_clear m = some mk := by unfold d_clear; rw [ltE, ltE, hmk]
  -- the end with nothing done
  have hnone : k_act x y a m = some (0, mk) → (∀ mm : M, mm 77 = m 77 → mm 94 = m 94 → mm 95 = m 95 → r_act x y a mm = some (0, wrF mm 76 35 0)) → ∃ (v : Int32) (m1 m2 : M), k_act x y a m = some (v, m1) ∧ r_act x y a m1 = some (v, m2) ∧ INV m2 := fun e1 e2 => by
    refine ⟨0, mk, wrF mk 76 35 0, e1, e2 mk (hkn 77 (by decide)) (hkn 94 (by decide)) (hkn 95 (by decide)), deed_of (tr := []) hI ?_ ?_ (fun p k x1 x2 x3 x4 => ?_)⟩
    · exact ⟨by rw [wrF_ne (by decide), hk4]; rfl, by show 0 ≤ 30; omega, fun j hj => absurd hj (by show ¬ j < 0; omega)⟩
    · exact ⟨by rw [wrF_at]; rfl, by show 0 ≤ 30; omega, fun j hj => absurd hj (by show ¬ j < 0; omega)⟩
    · by_cases e : p = 76
      · subst e; rw [wrF_off (by omega), hkn 76 (by decide)]
      · rw [wrF_ne e]
        by_cases e9 : p = 9
        · subst e9; exact hko k (by omega) (by omega)
        · rw [hkn p e9]
  by_cases c1 : ¬ (0 ≤ x ∧ x ≤ 3)
  · refine hnone ?_ (fun mm _ _ _ => ?_)
    · unfold k_act; rw [hclear, Option.bind_some, wi_f c1, Option.bind_some, if_pos rfl]
    · unfold r_act; rw [ltE, isSheet_f c1, Option.bind_some, if_pos rfl]
  have c1 := Classical.not_not.mp c1
  have c1' := c1
  obtain ⟨i, hi, rfl⟩ := sheet_in.mp c1
  -- who lies there
  have hkh : k_act (nI i) y a m = (if m 62 i = 5 then Option.bind (b_isMember (m 63 i) mk) (fun v5 => if v5 = 0 then some (0, mk) else Option.bind (rdI mk 63 (nI i)) (fun v6 => lt (wrF mk 9 0 v6) (fun m7 => Option.bind (rdI m7 13 v6) (fun v8 => lt (wrF m7 9 1 v8) (fun m9 => Option.bind (rdI m9 10 v6) (fun v10 => Option.bind (rdR 17 v10) (fun p11 => (if y = (0 : Int32) then Option.bind (vd_moves p11 a m9) (fun z12 => k_act_191 z12.1 z12.2) else (if y = (1 : Int32) then Option.bind (vd_seconds p11 a m9) (fun z13 => k_act_191 z13.1 z13.2) else (if y = (2 : Int32) then Option.bind (vd_counts p11 a m9) (fun z14 => k_act_191 z14.1 z14.2) else (if y = (3 : Int32) then Option.bind (vd_bows p11 a m9) (fun z15 => k_act_191 z15.1 z15.2) else k_act_191 0 m9))))))))))) else some (0, mk)) := by
    unfold k_act
    rw [hclear, Option.bind_some, wi_t c1', Option.bind_some, if_neg one_ne, rd4 (p := 62) (by omega) hi, hkn 62 (by decide), Option.bind_some, rd4 (p := 63) (by omega) hi, hkn 63 (by decide), Option.bind_some]
  have hrh : ∀ mm : M, mm 94 = m 94 → r_act (nI i) y a mm = (if 0 ≤ y ∧ y ≤ 3 then Option.bind (r_heldOn (nI i) (wrF mm 76 35 0)) (fun v4 => (if v4 = 0 then Option.bind (rdI (wrF mm 76 35 0) 95 (nI i)) (fun v5 => lt (wrF (wrF mm 76 35 0) 76 36 v5) (fun m6 => lt (wrF m6 76 37 0) (fun m7 => Option.bind (r_get (m7 76 36) 0 m7) (fun v8 => (if y = (0 : Int32) then Option.bind (r_movesAs_d 6 v8 a m7) (fun z12 => r_act_108 z12.1 z12.2) else (if y = (1 : Int32) then Option.bind (r_secondsAs_d 6 v8 a m7) (fun z11 => r_act_108 z11.1 z11.2) else (if y = (2 : Int32) then Option.bind (r_countsAs_d 6 v8 a m7) (fun z10 => r_act_108 z10.1 z10.2) else Option.bind (r_bowsAs_d 6 v8 a m7) (fun z9 => r_act_108 z9.1 z9.2)))))))) else some (0, wrF mm 76 35 0))) else some (0, wrF mm 76 35 0)) := fun mm _ => by
    unfold r_act
    rw [ltE, isSheet_t c1', Option.bind_some, if_neg one_ne]
    by_cases c2 : 0 ≤ y ∧ y ≤ 3
    · rw [in1_t c2, Option.bind_some, if_neg one_ne, if_pos c2]
    · rw [in1_f c2, Option.bind_some, if_pos rfl, if_neg c2]
  have hheld : ∀ mm : M, mm 77 = m 77 → mm 94 = m 94 → mm 95 = m 95 → r_heldOn (nI i) (wrF mm 76 35 0) = some (if m 94 i = 0 then (if memB (m 77) (m 95 i) = true then 0 else -1) else m 94 i) := fun mm e77 e94 e95 => by
    unfold r_heldOn r_heldOn_26
    rw [rd4 (p := 94) (by omega) hi, rd4 (p := 95) (by omega) hi, wrF_ne (show (94 : Nat) ≠ 76 by decide), wrF_ne (show (95 : Nat) ≠ 76 by decide), e94, e95, Option.bind_some]
    by_cases c : m 94 i = 0
    · rw [if_pos c, if_pos c, Option.bind_some]
      by_cases c3 : memB (m 77) (m 95 i) = true
      · rw [risMem_t (b := m 77) (by rw [wrF_ne (by decide)]; exact e77) c3, Option.bind_some, if_neg one_ne, if_pos c3, Option.bind_some, c]
      · rw [risMem_f (b := m 77) (by rw [wrF_ne (by decide)]; exact e77) c3, Option.bind_some, if_pos rfl, if_neg c3]
    · rw [if_neg c, if_neg c, Option.bind_some]
  have hKk : KB mk (m 77) := h2.cong (fun p c j hp => by rw [hkn p (by unfold KBP at hp; omega)]) (by rw [hkn 1 (by decide)])
  rcases hI.2.2.2.2.1 i hi with ⟨s1, s2⟩ | ⟨k, a1, a2, a3, a4, a5⟩ | ⟨t, a1, a2, a3, a4⟩
  · refine hnone ?_ (fun mm e77 e94 e95 => ?_)
    · rw [hkh, s1, if_neg (by decide)]
    · rw [hrh mm e94, hheld mm e77 e94 e95, s2, if_neg (show ¬ (-1 : Int32) = 0 by decide), Option.bind_some, if_neg (show ¬ (-1 : Int32) = 0 by decide), ite_self]
  · by_cases c3 : memB (m 77) (nI k) = true
    · by_cases c2 : 0 ≤ y ∧ y ≤ 3
      · obtain ⟨e1, e2⟩ := h1.kindN a1
        generalize hj : kindN (m 77) k = j at *
        generalize hs : m 77 (37 + 5 * k + 3) = s
        obtain ⟨m9, hm9⟩ : ∃ m9, m9 = wrF (wrF mk 9 0 (nI k)) 9 1 s := ⟨_, rfl⟩
        have h9n : ∀ p, p ≠ 9 → m9 p = m p := fun p hp => by rw [hm9, wrF_ne hp, wrF_ne hp, hkn p hp]
        have h94 : m9 9 4 = 0 := by rw [hm9, wrF_off (by decide), wrF_off (by decide), hk4]
        have h92 : m9 9 2 = 0 := by rw [hm9, wrF_off (by decide), wrF_off (by decide), hk2]
        have h90 : m9 9 0 = nI k := by rw [hm9, wrF_off (by decide), wrF_at]
        have h91 : m9 9 1 = s := by rw [hm9, wrF_at]
        have h9o : ∀ q, q ≠ 0 → q ≠ 1 → q ≠ 2 → q ≠ 4 → m9 9 q = m 9 q := fun q x0 x1 x2 x4 => by rw [hm9, wrF_off x1, wrF_off x0, hko q x2 x4]
        have ht9 : TR 9 4 49 [] m9 := ⟨by rw [h94]; rfl, by show 0 ≤ 30; omega, fun j hj => absurd hj (by show ¬ j < 0; omega)⟩
        have hkrun : k_act (nI i) y a m = (if y = (0 : Int32) then Option.bind (vd_moves (64 + j) a m9) (fun z12 => k_act_191 z12.1 z12.2) else (if y = (1 : Int32) then Option.bind (vd_seconds (64 + j) a m9) (fun z13 => k_act_191 z13.1 z13.2) else (if y = (2 : Int32) then Option.bind (vd_counts (64 + j) a m9) (fun z14 => k_act_191 z14.1 z14.2) else (if y = (3 : Int32) then Option.bind (vd_bows (64 + j) a m9) (fun z15 => k_act_191 z15.1 z15.2) else k_act_191 0 m9)))) := by
          rw [hkh, a2, if_pos rfl, a4, isMem_t hKk c3, Option.bind_some, if_neg one_ne, rd4 (p := 63) (by omega) hi, hkn 63 (by decide), a4, Option.bind_some, ltE, rd6 (p := 13) (by decide) a1, wrF_ne (show (13 : Nat) ≠ 9 by decide), hkn 13 (by decide), h2.seat a1, Option.bind_some, ltE, hs, rd6 (p := 10) (by decide) a1, wrF_ne (show (10 : Nat) ≠ 9 by decide), wrF_ne (show (10 : Nat) ≠ 9 by decide), hkn 10 (by decide), h2.kind a1, Option.bind_some, e1, kinds_at e2, Option.bind_some, ← hm9]
        have hrrun : ∀ mm : M, mm 77 = m 77 → mm 94 = m 94 → mm 95 = m 95 → ∃ m7 : M, m7 = wrF (wrF (wrF mm 76 35 0) 76 36 (nI k)) 76 37 0 ∧ r_act (nI i) y a mm = (if y = (0 : Int32) then Option.bind (r_movesAs_d 6 (nI j) a m7) (fun z12 => r_act_108 z12.1 z12.2) else (if y = (1 : Int32) then Option.bind (r_secondsAs_d 6 (nI j) a m7) (fun z11 => r_act_108 z11.1 z11.2) else (if y = (2 : Int32) then Option.bind (r_countsAs_d 6 (nI j) a m7) (fun z10 => r_act_108 z10.1 z10.2) else Option.bind (r_bowsAs_d 6 (nI j) a m7) (fun z9 => r_act_108 z9.1 z9.2)))) ∧ TR 76 35 96 [] m7 ∧ RC m7 k j s ∧ m7 76 37 = 0 := fun mm e77 e94 e95 => by
          obtain ⟨m7, hm7⟩ : ∃ m7, m7 = wrF (wrF (wrF mm 76 35 0) 76 36 (nI k)) 76 37 0 := ⟨_, rfl⟩
          have h7n : ∀ p, p ≠ 76 → m7 p = mm p := fun p hp => by rw [hm7, wrF_ne hp, wrF_ne hp, wrF_ne hp]
          have h736 : m7 76 36 = nI k := by rw [hm7, wrF_off (by decide), wrF_at]
          have h735 : m7 76 35 = 0 := by rw [hm7, wrF_off (by decide), wrF_off (by decide), wrF_at]
          have hrc : RC m7 k j s := ⟨h736, by rw [h7n 77 (by decide), e77]; exact e1, by rw [h7n 77 (by decide), e77]; exact hs⟩
          refine ⟨m7, hm7, ?_, ⟨by rw [h735]; rfl, by show 0 ≤ 30; omega, fun j hj => absurd hj (by show ¬ j < 0; omega)⟩, hrc, by rw [hm7, wrF_at]⟩
          rw [hrh mm e94, if_pos c2, hheld mm e77 e94 e95, a3, if_pos rfl, a5, if_pos c3, Option.bind_some, if_pos rfl, rd4 (p := 95) (by omega) hi, wrF_ne (show (95 : Nat) ≠ 76 by decide), e95, a5, Option.bind_some, ltE, ltE, ← hm7, show r_get (m7 76 36) (0 : Int32) m7 = some (m7 77 (37 + 5 * k + 0)) from r_getK (f := 0) hrc a1 (by decide), Option.bind_some, hrc.2.1]
        -- from what both have done to what holds
        have hend : ∀ (bad : Bool) (v : Int32) (tr : List Int32) (kv : Option (Int32 × M)) (rf : M → Option (Int32 × M)), (∃ x m', kv = some (x, m') ∧ EN2 bad v x m' ∧ TR 9 4 49 tr m' ∧ FK2 m9 m') → (∀ m7, TR 76 35 96 [] m7 → RC m7 k j s → m7 76 37 = 0 → ∃ x m', rf m7 = some (x, m') ∧ EN3 bad v x m' ∧ TR 76 35 96 tr m' ∧ FR2 m7 m') → k_act (nI i) y a m = Option.bind kv (fun z => k_act_191 z.1 z.2) → (∀ mm : M, mm 77 = m 77 → mm 94 = m 94 → mm 95 = m 95 → r_act (nI i) y a mm = Option.bind (rf (wrF (wrF (wrF mm 76 35 0) 76 36 (nI k)) 76 37 0)) (fun z => r_act_108 z.1 z.2)) → ∃ (v : Int32) (m1 m2 : M), k_act (nI i) y a m = some (v, m1) ∧ r_act (nI i) y a m1 = some (v, m2) ∧ INV m2 := fun bad v tr kv rf hkv hrf ek er => by
          obtain ⟨x, m1, u1, u2, u3, u4⟩ := hkv
          have e1n : ∀ p, p ≠ 49 → p ≠ 9 → m1 p = m p := fun p x1 x2 => funext fun q => by rw [u4 p q x1 (by omega), h9n p x2]
          obtain ⟨m7, hm7, -, w1, w2, w3⟩ := hrrun m1 (e1n 77 (by decide) (by decide)) (e1n 94 (by decide) (by decide)) (e1n 95 (by decide) (by decide))
          obtain ⟨x', m2, v1, v2, v3, v4⟩ := hrf m7 w1 w2 w3
          have h7n : ∀ p, p ≠ 76 → m7 p = m1 p := fun p hp => by rw [hm7, wrF_ne hp, wrF_ne hp, wrF_ne hp]
          have h7o : ∀ q, q ≠ 35 → q ≠ 36 → q ≠ 37 → m7 76 q = m1 76 q := fun q x1 x2 x3 => by rw [hm7, wrF_off x3, wrF_off x2, wrF_off x1]
          refine ⟨if bad then -15 else v, m1, m2, ?_, ?_, deed_of (tr := tr) hI ?_ v3 (fun p q x1 x2 x3 x4 => ?_)⟩
          · rw [ek, u1, Option.bind_some]
            unfold k_act_191
            rcases u2 with ⟨b1, b2, b3⟩ | ⟨b1, b2⟩
            · show (if m1 9 2 = 0 then some (x, m1) else some (-15, m1)) = _
              rw [if_pos b3, b1, b2]; rfl
            · show (if m1 9 2 = 0 then some (x, m1) else some (-15, m1)) = _
              rw [if_neg (by rw [b2]; decide), b1]; rfl
          · rw [er m1 (e1n 77 (by decide) (by decide)) (e1n 94 (by decide) (by decide)) (e1n 95 (by decide) (by decide)), ← hm7, v1, Option.bind_some]
            unfold r_act_108
            rcases v2 with ⟨b1, b2, b3⟩ | ⟨b1, b2⟩
            · show (if m2 76 37 = 0 then some (x', m2) else some (-15, m2)) = _
              rw [if_pos b3, b1, b2]; rfl
            · show (if m2 76 37 = 0 then some (x', m2) else some (-15, m2)) = _
              rw [if_neg (by rw [b2]; decide), b1]; rfl
          · refine ⟨?_, u3.2.1, fun j hj => ?_⟩
            · rw [v4 9 4 (by decide) (by omega), h7n 9 (by decide)]; exact u3.1
            · rw [v4 49 j (by decide) (by omega), h7n 49 (by decide)]; exact u3.2.2 j hj
          · by_cases e76 : p = 76
            · subst e76
              rw [v4 76 q x2 (by omega), h7o q (by omega) (by omega) (by omega), e1n 76 (by decide) (by decide)]
            · rw [v4 p q x2 (by omega), h7n p e76, u4 p q x1 (by omega)]
              by_cases e9 : p = 9
              · subst e9; exact h9o q (by omega) (by omega) (by omega) (by omega)
              · rw [h9n p e9]
        rcases in03.mp c2 with rfl | rfl | rfl | rfl
        · obtain ⟨q1, q2, q3, q4⟩ := k_mv (a := a) (w := nI k) e2 ht9 h92 h90
          refine hend false (mvV j a (nI k)) (mvT j []) (vd_moves (64 + j) a m9) (fun m7 => r_movesAs_d 6 (nI j) a m7) ⟨_, q1, q2, Or.inl ⟨rfl, rfl, (q4 9 2 (by decide) (by omega)).trans h92⟩, q3, q4.F2⟩ (fun m7 w1 w2 w3 => ?_) (by rw [hkrun, if_pos rfl]) (fun mm e77 e94 e95 => ?_)
          · obtain ⟨m', r1, r2, r3⟩ := r_mv (a := a) e2 w1 w2.1
            exact ⟨_, m', r1, Or.inl ⟨rfl, rfl, (r3 76 37 (by decide) (by omega)).trans w3⟩, r2, r3.F2⟩
          · obtain ⟨m7, g1, g2, g3⟩ := hrrun mm e77 e94 e95
            rw [g2, if_pos rfl, ← g1]
        · obtain ⟨q1, q2, q3, q4⟩ := k_sc (a := a) (w := nI k) (s := s) e2 ht9 h92 h90 h91
          refine hend false (scV j a (nI k) s) (scT j []) (vd_seconds (64 + j) a m9) (fun m7 => r_secondsAs_d 6 (nI j) a m7) ⟨_, q1, q2, Or.inl ⟨rfl, rfl, (q4 9 2 (by decide) (by omega)).trans h92⟩, q3, q4.F2⟩ (fun m7 w1 w2 w3 => ?_) (by rw [hkrun, if_neg (by decide), if_pos rfl]) (fun mm e77 e94 e95 => ?_)
          · obtain ⟨m', r1, r2, r3⟩ := r_sc (a := a) e2 a1 w1 w2
            exact ⟨_, m', r1, Or.inl ⟨rfl, rfl, (r3 76 37 (by decide) (by omega)).trans w3⟩, r2, r3.F2⟩
          · obtain ⟨m7, g1, g2, g3⟩ := hrrun mm e77 e94 e95
            rw [g2, if_neg (by decide), if_pos rfl, ← g1]
        · refine hend (ctB (nI k) s) (ctV j a (nI k) s) (ctT j (ctB (nI k) s) []) (vd_counts (64 + j) a m9) (fun m7 => r_countsAs_d 6 (nI j) a m7) (k_ct e2 ht9 h92 h90 h91) (fun m7 w1 w2 w3 => r_ct e2 a1 w1 w2 w3) (by rw [hkrun, if_neg (by decide), if_neg (by decide), if_pos rfl]) (fun mm e77 e94 e95 => ?_)
          obtain ⟨m7, g1, g2, g3⟩ := hrrun mm e77 e94 e95
          rw [g2, if_neg (by decide), if_neg (by decide), if_pos rfl, ← g1]
        · refine hend (ctB (nI k) s) (bwV j a (nI k) s) (bwT j (ctB (nI k) s) []) (vd_bows (64 + j) a m9) (fun m7 => r_bowsAs_d 6 (nI j) a m7) (k_bw e2 ht9 h92 h90 h91) (fun m7 w1 w2 w3 => r_bw e2 a1 w1 w2 w3) (by rw [hkrun, if_neg (by decide), if_neg (by decide), if_neg (by decide), if_pos rfl]) (fun mm e77 e94 e95 => ?_)
          obtain ⟨m7, g1, g2, g3⟩ := hrrun mm e77 e94 e95
          rw [g2, if_neg (by decide), if_neg (by decide), if_neg (by decide), ← g1]
      · -- no such act
        obtain ⟨e1, e2⟩ := h1.kindN a1
        have hy := c2
        rw [in03] at hy
        simp only [not_or] at hy
        obtain ⟨m9, hm9⟩ : ∃ m9, m9 = wrF (wrF mk 9 0 (nI k)) 9 1 (m 77 (37 + 5 * k + 3)) := ⟨_, rfl⟩
        have h9n : ∀ p, p ≠ 9 → m9 p = m p := fun p hp => by rw [hm9, wrF_ne hp, wrF_ne hp, hkn p hp]
        have h94 : m9 9 4 = 0 := by rw [hm9, wrF_off (by decide), wrF_off (by decide), hk4]
        have h92 : m9 9 2 = 0 := by rw [hm9, wrF_off (by decide), wrF_off (by decide), hk2]
        have h9o : ∀ q, q ≠ 0 → q ≠ 1 → q ≠ 2 → q ≠ 4 → m9 9 q = m 9 q := fun q x0 x1 x2 x4 => by rw [hm9, wrF_off x1, wrF_off x0, hko q x2 x4]
        refine ⟨0, m9, wrF m9 76 35 0, ?_, ?_, deed_of (tr := []) hI ?_ ?_ (fun p q x1 x2 x3 x4 => ?_)⟩
        · rw [hkh, a2, if_pos rfl, a4, isMem_t hKk c3, Option.bind_some, if_neg one_ne, rd4 (p := 63) (by omega) hi, hkn 63 (by decide), a4, Option.bind_some, ltE, rd6 (p := 13) (by decide) a1, wrF_ne (show (13 : Nat) ≠ 9 by decide), hkn 13 (by decide), h2.seat a1, Option.bind_some, ltE, rd6 (p := 10) (by decide) a1, wrF_ne (show (10 : Nat) ≠ 9 by decide), wrF_ne (show (10 : Nat) ≠ 9 by decide), hkn 10 (by decide), h2.kind a1, Option.bind_some, e1, kinds_at e2, Option.bind_some, ← hm9, if_neg hy.1, if_neg hy.2.1, if_neg hy.2.2.1, if_neg hy.2.2.2]
          unfold k_act_191
          rw [if_pos h92]
        · rw [hrh m9 (h9n 94 (by decide)), if_neg c2]
        · exact ⟨by rw [wrF_ne (by decide), h94]; rfl, by show 0 ≤ 30; omega, fun j hj => absurd hj (by show ¬ j < 0; omega)⟩
        · exact ⟨by rw [wrF_at]; rfl, by show 0 ≤ 30; omega, fun j hj => absurd hj (by show ¬ j < 0; omega)⟩
        · by_cases e76 : p = 76
          · subst e76; rw [wrF_off (by omega), h9n 76 (by decide)]
          · rw [wrF_ne e76]
            by_cases e9 : p = 9
            · subst e9; exact h9o q (by omega) (by omega) (by omega) (by omega)
            · rw [h9n p e9]
    · refine hnone ?_ (fun mm e77 e94 e95 => ?_)
      · rw [hkh, a2, if_pos rfl, a4, isMem_f hKk c3, Option.bind_some, if_pos rfl]
      · rw [hrh mm e94, hheld mm e77 e94 e95, a3, if_pos rfl, a5, if_neg c3, Option.bind_some, if_neg (show ¬ (-1 : Int32) = 0 by decide), ite_self]
  · have ht5 : ¬ nI t = 5 := fun q => by have := (nI_eq (b := 5) (by omega) (by decide)).mp q; omega
    have h10 : ¬ nI (10 + t) = 0 := nI_ne0 (by omega) (by omega)
    refine hnone ?_ (fun mm e77 e94 e95 => ?_)
    · rw [hkh, a2, if_neg ht5]
    · rw [hrh mm e94, hheld mm e77 e94 e95, a3, if_neg h10, Option.bind_some, if_neg h10, ite_self]
theorem ok_trace {m : M} (hI : INV m) : OK_trace INV m := fun y => by
  obtain ⟨n, d1, d2, d3, d4⟩ := hI.2.2.2.2.2.2.1
  unfold k_trace r_trace
  rw [d2, d3]
  by_cases c : 0 ≤ y ∧ y ≤ nI n - 1
  · rw [wi_t c, in1_t c, Option.bind_some, Option.bind_some, if_neg one_ne, if_neg one_ne]
    obtain ⟨j, hj, rfl⟩ := (in_nat (by omega)).mp c
    rw [rdI_at (show j < len 49 by show j < 30; omega) (by decide), rdI_at (show j < len 96 by show j < 30; omega) (by decide), d4 j hj]
    exact ⟨_, rfl, rfl, hI⟩
  · rw [wi_f c, in1_f c]
    exact ⟨-3, rfl, rfl, hI⟩
