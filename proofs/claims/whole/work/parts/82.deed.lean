/-! things of kinds with acts -/
def psh (tr : List Int32) (x : Int32) : List Int32 := if 30 ≤ tr.length then tr else tr ++ [x]
theorem psh_le {tr : List Int32} {x : Int32} (h : tr.length ≤ 30) : (psh tr x).length ≤ 30 := by
  unfold psh
  split
  · exact h
  · rw [List.length_append, List.length_singleton]; omega
/-- the row at place p, as long as cell (q, c) says -/
def TR (q c p : Nat) (tr : List Int32) (m : M) : Prop := m q c = nI tr.length ∧ tr.length ≤ 30 ∧ ∀ j, j < tr.length → tr[j]? = some (m p j)
theorem TR_psh {q c p : Nat} {tr : List Int32} {m : M} {x : Int32} (h : TR q c p tr m) (hpq : p ≠ q) (hlt : tr.length < 30) : TR q c p (psh tr x) (wrF (mset m p (upd (m p) tr.length x)) q c (nI (tr.length + 1))) := by
  have e : psh tr x = tr ++ [x] := if_neg (by omega)
  rw [e]
  refine ⟨by rw [wrF_at, List.length_append, List.length_singleton], by rw [List.length_append, List.length_singleton]; omega, fun j hj => ?_⟩
  rw [List.length_append, List.length_singleton] at hj
  rw [wrF_ne hpq, mset_same]
  by_cases e2 : j = tr.length
  · subst e2
    rw [upd_at, List.getElem?_append_right (Nat.le_refl _), Nat.sub_self]
    rfl
  · rw [upd_off e2, List.getElem?_append_left (by omega)]
    exact h.2.2 j (by omega)
/-- all but a trace -/
def FK (m m' : M) : Prop := ∀ p k, p ≠ 49 → ¬ (p = 9 ∧ k = 4) → m' p k = m p k
theorem FK.rfl {m : M} : FK m m := fun _ _ _ _ => Eq.refl _
theorem FK.trans {m m1 m2 : M} (h1 : FK m m1) (h2 : FK m1 m2) : FK m m2 := fun p k a b => (h2 p k a b).trans (h1 p k a b)
def FR (m m' : M) : Prop := ∀ p k, p ≠ 96 → ¬ (p = 76 ∧ k = 35) → m' p k = m p k
theorem FR.rfl {m : M} : FR m m := fun _ _ _ _ => Eq.refl _
theorem FR.trans {m m1 m2 : M} (h1 : FR m m1) (h2 : FR m1 m2) : FR m m2 := fun p k a b => (h2 p k a b).trans (h1 p k a b)
theorem k_begins {tr : List Int32} {m : M} {x : Int32} (h : TR 9 4 49 tr m) (h2 : m 9 2 = 0) : ∃ m', d_begins x m = some m' ∧ TR 9 4 49 (psh tr x) m' ∧ FK m m' := by
  unfold d_begins
  rw [if_pos h2, h.1]
  by_cases c : 30 ≤ tr.length
  · rw [if_pos (show (30 : Int32) ≤ nI tr.length from (nI_leI (a := 30) (by decide) (by have := h.2.1; omega)).mpr c)]
    refine ⟨m, rfl, ?_, FK.rfl⟩
    unfold psh; rw [if_pos c]; exact h
  · rw [if_neg (show ¬ (30 : Int32) ≤ nI tr.length from fun q => c ((nI_leI (a := 30) (by decide) (by have := h.2.1; omega)).mp q)), wrI_at (show tr.length < len 49 by show tr.length < 30; omega) (by decide), Option.bind_some, ltE, mset_ne (show (9 : Nat) ≠ 49 by decide), h.1, nI_1]
    refine ⟨_, rfl, TR_psh h (by decide) (by omega), fun p k x1 x2 => ?_⟩
    by_cases e : p = 9
    · subst e; rw [wrF_off (fun q => x2 ⟨Eq.refl _, q⟩), mset_ne (by decide)]
    · rw [wrF_ne e, mset_ne x1]
theorem k_begins_f {m : M} {x : Int32} (h2 : ¬ m 9 2 = 0) : d_begins x m = some m := by
  unfold d_begins
  rw [if_neg h2]
theorem r_begins {tr : List Int32} {m : M} {x : Int32} (h : TR 76 35 96 tr m) : ∃ m', r_starts x m = some m' ∧ TR 76 35 96 (psh tr x) m' ∧ FR m m' := by
  unfold r_starts
  rw [h.1]
  by_cases c : 30 ≤ tr.length
  · rw [if_pos (show (30 : Int32) ≤ nI tr.length from (nI_leI (a := 30) (by decide) (by have := h.2.1; omega)).mpr c)]
    refine ⟨m, rfl, ?_, FR.rfl⟩
    unfold psh; rw [if_pos c]; exact h
  · rw [if_neg (show ¬ (30 : Int32) ≤ nI tr.length from fun q => c ((nI_leI (a := 30) (by decide) (by have := h.2.1; omega)).mp q)), wrI_at (show tr.length < len 96 by show tr.length < 30; omega) (by decide), Option.bind_some, ltE, mset_ne (show (76 : Nat) ≠ 96 by decide), h.1, nI_1]
    refine ⟨_, rfl, TR_psh h (by decide) (by omega), fun p k x1 x2 => ?_⟩
    by_cases e : p = 76
    · subst e; rw [wrF_off (fun q => x2 ⟨Eq.refl _, q⟩), mset_ne (by decide)]
    · rw [wrF_ne e, mset_ne x1]
/-- value and trace of a move -/
def mvV (j : Nat) (a w : Int32) : Int32 := if j = 1 then (a * 2 - w) ^^^ 6 else if j = 3 then (a - 9) * 2 - w else a * 2 - w
def mvT (j : Nat) (tr : List Int32) : List Int32 := if j = 1 then psh (psh tr 20) 10 else if j = 3 then psh (psh tr 50) 10 else psh tr 10
theorem m0_mv {tr : List Int32} {m : M} {a w : Int32} (h : TR 9 4 49 tr m) (h2 : m 9 2 = 0) (hw : m 9 0 = w) : ∃ m', m0_moves a m = some (a * 2 - w, m') ∧ TR 9 4 49 (psh tr 10) m' ∧ FK m m' := by
  obtain ⟨m', g1, g2, g3⟩ := k_begins (x := 10) h h2
  refine ⟨m', ?_, g2, g3⟩
  unfold m0_moves
  rw [g1, Option.bind_some, g3 9 0 (by decide) (by omega), hw]
theorem k_mv {tr : List Int32} {m : M} {a w : Int32} {j : Nat} (hj : j ≤ 5) (h : TR 9 4 49 tr m) (h2 : m 9 2 = 0) (hw : m 9 0 = w) : ∃ m', vd_moves (64 + j) a m = some (mvV j a w, m') ∧ TR 9 4 49 (mvT j tr) m' ∧ FK m m' := by
  have hb := m0_mv (a := a) h h2 hw
  rcases (show j = 0 ∨ j = 1 ∨ j = 2 ∨ j = 3 ∨ j = 4 ∨ j = 5 by omega) with e | e | e | e | e | e <;> subst e
  · exact hb
  · obtain ⟨m1, g1, g2, g3⟩ := k_begins (x := 20) h h2
    obtain ⟨m2, f1, f2, f3⟩ := m0_mv (a := a) g2 ((g3 9 2 (by decide) (by omega)).trans h2) ((g3 9 0 (by decide) (by omega)).trans hw)
    refine ⟨m2, ?_, f2, g3.trans f3⟩
    show m1_moves a m = _
    unfold m1_moves
    rw [g1, Option.bind_some, show m0_moves_65_9 a m1 = m0_moves a m1 from rfl, f1]
    rfl
  · exact hb
  · obtain ⟨m1, g1, g2, g3⟩ := k_begins (x := 50) h h2
    obtain ⟨m2, f1, f2, f3⟩ := m0_mv (a := a - 9) g2 ((g3 9 2 (by decide) (by omega)).trans h2) ((g3 9 0 (by decide) (by omega)).trans hw)
    refine ⟨m2, ?_, f2, g3.trans f3⟩
    show m3_moves a m = _
    unfold m3_moves
    rw [g1, Option.bind_some, show m0_moves_67_9 (a - 9) m1 = m0_moves (a - 9) m1 from rfl, f1]
    rfl
  · exact hb
  · exact hb
def scV (j : Nat) (a w s : Int32) : Int32 := if j = 2 ∨ j = 3 then (mvV j a w + 3 * s) * 2 else if j = 5 then 0 - (mvV j a w + 3 * s) else mvV j a w + 3 * s
def scT (j : Nat) (tr : List Int32) : List Int32 := if j = 2 ∨ j = 3 then mvT j (psh (psh tr 30) 11) else if j = 5 then mvT j (psh (psh tr 60) 11) else mvT j (psh tr 11)
/-- the class's root of seconds, at a kind -/
def secK (j : Nat) (a : Int32) (m : M) : Option (Int32 × M) := Option.bind (d_begins 11 m) (fun m1 => Option.bind (vd_moves (64 + j) a m1) (fun z2 => some ((z2.1 + ((3 : Int32) * (z2.2 9 1))), z2.2)))
theorem secK_eq {tr : List Int32} {m : M} {a w s : Int32} {j : Nat} (hj : j ≤ 5) (h : TR 9 4 49 tr m) (h2 : m 9 2 = 0) (hw : m 9 0 = w) (hs : m 9 1 = s) : ∃ m', secK j a m = some (mvV j a w + 3 * s, m') ∧ TR 9 4 49 (mvT j (psh tr 11)) m' ∧ FK m m' := by
  obtain ⟨m1, g1, g2, g3⟩ := k_begins (x := 11) h h2
  obtain ⟨m2, f1, f2, f3⟩ := k_mv (a := a) hj g2 ((g3 9 2 (by decide) (by omega)).trans h2) ((g3 9 0 (by decide) (by omega)).trans hw)
  refine ⟨m2, ?_, f2, g3.trans f3⟩
  unfold secK
  rw [g1, Option.bind_some, f1]
  simp only [Option.bind_some]
  rw [f3 9 1 (by decide) (by omega), g3 9 1 (by decide) (by omega), hs]
theorem k_sc {tr : List Int32} {m : M} {a w s : Int32} {j : Nat} (hj : j ≤ 5) (h : TR 9 4 49 tr m) (h2 : m 9 2 = 0) (hw : m 9 0 = w) (hs : m 9 1 = s) : ∃ m', vd_seconds (64 + j) a m = some (scV j a w s, m') ∧ TR 9 4 49 (scT j tr) m' ∧ FK m m' := by
  have hb := secK_eq (a := a) hj h h2 hw hs
  have hx : ∀ x, ∃ m1 m2, d_begins x m = some m1 ∧ secK j a m1 = some (mvV j a w + 3 * s, m2) ∧ TR 9 4 49 (mvT j (psh (psh tr x) 11)) m2 ∧ FK m m2 := fun x => by
    obtain ⟨m1, g1, g2, g3⟩ := k_begins (x := x) h h2
    obtain ⟨m2, f1, f2, f3⟩ := secK_eq (a := a) hj g2 ((g3 9 2 (by decide) (by omega)).trans h2) ((g3 9 0 (by decide) (by omega)).trans hw) ((g3 9 1 (by decide) (by omega)).trans hs)
    exact ⟨m1, m2, g1, f1, f2, g3.trans f3⟩
  rcases (show j = 0 ∨ j = 1 ∨ j = 2 ∨ j = 3 ∨ j = 4 ∨ j = 5 by omega) with e | e | e | e | e | e <;> subst e
  · exact hb
  · exact hb
  · obtain ⟨m1, m2, g1, f1, f2, f3⟩ := hx 30
    refine ⟨m2, ?_, f2, f3⟩
    show m2_seconds a m = _
    unfold m2_seconds
    rw [g1, Option.bind_some, show m0_seconds_66_9 a m1 = secK 2 a m1 from rfl, f1]
    rfl
  · obtain ⟨m1, m2, g1, f1, f2, f3⟩ := hx 30
    refine ⟨m2, ?_, f2, f3⟩
    show m2_seconds_67_9 a m = _
    unfold m2_seconds_67_9
    rw [g1, Option.bind_some, show m0_seconds_67_9 a m1 = secK 3 a m1 from rfl, f1]
    rfl
  · exact hb
  · obtain ⟨m1, m2, g1, f1, f2, f3⟩ := hx 60
    refine ⟨m2, ?_, f2, f3⟩
    show m5_seconds a m = _
    unfold m5_seconds
    rw [g1, Option.bind_some, show m0_seconds_69_9 a m1 = secK 5 a m1 from rfl, f1]
    rfl
/-- all but a trace and the flag -/
def FK2 (m m' : M) : Prop := ∀ p k, p ≠ 49 → ¬ (p = 9 ∧ (k = 4 ∨ k = 2)) → m' p k = m p k
theorem FK.F2 {m m' : M} (h : FK m m') : FK2 m m' := fun p k a b => h p k a (fun q => b ⟨q.1, Or.inl q.2⟩)
theorem FK2.trans {m m1 m2 : M} (h1 : FK2 m m1) (h2 : FK2 m1 m2) : FK2 m m2 := fun p k a b => (h2 p k a b).trans (h1 p k a b)
def ctB (w s : Int32) : Bool := decide (w + s - 4 = 0)
def ctQ (a w s : Int32) : Int32 := a - a / (w + s - 4) * (w + s - 4)
def ctV (j : Nat) (a w s : Int32) : Int32 := if j = 4 then ctQ a w s + 1 else if j = 5 then (ctQ a w s + 1) ^^^ (w * 2 - w) else ctQ a w s
def ctT (j : Nat) (bad : Bool) (tr : List Int32) : List Int32 := if j = 4 then psh (psh tr 40) 12 else if j = 5 then (if bad then psh (psh (psh tr 61) 40) 12 else psh (psh (psh (psh tr 61) 40) 12) 10) else psh tr 12
/-- a value that holds unless the flag is set -/
def EN2 (bad : Bool) (v x : Int32) (m' : M) : Prop := (bad = false ∧ x = v ∧ m' 9 2 = 0) ∨ (bad = true ∧ m' 9 2 = 1)
theorem m0_ct {tr : List Int32} {m : M} {a w s : Int32} (h : TR 9 4 49 tr m) (h2 : m 9 2 = 0) (hw : m 9 0 = w) (hs : m 9 1 = s) : ∃ x m', m0_counts a m = some (x, m') ∧ EN2 (ctB w s) (ctQ a w s) x m' ∧ TR 9 4 49 (psh tr 12) m' ∧ FK2 m m' := by
  obtain ⟨m1, g1, g2, g3⟩ := k_begins (x := 12) h h2
  unfold m0_counts
  rw [g1, Option.bind_some, ltE, g3 9 0 (by decide) (by omega), g3 9 1 (by decide) (by omega), hw, hs]
  by_cases c : w + s - 4 = 0
  · rw [if_pos c, ltE]
    refine ⟨0, wrF m1 9 2 1, rfl, Or.inr ⟨decide_eq_true c, wrF_at⟩, ?_, fun p k x1 x2 => ?_⟩
    · refine ⟨by rw [wrF_off (by decide)]; exact g2.1, g2.2.1, fun j hj => by rw [wrF_ne (by decide)]; exact g2.2.2 j hj⟩
    · by_cases e : p = 9
      · subst e; rw [wrF_off (fun q => x2 ⟨rfl, Or.inr q⟩)]; exact g3 9 k x1 (fun q => x2 ⟨rfl, Or.inl q.2⟩)
      · rw [wrF_ne e]; exact g3 p k x1 (fun q => e q.1)
  · unfold rmI
    rw [if_neg c, if_neg c, Option.bind_some]
    exact ⟨ctQ a w s, m1, rfl, Or.inl ⟨decide_eq_false c, rfl, (g3 9 2 (by decide) (by omega)).trans h2⟩, g2, g3.F2⟩
theorem k_ct {tr : List Int32} {m : M} {a w s : Int32} {j : Nat} (hj : j ≤ 5) (h : TR 9 4 49 tr m) (h2 : m 9 2 = 0) (hw : m 9 0 = w) (hs : m 9 1 = s) : ∃ x m', vd_counts (64 + j) a m = some (x, m') ∧ EN2 (ctB w s) (ctV j a w s) x m' ∧ TR 9 4 49 (ctT j (ctB w s) tr) m' ∧ FK2 m m' := by
  have hb := m0_ct (a := a) h h2 hw hs
  have h4 : ∀ (tr : List Int32) (m : M), TR 9 4 49 tr m → m 9 2 = 0 → m 9 0 = w → m 9 1 = s → ∃ x m', m4_counts a m = some (x, m') ∧ EN2 (ctB w s) (ctQ a w s + 1) x m' ∧ TR 9 4 49 (psh (psh tr 40) 12) m' ∧ FK2 m m' := fun tr m h h2 hw hs => by
    obtain ⟨m1, g1, g2, g3⟩ := k_begins (x := 40) h h2
    obtain ⟨x, m2, f1, f2, f3, f4⟩ := m0_ct (a := a) g2 ((g3 9 2 (by decide) (by omega)).trans h2) ((g3 9 0 (by decide) (by omega)).trans hw) ((g3 9 1 (by decide) (by omega)).trans hs)
    refine ⟨x + 1, m2, ?_, ?_, f3, g3.F2.trans f4⟩
    · unfold m4_counts
      rw [g1, Option.bind_some, show m0_counts_68_9 a m1 = m0_counts a m1 from rfl, f1]
      rfl
    · rcases f2 with ⟨e1, e2, e3⟩ | e
      · exact Or.inl ⟨e1, by rw [e2], e3⟩
      · exact Or.inr e
  rcases (show j = 0 ∨ j = 1 ∨ j = 2 ∨ j = 3 ∨ j = 4 ∨ j = 5 by omega) with e | e | e | e | e | e <;> subst e
  · exact hb
  · exact hb
  · exact hb
  · exact hb
  · exact h4 tr m h h2 hw hs
  · obtain ⟨m1, g1, g2, g3⟩ := k_begins (x := 61) h h2
    obtain ⟨x, m2, f1, f2, f3, f4⟩ := h4 _ m1 g2 ((g3 9 2 (by decide) (by omega)).trans h2) ((g3 9 0 (by decide) (by omega)).trans hw) ((g3 9 1 (by decide) (by omega)).trans hs)
    have hw2 : m2 9 0 = w := (f4 9 0 (by decide) (by omega)).trans ((g3 9 0 (by decide) (by omega)).trans hw)
    have hrun : vd_counts (64 + 5) a m = Option.bind (m0_moves w m2) (fun z3 => some (x ^^^ z3.1, z3.2)) := by
      show m5_counts a m = _
      unfold m5_counts
      rw [g1, Option.bind_some, show m4_counts_69_9 a m1 = m4_counts a m1 from rfl, f1]
      simp only [Option.bind_some]
      rw [hw2]
      rfl
    rcases f2 with ⟨e1, e2, e3⟩ | ⟨e1, e2⟩
    · obtain ⟨m3, k1, k2, k3⟩ := m0_mv (a := w) f3 e3 hw2
      refine ⟨x ^^^ (w * 2 - w), m3, by rw [hrun, k1]; rfl, Or.inl ⟨e1, by rw [e2]; rfl, (k3 9 2 (by decide) (by omega)).trans e3⟩, ?_, (g3.F2.trans f4).trans k3.F2⟩
      show TR 9 4 49 (if ctB w s then _ else _) m3
      rw [e1, if_neg (by decide)]
      exact k2
    · refine ⟨x ^^^ (w * 2 - m2 9 0), m2, ?_, Or.inr ⟨e1, e2⟩, ?_, g3.F2.trans f4⟩
      · rw [hrun]
        unfold m0_moves
        rw [k_begins_f (by rw [e2]; decide)]
        rfl
      · show TR 9 4 49 (if ctB w s then _ else _) m2
        rw [e1, if_pos rfl]
        exact f3
def bwV (j : Nat) (a w s : Int32) : Int32 := if j = 3 then (scV 3 a w s - ctV 3 a w s) + scV 3 s w s else scV j a w s - ctV j a w s
def bwT (j : Nat) (bad : Bool) (tr : List Int32) : List Int32 := if j = 3 then (if bad then ctT 3 bad (scT 3 (psh (psh tr 51) 13)) else scT 3 (ctT 3 bad (scT 3 (psh (psh tr 51) 13)))) else ctT j bad (scT j (psh tr 13))
def bowK (j : Nat) (a : Int32) (m : M) : Option (Int32 × M) := Option.bind (d_begins 13 m) (fun m1 => Option.bind (vd_seconds (64 + j) a m1) (fun z2 => Option.bind (vd_counts (64 + j) a z2.2) (fun z3 => some ((z2.1 - z3.1), z3.2))))
theorem bowK_eq {tr : List Int32} {m : M} {a w s : Int32} {j : Nat} (hj : j ≤ 5) (h : TR 9 4 49 tr m) (h2 : m 9 2 = 0) (hw : m 9 0 = w) (hs : m 9 1 = s) : ∃ x m', bowK j a m = some (x, m') ∧ EN2 (ctB w s) (scV j a w s - ctV j a w s) x m' ∧ TR 9 4 49 (ctT j (ctB w s) (scT j (psh tr 13))) m' ∧ FK2 m m' := by
  obtain ⟨m1, g1, g2, g3⟩ := k_begins (x := 13) h h2
  obtain ⟨m2, f1, f2, f3⟩ := k_sc (a := a) hj g2 ((g3 9 2 (by decide) (by omega)).trans h2) ((g3 9 0 (by decide) (by omega)).trans hw) ((g3 9 1 (by decide) (by omega)).trans hs)
  have g := g3.trans f3
  obtain ⟨x, m3, k1, k2, k3, k4⟩ := k_ct (a := a) hj f2 ((g 9 2 (by decide) (by omega)).trans h2) ((g 9 0 (by decide) (by omega)).trans hw) ((g 9 1 (by decide) (by omega)).trans hs)
  refine ⟨scV j a w s - x, m3, ?_, ?_, k3, g.F2.trans k4⟩
  · unfold bowK
    rw [g1, Option.bind_some, f1, Option.bind_some, k1]
    rfl
  · rcases k2 with ⟨e1, e2, e3⟩ | e
    · exact Or.inl ⟨e1, by rw [e2], e3⟩
    · exact Or.inr e
theorem sec3_f {m : M} {x : Int32} (h2 : ¬ m 9 2 = 0) : ∃ v, m2_seconds_67_9 x m = some (v, m) := by
  refine ⟨((x - 9) * 2 - m 9 0 + 3 * m 9 1) * 2, ?_⟩
  unfold m2_seconds_67_9 m0_seconds_67_9 m3_moves m0_moves_67_9
  rw [k_begins_f h2, Option.bind_some, k_begins_f h2, Option.bind_some, k_begins_f h2, Option.bind_some, k_begins_f h2]
  rfl
theorem k_bw {tr : List Int32} {m : M} {a w s : Int32} {j : Nat} (hj : j ≤ 5) (h : TR 9 4 49 tr m) (h2 : m 9 2 = 0) (hw : m 9 0 = w) (hs : m 9 1 = s) : ∃ x m', vd_bows (64 + j) a m = some (x, m') ∧ EN2 (ctB w s) (bwV j a w s) x m' ∧ TR 9 4 49 (bwT j (ctB w s) tr) m' ∧ FK2 m m' := by
  have hb := bowK_eq (a := a) hj h h2 hw hs
  rcases (show j = 0 ∨ j = 1 ∨ j = 2 ∨ j = 3 ∨ j = 4 ∨ j = 5 by omega) with e | e | e | e | e | e <;> subst e
  · exact hb
  · exact hb
  · exact hb
  · obtain ⟨m1, g1, g2, g3⟩ := k_begins (x := 51) h h2
    obtain ⟨x, m2, f1, f2, f3, f4⟩ := bowK_eq (j := 3) (a := a) hj g2 ((g3 9 2 (by decide) (by omega)).trans h2) ((g3 9 0 (by decide) (by omega)).trans hw) ((g3 9 1 (by decide) (by omega)).trans hs)
    have g := g3.F2.trans f4
    have hw2 := (g 9 0 (by decide) (by omega)).trans hw
    have hs2 := (g 9 1 (by decide) (by omega)).trans hs
    have hrun : vd_bows (64 + 3) a m = Option.bind (m2_seconds_67_9 s m2) (fun z3 => some (x + z3.1, z3.2)) := by
      show m3_bows a m = _
      unfold m3_bows
      rw [g1, Option.bind_some, show m0_bows_67_9 a m1 = bowK 3 a m1 from rfl, f1]
      simp only [Option.bind_some]
      rw [hs2]
    rcases f2 with ⟨e1, e2, e3⟩ | ⟨e1, e2⟩
    · obtain ⟨m3, k1, k2, k3⟩ := k_sc (j := 3) (a := s) hj f3 e3 hw2 hs2
      refine ⟨x + scV 3 s w s, m3, ?_, Or.inl ⟨e1, by rw [e2]; rfl, (k3 9 2 (by decide) (by omega)).trans e3⟩, ?_, g.trans k3.F2⟩
      · rw [hrun, show m2_seconds_67_9 s m2 = vd_seconds (64 + 3) s m2 from rfl, k1]; rfl
      · show TR 9 4 49 (if ctB w s then _ else _) m3
        rw [e1, if_neg (by decide)]
        rw [e1] at k2
        exact k2
    · obtain ⟨v, hv⟩ := sec3_f (m := m2) (x := s) (by rw [e2]; decide)
      refine ⟨x + v, m2, by rw [hrun, hv]; rfl, Or.inr ⟨e1, e2⟩, ?_, g⟩
      show TR 9 4 49 (if ctB w s then _ else _) m2
      rw [e1, if_pos rfl]
      rw [e1] at f3
      exact f3
  · exact hb
  · exact hb
