/-! who was alone there; which report is wrong -/
def repN (b : Nat → Int32) : Nat := (b 8).toNatClampNeg
/-- the reports of the row -/
def WR (b : Nat → Int32) : Prop := (bd (b 8) 6) ∧ ∀ r, r < 6 → r < repN b → bd (b (67 + 4 * r + 0)) 15
/-- the same reports in the class -/
def KP (m : M) (b : Nat → Int32) : Prop := m 4 0 = b 8 ∧ ∀ r, r < 6 → r < repN b → m 30 r = b (67 + 4 * r + 0) ∧ m 31 r = b (67 + 4 * r + 1) ∧ m 32 r = b (67 + 4 * r + 2) ∧ m 33 r = b (67 + 4 * r + 3)
theorem WR.n {b : Nat → Int32} (h : WR b) : b 8 = nI (repN b) ∧ repN b ≤ 6 := by
  obtain ⟨j, h1, h2⟩ := h.1
  unfold repN
  rw [h2, nI_clamp (by omega)]
  exact ⟨rfl, h1⟩
def tN (b : Nat → Int32) (r : Nat) : Nat := (b (67 + 4 * r + 0)).toNatClampNeg
theorem WR.t {b : Nat → Int32} (h : WR b) {r : Nat} (hr : r < repN b) : b (67 + 4 * r + 0) = nI (tN b r) ∧ tN b r ≤ 15 := by
  obtain ⟨j, h1, h2⟩ := h.2 r (by have := h.n.2; omega) hr
  unfold tN
  rw [h2, nI_clamp (by omega)]
  exact ⟨rfl, h1⟩
/-- night by night: light and fund with one alone -/
def telS (b : Nat → Int32) (kd g : Int32) (i : Nat) (s : Int32 × Int32) : Int32 × Int32 :=
  let v := leanV kd (b (9 + i) / 4) s.1 g (nI i)
  let x := heldV (if v ≤ 0 then (if 0 ≤ v then s.1 else s.1 + 2) else s.1 - 2) 9
  (nearV x, s.2 + (if lostV (b (9 + i)) x = 0 then 0 else 5 * (b (9 + i) / 4)))
def telL (b : Nat → Int32) (kd g l : Int32) (i : Nat) : Int32 × Int32 := foldN (telS b kd g) i (l, 0)
theorem telL_bd {b : Nat → Int32} {kd g l : Int32} (h : bd l 9) (i : Nat) : bd (telL b kd g l i).1 9 := by
  cases i with
  | zero => exact h
  | succ i => exact nearV_bd heldV9
theorem len88 : len 88 = 16 := by decide
theorem len89 : len 89 = 16 := by decide
theorem r_tellsLone_eq {m : M} {b : Nat → Int32} (hb : m 77 = b) (kd g l : Int32) : ∃ m', r_tellsLone kd g l m = some m' ∧ (∀ i, i < 16 → m' 88 i = (telL b kd g l i).1 ∧ m' 89 i = (telL b kd g l i).2) ∧ (∀ p, p ≠ 88 → p ≠ 89 → m' p = m p) := by
  have key : ∀ (d i : Nat) (mi : M), i + d = 16 → (∀ p, p ≠ 88 → p ≠ 89 → mi p = m p) → (∀ j, j < i → mi 88 j = (telL b kd g l j).1 ∧ mi 89 j = (telL b kd g l j).2) → ∃ m', (∀ F, d < F → iter (fun z : Int32 × Int32 × Int32 × M => r_tellsLone_9b kd g z.1 z.2.1 z.2.2.1 z.2.2.2) F ((telL b kd g l i).1, (telL b kd g l i).2, nI i, mi) = some m') ∧ (∀ i, i < 16 → m' 88 i = (telL b kd g l i).1 ∧ m' 89 i = (telL b kd g l i).2) ∧ (∀ p, p ≠ 88 → p ≠ 89 → m' p = m p) := by
    intro d
    induction d with
    | zero =>
      intro i mi hi hq hw
      refine ⟨mi, fun F hF => ?_, fun j hj => hw j (by omega), hq⟩
      obtain ⟨F', rfl⟩ : ∃ F', F = F' + 1 := ⟨F - 1, by omega⟩
      show (r_tellsLone_9b kd g _ _ (nI i) mi).bind _ = _
      unfold r_tellsLone_9b
      have : i = 16 := by omega
      subst this
      rw [if_pos (by decide)]; rfl
    | succ d ih =>
      intro i mi hi hq hw
      have hi16 : i < 16 := by omega
      generalize hx : telL b kd g l i = s at *
      obtain ⟨x, f⟩ := s
      have hs : telL b kd g l (i + 1) = telS b kd g i (x, f) := by
        show telS b kd g i (telL b kd g l i) = _
        rw [hx]
      obtain ⟨m', i1, i2, i3⟩ := ih (i + 1) (mset (mset mi 88 (upd (mi 88) i x)) 89 (upd (mi 89) i f)) (by omega) (fun p h1 h2 => by rw [mset_ne h2, mset_ne h1, hq p h1 h2]) (fun j hj => by
        rw [mset_ne (by decide), mset_same, mset_same]
        by_cases e : j = i
        · subst e
          rw [upd_at, upd_at, hx]; exact ⟨rfl, rfl⟩
        · rw [upd_off e, upd_off e]; exact hw j (by omega))
      refine ⟨m', fun F hF => ?_, i2, i3⟩
      obtain ⟨F', rfl⟩ : ∃ F', F = F' + 1 := ⟨F - 1, by omega⟩
      show (r_tellsLone_9b kd g x f (nI i) mi).bind _ = _
      have i1' := i1 F' (by omega)
      rw [hs] at i1'
      unfold r_tellsLone_9b
      rw [if_neg (show ¬ (16 : Int32) ≤ nI i from nI_ge (a := i) (b := 16) hi16 (by decide)), wrI_at (by rw [len88]; exact hi16) (by rw [len88]; decide)]
      simp only [Option.bind_some]
      rw [wrI_at (by rw [len89]; exact hi16) (by rw [len89]; decide), mset_ne (show (89 : Nat) ≠ 88 by decide)]
      simp only [Option.bind_some]
      have h9 : (9 : Int32) + nI i = nI (9 + i) := by rw [n9, nI_add]
      rw [h9, rd77 (by omega), mset_ne (by decide), mset_ne (by decide), hq 77 (by decide) (by decide), hb]
      simp only [Option.bind_some]
      rw [r_leansBy_eq]
      simp only [Option.bind_some]
      have h87 : ∀ y mm, r_tellsLone_87 kd g f (nI i) (b (9 + i)) y mm = some (.inl (nearV (heldV y 9), f + (if lostV (b (9 + i)) (heldV y 9) = 0 then 0 else 5 * (b (9 + i) / 4)), nI (i + 1), mm)) := fun y mm => by
        unfold r_tellsLone_87 r_tellsLone_116
        rw [r_held_eq]
        simp only [Option.bind_some]
        rw [r_isLost_eq]
        simp only [Option.bind_some]
        rw [r_nearer_eq, ltE, ltE, nI_1]
        simp only [Option.bind_some]
        rw [ltE, ltE]
        by_cases e : lostV (b (9 + i)) (heldV y 9) = 0
        · rw [if_pos e, if_pos e]
        · rw [if_neg e, if_neg e]
      rw [h87, h87, h87]
      unfold telS at i1'
      generalize leanV kd (b (9 + i) / 4) x g (nI i) = v at i1' ⊢
      by_cases c1 : v ≤ 0
      · simp only [if_pos c1] at i1' ⊢
        by_cases c2 : 0 ≤ v
        · simp only [if_pos c2] at i1' ⊢
          exact i1'
        · simp only [if_neg c2] at i1' ⊢
          exact i1'
      · simp only [if_neg c1] at i1' ⊢
        exact i1'
  obtain ⟨m', i1, i2, i3⟩ := key 16 0 m (by omega) (fun _ _ _ => rfl) (fun j hj => by omega)
  refine ⟨m', ?_, i2, i3⟩
  unfold r_tellsLone r_tellsLone_9
  have := i1 FU (by decide)
  rw [show ((telL b kd g l 0).1, (telL b kd g l 0).2, nI 0, m) = (l, (0 : Int32), (0 : Int32), m) from rfl] at this
  rw [this]
  rfl
/-- a report fits the night it speaks of -/
def soB (b : Nat → Int32) (kd g l : Int32) (r : Nat) : Bool := decide (b (67 + 4 * r + 2) ≤ (if b (67 + 4 * r + 1) = 0 then (telL b kd g l (tN b r)).1 else (telL b kd g l (tN b r)).2) ∧ (if b (67 + 4 * r + 1) = 0 then (telL b kd g l (tN b r)).1 else (telL b kd g l (tN b r)).2) ≤ b (67 + 4 * r + 3))
theorem and1 {P : Prop} [Decidable P] : ((if P then (1 : Int32) else 0) &&& 1) = b01 (decide P) := by
  by_cases h : P
  · rw [if_pos h, decide_eq_true h]; rfl
  · rw [if_neg h, decide_eq_false h]; rfl
theorem r_isSo_eq {m : M} {b : Nat → Int32} (hR : WR b) (hb : m 77 = b) {kd g l : Int32} (ht : ∀ i, i < 16 → m 88 i = (telL b kd g l i).1 ∧ m 89 i = (telL b kd g l i).2) {r : Nat} (hr : r < repN b) : r_isSo (nI r) m = some (b01 (soB b kd g l r)) := by
  have h6 := hR.n.2
  obtain ⟨t1, t2⟩ := hR.t hr
  unfold r_isSo
  rw [ltE, show (67 : Int32) = nI 67 by decide, show (4 : Int32) = nI 4 by decide, pk_mul, nI_add]
  have e1 : nI (67 + 4 * r) + 1 = nI (67 + 4 * r + 1) := nI_1 _
  have e2 : nI (67 + 4 * r) + 2 = nI (67 + 4 * r + 2) := nI_add _ 2
  have e3 : nI (67 + 4 * r) + 3 = nI (67 + 4 * r + 3) := nI_add _ 3
  have h43 : ∀ v, r_isSo_43 (nI (67 + 4 * r)) v m = some (b01 (decide (b (67 + 4 * r + 2) ≤ v ∧ v ≤ b (67 + 4 * r + 3)))) := fun v => by
    unfold r_isSo_43
    rw [e2, e3, rd77 (by omega), rd77 (by omega), hb]
    simp only [Option.bind_some]
    rw [r_in1_eq]
    simp only [Option.bind_some]
    rw [and1]
  have t1' : b (67 + 4 * r) = nI (tN b r) := t1
  rw [e1, rd77 (by omega), rd77 (by omega), hb, t1']
  simp only [Option.bind_some]
  rw [rdI_at (show tN b r < len 88 by rw [len88]; omega) (by rw [len88]; decide), rdI_at (show tN b r < len 89 by rw [len89]; omega) (by rw [len89]; decide)]
  simp only [Option.bind_some]
  rw [h43, h43, (ht _ (by omega)).1, (ht _ (by omega)).2]
  unfold soB
  by_cases e : b (67 + 4 * r + 1) = 0
  · simp only [if_pos e]
  · simp only [if_neg e]
def allN (P : Nat → Bool) : Nat → Bool
  | 0 => true
  | n + 1 => allN P n && P n
theorem allN_iff {P : Nat → Bool} {n : Nat} : allN P n = true ↔ ∀ i, i < n → P i = true := by
  induction n with
  | zero => simp [allN]
  | succ n ih =>
    simp only [allN, Bool.and_eq_true, ih]
    constructor
    · rintro ⟨h1, h2⟩ i hi
      by_cases e : i = n
      · subst e; exact h2
      · exact h1 i (by omega)
    · intro h
      exact ⟨fun i hi => h i (by omega), h n (by omega)⟩
def kdN (c : Nat) : Int32 := nI (1 + c / 100)
def gdN (c : Nat) : Int32 := nI (c / 10 % 10)
def ltN (c : Nat) : Int32 := nI (c % 10)
def soC (b : Nat → Int32) (c r : Nat) : Bool := soB b (kdN c) (gdN c) (ltN c) r
def fitB (b : Nat → Int32) (q : Int32) (c : Nat) : Bool := allN (fun r => decide (nI r = q) || soC b c r) (repN b)
theorem fit43 {m : M} {b : Nat → Int32} (hR : WR b) (hb : m 77 = b) {c : Nat} {q a2 a3 : Int32} (ht : ∀ i, i < 16 → m 88 i = (telL b (kdN c) (gdN c) (ltN c) i).1 ∧ m 89 i = (telL b (kdN c) (gdN c) (ltN c) i).2) : iter (fun z : Int32 × Int32 => r_fitting_43b q a2 a3 z.1 z.2 m) FU (1, 0) = some (b01 (fitB b q c)) := by
  obtain ⟨h1, h2⟩ := hR.n
  have key : ∀ (d r : Nat), r + d = repN b → allN (fun r => decide (nI r = q) || soC b c r) r = true → ∀ F, d + 1 < F → iter (fun z : Int32 × Int32 => r_fitting_43b q a2 a3 z.1 z.2 m) F (1, nI r) = some (b01 (fitB b q c)) := by
    intro d
    induction d with
    | zero =>
      intro r hr ha F hF
      obtain ⟨F', rfl⟩ : ∃ F', F = F' + 1 := ⟨F - 1, by omega⟩
      show (r_fitting_43b q a2 a3 1 (nI r) m).bind _ = _
      unfold r_fitting_43b fitB
      rw [rd77_8, hb, h1]
      simp only [Option.bind_some]
      rw [show repN b = r by omega, if_pos (Int32.le_refl _), ha]; rfl
    | succ d ih =>
      intro r hr ha F hF
      obtain ⟨F', rfl⟩ : ∃ F', F = F' + 1 + 1 := ⟨F - 2, by omega⟩
      have hbody : r_fitting_43b q a2 a3 1 (nI r) m = some (.inl (b01 (decide (nI r = q) || soC b c r), nI (r + 1))) := by
        unfold r_fitting_43b r_fitting_75 r_fitting_80
        rw [rd77_8, hb, h1]
        simp only [Option.bind_some]
        rw [if_neg (nI_ge (show r < repN b by omega) (by omega)), if_neg (by decide), r_isSo_eq hR hb ht (by omega)]
        simp only [Option.bind_some]
        rw [ltE, ltE, nI_1, show soB b (kdN c) (gdN c) (ltN c) r = soC b c r from rfl]
        by_cases e : nI r = q
        · rw [if_pos e, decide_eq_true e]; rfl
        · rw [if_neg e, decide_eq_false e, Bool.false_or]
          cases soC b c r
          · rw [if_pos (by decide)]; rfl
          · rw [if_neg (by decide)]; rfl
      show (r_fitting_43b q a2 a3 1 (nI r) m).bind _ = _
      rw [hbody]
      by_cases e : (decide (nI r = q) || soC b c r) = true
      · rw [e]
        exact ih (r + 1) (by omega) (by show (allN (fun r => decide (nI r = q) || soC b c r) r && (decide (nI r = q) || soC b c r)) = true; rw [ha, e]; rfl) (F' + 1) (by omega)
      · have hf : fitB b q c = false := by
          apply Bool.eq_false_iff.mpr
          intro h
          exact e (allN_iff.mp h r (by omega))
        rw [Bool.eq_false_iff.mpr e, hf]
        show (r_fitting_43b q a2 a3 0 (nI (r + 1)) m).bind _ = _
        unfold r_fitting_43b
        rw [rd77_8, hb, h1]
        simp only [Option.bind_some]
        rw [if_pos trivial, ite_self]
        rfl
  have := key (repN b) 0 (by omega) rfl FU (by show repN b + 1 < 4000; omega)
  rw [nI_0] at this
  exact this
def cntU (P : Nat → Bool) : Nat → Nat → Nat
  | _, 0 => 0
  | c, d + 1 => (if P c then 1 else 0) + cntU P (c + 1) d
def lowU (P : Nat → Bool) : Nat → Nat → Nat
  | _, 0 => 0
  | c, d + 1 => if P c then c else lowU P (c + 1) d
theorem cntU_le {P : Nat → Bool} : ∀ (d c : Nat), cntU P c d ≤ d
  | 0, _ => Nat.le_refl _
  | d + 1, c => by
    have := cntU_le (P := P) d (c + 1)
    unfold cntU
    split <;> omega
theorem cntU_pos {P : Nat → Bool} : ∀ (d c : Nat), 0 < cntU P c d ↔ ∃ i, c ≤ i ∧ i < c + d ∧ P i = true
  | 0, c => ⟨fun h => absurd h (Nat.lt_irrefl 0), fun ⟨i, h1, h2, _⟩ => by omega⟩
  | d + 1, c => by
    unfold cntU
    have ih := cntU_pos (P := P) d (c + 1)
    by_cases e : P c = true
    · rw [if_pos e]
      exact ⟨fun _ => ⟨c, by omega, by omega, e⟩, fun _ => by omega⟩
    · rw [if_neg e, Nat.zero_add, ih]
      exact ⟨fun ⟨i, h1, h2, h3⟩ => ⟨i, by omega, by omega, h3⟩, fun ⟨i, h1, h2, h3⟩ => ⟨i, by
        by_cases q : i = c
        · subst q; exact absurd h3 e
        · omega, by omega, h3⟩⟩
theorem lowU_lt {P : Nat → Bool} : ∀ (d c : Nat), c + d ≤ 500 → lowU P c d < 500 ∨ d = 0
  | 0, c, _ => Or.inr rfl
  | d + 1, c, h => by
    left
    unfold lowU
    split
    · omega
    · rcases lowU_lt (P := P) d (c + 1) (by omega) with h2 | h2
      · exact h2
      · subst h2; show 0 < 500; omega
/-- all but what the telling writes -/
def Q8 (m m' : M) : Prop := ∀ p k, p ≠ 88 → p ≠ 89 → ¬ (p = 76 ∧ k = 26) → m' p k = m p k
theorem Q8.rfl {m : M} : Q8 m m := fun _ _ _ _ _ => Eq.refl _
theorem Q8.trans {m m1 m2 : M} (h1 : Q8 m m1) (h2 : Q8 m1 m2) : Q8 m m2 := fun p k a b c => (h2 p k a b c).trans (h1 p k a b c)
theorem Q8.r77 {m m' : M} (h : Q8 m m') : m' 77 = m 77 := funext fun k => h 77 k (by decide) (by decide) (fun q => by omega)
theorem Q8_26 {m : M} {v : Int32} : Q8 m (wrF m 76 26 v) := fun p k _ _ c => by
  unfold wrF
  by_cases h : p = 76
  · subst h
    rw [mset_same, upd_off (fun q => c ⟨Eq.refl _, q⟩)]
  · rw [mset_ne h]
theorem Q8.SQ {m m' : M} (h : Q8 m m') : SQ m m' := fun p k hs => h p k (fun q => by subst q; simp [sc] at hs) (fun q => by subst q; simp [sc] at hs) (fun q => by obtain ⟨q1, q2⟩ := q; subst q1; subst q2; revert hs; decide)
theorem div_c {c : Nat} (h : c < 500) : (1 : Int32) + nI c / 100 = kdN c ∧ (nI c / 10) - (nI c / 10) / 10 * 10 = gdN c ∧ nI c - nI c / 10 * 10 = ltN c := by
  refine ⟨?_, ?_, ?_⟩
  · rw [show (100 : Int32) = nI 100 by decide, pk_div (by omega) (by decide) (by decide), n1, nI_add]; rfl
  · rw [show (10 : Int32) = nI 10 by decide, pk_div (by omega) (by decide) (by decide), pk_rem (by omega) (by decide) (by decide)]; rfl
  · rw [show (10 : Int32) = nI 10 by decide, pk_rem (by omega) (by decide) (by decide)]; rfl
def lowV (P : Nat → Bool) (c d : Nat) : Int32 := if 0 < cntU P c d then nI (lowU P c d) else -1
theorem r_fitting_eq {m : M} {b : Nat → Int32} (hR : WR b) (hb : m 77 = b) (q : Int32) : ∃ m', r_fitting q m = some (nI (cntU (fitB b q) 0 500), m') ∧ Q8 m m' ∧ m' 76 26 = lowV (fitB b q) 0 500 := by
  have key : ∀ (d c : Nat) (mc : M) (acc : Nat), c + d = 500 → acc ≤ c → mc 77 = b → (mc 76 26 = -1 ∨ ∃ f, f < 500 ∧ mc 76 26 = nI f) → ∃ m', (∀ F, d < F → iter (fun z : Int32 × Int32 × M => r_fitting_9b q z.1 z.2.1 z.2.2) F (nI acc, nI c, mc) = some (nI (acc + cntU (fitB b q) c d), m')) ∧ Q8 mc m' ∧ m' 76 26 = (if mc 76 26 = -1 then lowV (fitB b q) c d else mc 76 26) := by
    intro d
    induction d with
    | zero =>
      intro c mc acc hc ha hb hf
      refine ⟨mc, fun F hF => ?_, Q8.rfl, ?_⟩
      · obtain ⟨F', rfl⟩ : ∃ F', F = F' + 1 := ⟨F - 1, by omega⟩
        show (r_fitting_9b q (nI acc) (nI c) mc).bind _ = _
        unfold r_fitting_9b
        have : c = 500 := by omega
        subst this
        rw [if_pos (by decide)]; rfl
      · unfold lowV cntU
        rw [if_neg (show ¬ 0 < 0 by decide)]
        by_cases e : mc 76 26 = -1
        · rw [if_pos e, e]
        · rw [if_neg e]
    | succ d ih =>
      intro c mc acc hc ha hb hf
      have hc5 : c < 500 := by omega
      obtain ⟨m1, g1, g2, g3⟩ := r_tellsLone_eq hb (kdN c) (gdN c) (ltN c)
      have hb1 : m1 77 = b := by rw [g3 77 (by decide) (by decide)]; exact hb
      have h26 : m1 76 26 = mc 76 26 := by rw [g3 76 (by decide) (by decide)]
      have hq1 : Q8 mc m1 := fun p k a b _ => by rw [g3 p a b]
      obtain ⟨d1, d2, d3⟩ := div_c hc5
      have hbody : r_fitting_9b q (nI acc) (nI c) mc = r_fitting_88 q (nI acc) (nI c) (b01 (fitB b q c)) m1 := by
        unfold r_fitting_9b
        rw [if_neg (show ¬ (500 : Int32) ≤ nI c from nI_ge (a := c) (b := 500) hc5 (by decide)), d1, d2, d3, g1]
        simp only [Option.bind_some]
        unfold r_fitting_43
        rw [fit43 hR hb1 g2]
        rfl
      have hcu : cntU (fitB b q) c (d + 1) = (if fitB b q c then 1 else 0) + cntU (fitB b q) (c + 1) d := rfl
      have hlu : lowU (fitB b q) c (d + 1) = if fitB b q c then c else lowU (fitB b q) (c + 1) d := rfl
      have hw26 : ∀ v, (wrF m1 76 26 v) 76 26 = v := fun v => by unfold wrF; rw [mset_same, upd_at]
      have hstep : ∃ (m2 : M), r_fitting_88 q (nI acc) (nI c) (b01 (fitB b q c)) m1 = some (.inl (nI (acc + (if fitB b q c then 1 else 0)), nI (c + 1), m2)) ∧ Q8 m1 m2 ∧ m2 76 26 = (if fitB b q c = true ∧ mc 76 26 = -1 then nI c else mc 76 26) := by
        unfold r_fitting_88 r_fitting_99 r_fitting_118 r_fitting_122
        simp only [ltE, nI_1]
        cases e : fitB b q c
        · rw [if_pos (by decide), if_pos (by decide), Int32.add_zero]
          exact ⟨_, rfl, Q8_26, by rw [hw26, h26, if_neg (by simp)]⟩
        · rw [if_neg (by decide), if_neg (by decide)]
          rcases hf with h | ⟨f, hf1, hf2⟩
          · rw [h26, h, if_neg (by decide)]
            exact ⟨_, rfl, Q8_26, by rw [hw26, if_pos ⟨rfl, rfl⟩]⟩
          · rw [h26, hf2, if_pos (nI_pos' (by omega))]
            exact ⟨_, rfl, Q8_26, by rw [hw26, if_neg (fun q => by have := nI_pos' (n := f) (by omega); rw [q.2] at this; revert this; decide)]⟩
      obtain ⟨m2, s1, s2, s3⟩ := hstep
      have hf2 : m2 76 26 = -1 ∨ ∃ f, f < 500 ∧ m2 76 26 = nI f := by
        rw [s3]
        split
        · exact Or.inr ⟨c, hc5, rfl⟩
        · exact hf
      obtain ⟨m', i1, i2, i3⟩ := ih (c + 1) m2 (acc + (if fitB b q c then 1 else 0)) (by omega) (by split <;> omega) (s2.r77.trans hb1) hf2
      refine ⟨m', fun F hF => ?_, (hq1.trans s2).trans i2, ?_⟩
      · obtain ⟨F', rfl⟩ : ∃ F', F = F' + 1 := ⟨F - 1, by omega⟩
        show (r_fitting_9b q (nI acc) (nI c) mc).bind _ = _
        rw [hbody, s1, hcu, ← Nat.add_assoc]
        exact i1 F' (by omega)
      · rw [i3, s3]
        unfold lowV
        rw [hcu, hlu]
        have hnc : ¬ nI c = -1 := fun q => by have := nI_pos' (n := c) (by omega); rw [q] at this; revert this; decide
        by_cases e : fitB b q c = true
        · rw [if_pos e, if_pos e]
          by_cases e2 : mc 76 26 = -1
          · rw [if_pos (show fitB b q c = true ∧ mc 76 26 = -1 from ⟨e, e2⟩), if_neg hnc, if_pos e2, if_pos (show 0 < 1 + cntU (fitB b q) (c + 1) d by omega)]
          · rw [if_neg (show ¬ (fitB b q c = true ∧ mc 76 26 = -1) from fun w => e2 w.2), if_neg e2, if_neg e2]
        · rw [if_neg (show ¬ (fitB b q c = true ∧ mc 76 26 = -1) from fun w => e w.1), if_neg e, if_neg e, Nat.zero_add]
  obtain ⟨m', i1, i2, i3⟩ := key 500 0 (wrF m 76 26 (-1)) 0 (by omega) (by omega) (by rw [wrF_77]; exact hb) (Or.inl (by unfold wrF; rw [mset_same, upd_at]))
  refine ⟨m', ?_, Q8_26.trans i2, ?_⟩
  · unfold r_fitting r_fitting_9
    rw [ltE]
    have := i1 FU (by decide)
    rw [nI_0, Nat.zero_add] at this
    rw [this]; rfl
  · rw [i3, if_pos (by unfold wrF; rw [mset_same, upd_at])]
def loneV (b : Nat → Int32) (y : Int32) : Int32 := if 0 ≤ y ∧ y ≤ 3 then (if y = 0 then nI (cntU (fitB b (-1)) 0 500) else if cntU (fitB b (-1)) 0 500 = 0 then -3 else if y = 1 then kdN (lowU (fitB b (-1)) 0 500) else if y = 2 then gdN (lowU (fitB b (-1)) 0 500) else ltN (lowU (fitB b (-1)) 0 500)) else -1
theorem r_lone_eq {m : M} {b : Nat → Int32} (hR : WR b) (hb : m 77 = b) (y : Int32) : ∃ m1, r_lone y m = some (loneV b y, m1) ∧ SQ m m1 := by
  unfold r_lone loneV
  rw [r_in1_eq, Option.bind_some]
  by_cases h : 0 ≤ y ∧ y ≤ 3
  · rw [if_pos h, if_pos h, if_neg (by decide)]
    obtain ⟨m1, g1, g2, g3⟩ := r_fitting_eq hR hb (-1)
    rw [g1]
    simp only [Option.bind_some]
    refine ⟨m1, ?_, g2.SQ⟩
    have hle := cntU_le (P := fitB b (-1)) 500 0
    obtain ⟨j, hj, rfl⟩ := (in_le (v := y) (n := 3) (by decide)).mp h
    unfold r_lone_28
    by_cases e0 : nI j = 0
    · rw [if_pos (by rw [e0]; decide), if_pos e0, if_pos e0]
    · have hj0 : j ≠ 0 := fun q => e0 (by rw [q]; rfl)
      rw [if_neg (nI_nle (by omega) (by omega)), if_neg e0, if_neg e0]
      by_cases e1 : cntU (fitB b (-1)) 0 500 = 0
      · rw [if_pos e1, e1, if_pos (by decide)]
      · rw [if_neg e1, if_neg (nI_ne0 (by omega) (by omega)), g3]
        unfold lowV
        rw [if_pos (show 0 < cntU (fitB b (-1)) 0 500 by omega)]
        have hlow : lowU (fitB b (-1)) 0 500 < 500 := by
          rcases lowU_lt (P := fitB b (-1)) 500 0 (by omega) with h | h
          · exact h
          · omega
        obtain ⟨d1, d2, d3⟩ := div_c hlow
        rw [d1, d2, d3]
        by_cases c1 : nI j = 1
        · rw [if_pos c1, if_pos c1]
        · rw [if_neg c1, if_neg c1]
          by_cases c2 : nI j = 2
          · rw [if_pos c2, if_pos c2]
          · rw [if_neg c2, if_neg c2]
  · rw [if_neg h, if_neg h, if_pos rfl]
    exact ⟨m, rfl, SQ.rfl⟩
