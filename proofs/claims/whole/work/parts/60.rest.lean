/-! copies of the row; nights of the rest, one after another -/
def cpT (n : Nat) (f g : Nat → Int32) : Nat → Int32 := fun j => if j < n then f j else g j
theorem cpT_step {f g : Nat → Int32} {i : Nat} : upd (cpT i f g) i (f i) = cpT (i + 1) f g := by
  funext j
  unfold cpT
  by_cases e : j = i
  · subst e; rw [upd_at, if_pos (by omega)]
  · rw [upd_off e]
    by_cases e2 : j < i
    · rw [if_pos e2, if_pos (by omega)]
    · rw [if_neg e2, if_neg (by omega)]
theorem cpT_0 {f g : Nat → Int32} : cpT 0 f g = g := funext fun j => if_neg (by omega)
theorem cpT_back {s b b1 : Nat → Int32} (hs : ∀ j, j < 67 → s j = b j) (h : ∀ j, 67 ≤ j → b1 j = b j) : cpT 67 s b1 = b := by
  funext j
  unfold cpT
  by_cases e : j < 67
  · rw [if_pos e, hs j e]
  · rw [if_neg e, h j (by omega)]
def cpO (o n : Nat) (f g : Nat → Int32) : Nat → Int32 := fun j => if o ≤ j ∧ j < o + n then f (j - o) else g j
theorem cpO_step {f g : Nat → Int32} {o i : Nat} : upd (cpO o i f g) (o + i) (f i) = cpO o (i + 1) f g := by
  funext j
  unfold cpO
  by_cases e : j = o + i
  · subst e; rw [upd_at, if_pos (by omega), Nat.add_sub_cancel_left]
  · rw [upd_off e]
    by_cases e2 : o ≤ j ∧ j < o + i
    · rw [if_pos e2, if_pos (by omega)]
    · rw [if_neg e2, if_neg (by omega)]
theorem cpO_0 {f g : Nat → Int32} {o : Nat} : cpO o 0 f g = g := funext fun j => if_neg (by omega)
theorem n67 : (67 : Int32) = nI 67 := by decide
theorem len79 : len 79 = 67 := by decide
theorem len85 : len 85 = 335 := by decide
theorem r_layDown_eq {m : M} : r_layDown m = some (mset m 79 (cpT 67 (m 77) (m 79))) := by
  unfold r_layDown r_layDown_2
  have hloop := iter_seq (body := fun z : Int32 × M => r_layDown_2b z.1 z.2) (fun i => (nI i, mset m 79 (cpT i (m 77) (m 79)))) (r := mset m 79 (cpT 67 (m 77) (m 79))) 67 (fun i hi => by
    show r_layDown_2b (nI i) (mset m 79 (cpT i (m 77) (m 79))) = _
    unfold r_layDown_2b
    rw [n67, if_neg (nI_ge hi (by decide)), rd77 (by omega), mset_ne (by decide), Option.bind_some, wrI_at (show i < len 79 by rw [len79]; exact hi) (by decide), Option.bind_some, ltE, nI_1, mset_mset, mset_same, cpT_step]) (by rfl) (by decide)
  rw [show ((0 : Int32), m) = (fun i => (nI i, mset m 79 (cpT i (m 77) (m 79)))) 0 from by show _ = (nI 0, mset m 79 (cpT 0 (m 77) (m 79))); rw [cpT_0, mset_self]; rfl, hloop]
  rfl
theorem r_layBack_eq {m : M} : r_layBack m = some (mset m 77 (cpT 67 (m 79) (m 77))) := by
  unfold r_layBack r_layBack_2
  have hloop := iter_seq (body := fun z : Int32 × M => r_layBack_2b z.1 z.2) (fun i => (nI i, mset m 77 (cpT i (m 79) (m 77)))) (r := mset m 77 (cpT 67 (m 79) (m 77))) 67 (fun i hi => by
    show r_layBack_2b (nI i) (mset m 77 (cpT i (m 79) (m 77))) = _
    unfold r_layBack_2b
    rw [n67, if_neg (nI_ge hi (by decide)), rdI_at (show i < len 79 by rw [len79]; exact hi) (by decide), mset_ne (by decide), Option.bind_some, wr77 (by omega), Option.bind_some, ltE, nI_1, mset_mset, mset_same, cpT_step]) (by rfl) (by decide)
  rw [show ((0 : Int32), m) = (fun i => (nI i, mset m 77 (cpT i (m 79) (m 77)))) 0 from by show _ = (nI 0, mset m 77 (cpT 0 (m 79) (m 77))); rw [cpT_0, mset_self]; rfl, hloop]
  rfl
theorem r_saves_eq {m : M} {a : Nat} (ha : a < 5) : r_saves (nI a) m = some (mset m 85 (cpO (67 * a) 67 (m 77) (m 85))) := by
  unfold r_saves r_saves_2
  have hloop := iter_seq (body := fun z : Int32 × M => r_saves_2b (nI a) z.1 z.2) (fun i => (nI i, mset m 85 (cpO (67 * a) i (m 77) (m 85)))) (r := mset m 85 (cpO (67 * a) 67 (m 77) (m 85))) 67 (fun i hi => by
    show r_saves_2b (nI a) (nI i) (mset m 85 (cpO (67 * a) i (m 77) (m 85))) = _
    unfold r_saves_2b
    rw [n67, if_neg (nI_ge hi (by decide)), rd77 (by omega), mset_ne (by decide), Option.bind_some, pk_mul, nI_add, wrI_at (show 67 * a + i < len 85 by rw [len85]; omega) (by decide), Option.bind_some, ltE, nI_1, mset_mset, mset_same, cpO_step]) (by rfl) (by decide)
  rw [show ((0 : Int32), m) = (fun i => (nI i, mset m 85 (cpO (67 * a) i (m 77) (m 85)))) 0 from by show _ = (nI 0, mset m 85 (cpO (67 * a) 0 (m 77) (m 85))); rw [cpO_0, mset_self]; rfl, hloop]
  rfl
theorem r_restores_eq {m : M} {a : Nat} (ha : a < 5) : r_restores (nI a) m = some (mset m 77 (cpT 67 (fun j => m 85 (67 * a + j)) (m 77))) := by
  unfold r_restores r_restores_2
  have hloop := iter_seq (body := fun z : Int32 × M => r_restores_2b (nI a) z.1 z.2) (fun i => (nI i, mset m 77 (cpT i (fun j => m 85 (67 * a + j)) (m 77)))) (r := mset m 77 (cpT 67 (fun j => m 85 (67 * a + j)) (m 77))) 67 (fun i hi => by
    show r_restores_2b (nI a) (nI i) (mset m 77 (cpT i (fun j => m 85 (67 * a + j)) (m 77))) = _
    unfold r_restores_2b
    rw [n67, if_neg (nI_ge hi (by decide)), pk_mul, nI_add, rdI_at (show 67 * a + i < len 85 by rw [len85]; omega) (by decide), mset_ne (by decide), Option.bind_some, wr77 (by omega), Option.bind_some, ltE, nI_1, mset_mset, mset_same, show m 85 (67 * a + i) = (fun j => m 85 (67 * a + j)) i from rfl, cpT_step]) (by rfl) (by decide)
  rw [show ((0 : Int32), m) = (fun i => (nI i, mset m 77 (cpT i (fun j => m 85 (67 * a + j)) (m 77)))) 0 from by show _ = (nI 0, mset m 77 (cpT 0 (fun j => m 85 (67 * a + j)) (m 77))); rw [cpT_0, mset_self]; rfl, hloop]
  rfl
/-- nights that are left -/
def leftB (b : Nat → Int32) : Nat := endB b - nightB b
theorem WF.left16 {b} (h : WF b) : leftB b ≤ 16 := by
  have := h.endN.2
  unfold leftB
  omega
theorem WF.nle {b} (h : WF b) : nightB b ≤ endB b := by
  have h1 := h.le
  rw [h.nightN.1, h.endN.1] at h1
  exact (nI_leI (by have := h.nightN.2; omega) (by have := h.endN.2; omega)).mp h1
theorem over_left {b} (h : WF b) : overB b = (if leftB b = 0 then 1 else 0) := by
  have h1 := h.nightN
  have h2 := h.endN
  have h3 := h.nle
  unfold overB leftB
  rw [h1.1, h2.1]
  by_cases e : nightB b < endB b
  · rw [if_pos ((nI_ltI (by omega) (by omega)).mpr e), if_neg (by omega)]
  · rw [if_neg (fun q => e ((nI_ltI (by omega) (by omega)).mp q)), if_pos (by omega)]
theorem over0 {b} (h : WF b) (hl : 0 < leftB b) : overB b = 0 := by rw [over_left h, if_neg (by omega)]
theorem over1 {b} (h : WF b) (hl : leftB b = 0) : overB b = 1 := by rw [over_left h, if_pos hl]
theorem left_eq {b b' : Nat → Int32} (h0 : b' 0 = b 0) (h1 : b' 1 = b 1) : leftB b' = leftB b := by
  unfold leftB nightB endB
  rw [h0, h1]
theorem left_pass {b : Nat → Int32} (h : WF b) (hl : 0 < leftB b) (w : Int32) : leftB (passB w b) + 1 = leftB b := by
  have h1 := h.nightN
  have h2 := h.endN
  unfold leftB at hl ⊢
  have e1 : endB (passB w b) = endB b := by
    unfold endB passB
    rw [upd_off (by decide), upd_off (by decide), upd_off (by decide), upd_off (by decide)]
  have e0 : nightB (passB w b) = nightB b + 1 := by
    show (passB w b 0).toNatClampNeg = _
    unfold passB
    rw [upd_off (by decide), upd_at, h1.1, nI_1, nI_clamp (by omega)]
  rw [e0, e1]
  omega
theorem left_move {rs : List Rl} {b : Nat → Int32} {k : Nat} : leftB (moveB rs b k).2 = leftB b := by
  unfold moveB
  split
  · rfl
  · split
    · exact left_eq (b := b) (b' := upd b (37 + 5 * k + 1) _) (by rw [upd_off (by omega)]) (by rw [upd_off (by omega)])
    · exact left_eq (b := b) (b' := upd (upd b 3 _) (37 + 5 * k + 4) _) (by rw [upd_off (by omega), upd_off (by omega)]) (by rw [upd_off (by omega), upd_off (by omega)])
theorem left_go {rs : List Rl} {b : Nat → Int32} {a : Nat} (h : WF b) (hl : 0 < leftB b) (ha : a ≤ manyB b) : leftB (goB rs a b) + 1 = leftB b := by
  unfold goB preB
  by_cases h0 : a = 0
  · rw [if_pos h0]; exact left_pass h hl _
  · rw [if_neg h0]
    have := left_pass (h.move rs (k := a - 1) (by omega)) (by rw [left_move]; exact hl) (moveB rs b (a - 1)).1
    rw [left_move] at this
    exact this
def stepB (rs : List Rl) (b : Nat → Int32) : Nat → Int32 := goB rs (restA rs b) b
def restB (rs : List Rl) : Nat → (Nat → Int32) → (Nat → Int32)
  | 0, b => b
  | d + 1, b => restB rs d (stepB rs b)
def restW (rs : List Rl) : Nat → (Nat → Int32) → Int32
  | 0, _ => 0
  | d + 1, b => goW rs (restA rs b) b + restW rs d (stepB rs b)
def restL (rs : List Rl) : Nat → (Nat → Int32) → Int32
  | 0, _ => 0
  | d + 1, b => goL rs (restA rs b) b + restL rs d (stepB rs b)
theorem WF.step {b : Nat → Int32} (h : WF b) (hl : 0 < leftB b) (rs : List Rl) : WF (stepB rs b) := h.go (over0 h hl) rs (restA_le rs b)
theorem NB_step {b : Nat → Int32} (h : WF b) (rs : List Rl) : NB b (stepB rs b) := NB_go (by have := restA_le rs b; have := h.manyN.2; omega)
theorem left_step {b : Nat → Int32} (h : WF b) (hl : 0 < leftB b) (rs : List Rl) : leftB (stepB rs b) + 1 = leftB b := left_go h hl (restA_le rs b)
theorem WF.rest {rs : List Rl} : ∀ (d : Nat) {b : Nat → Int32}, WF b → d ≤ leftB b → WF (restB rs d b) ∧ NB b (restB rs d b)
  | 0, b, h, _ => ⟨h, NB.rfl⟩
  | d + 1, b, h, hd => by
    have h1 := left_step h (by omega) rs
    obtain ⟨a1, a2⟩ := WF.rest (rs := rs) d (h.step (by omega) rs) (by omega)
    exact ⟨a1, (NB_step h rs).trans a2⟩
theorem restW_bd {rs : List Rl} : ∀ (d : Nat) {b : Nat → Int32}, WF b → d ≤ leftB b → bd (restW rs d b) (11 * d)
  | 0, b, _, _ => ⟨0, by omega, rfl⟩
  | d + 1, b, h, hd => by
    have h1 := left_step h (by omega) rs
    obtain ⟨j, hj, ej⟩ := goW_bd (rs := rs) h (restA_le rs b)
    obtain ⟨i, hi, ei⟩ := restW_bd (rs := rs) d (h.step (by omega) rs) (by omega)
    refine ⟨j + i, by omega, ?_⟩
    show goW rs (restA rs b) b + restW rs d (stepB rs b) = _
    rw [ej, ei, nI_add]
theorem isOverR {m : M} {b : Nat → Int32} (hb : m 77 = b) (hW : WF b) : r_isOver m = some (if leftB b = 0 then 1 else 0) := by
  rw [r_isOver_eq, hb, over_left hW]
theorem isOverK {m : M} {b : Nat → Int32} (hK : KB m b) (hW : WF b) : b_isOver m = some (if leftB b = 0 then 1 else 0) := by
  rw [b_isOver_eq hK, over_left hW]
theorem r_restOf_run {rs : List Rl} {n : Nat} (hn : n < 2 ^ 31) : ∀ (d : Nat) {b : Nat → Int32} {m : M} {acc : Int32} {i : Nat}, WF b → RR b rs → m 77 = b → i ≤ n → d = min (n - i) (leftB b) → ∃ m', (∀ F, d < F → iter (fun z : Int32 × Int32 × M => r_restOf_4b (nI n) z.1 z.2.1 z.2.2) F (acc, nI i, m) = some (acc + restW rs d b, m')) ∧ m' 77 = restB rs d b ∧ E76 m m' ∧ m' 76 16 = m 76 16 + restL rs d b := by
  intro d
  induction d with
  | zero =>
    intro b m acc i hW hR hb hi hd
    refine ⟨m, fun F hF => ?_, hb, E76.rfl, (Int32.add_zero _).symm⟩
    obtain ⟨F', rfl⟩ : ∃ F', F = F' + 1 := ⟨F - 1, by omega⟩
    show (r_restOf_4b (nI n) acc (nI i) m).bind _ = _
    unfold r_restOf_4b
    rw [show restW rs 0 b = 0 from rfl, Int32.add_zero]
    by_cases e : n = i
    · subst e
      rw [if_pos (Int32.le_refl _)]; rfl
    · rw [if_neg (nI_ge (by omega) hn), isOverR hb hW, if_pos (by omega), Option.bind_some, if_neg (by decide)]; rfl
  | succ d ih =>
    intro b m acc i hW hR hb hi hd
    have hl : 0 < leftB b := by omega
    obtain ⟨m1, g1, g2, g3, g4⟩ := r_goesBy_rest hb hW hR
    have hst := left_step hW hl rs
    obtain ⟨m', i1, i2, i3, i4⟩ := ih (b := stepB rs b) (m := m1) (acc := acc + goW rs (restA rs b) b) (i := i + 1) (hW.step hl rs) ((NB_step hW rs).rr hR) g2 (by omega) (by omega)
    refine ⟨m', fun F hF => ?_, i2, g3.trans i3, ?_⟩
    · obtain ⟨F', rfl⟩ : ∃ F', F = F' + 1 := ⟨F - 1, by omega⟩
      show (r_restOf_4b (nI n) acc (nI i) m).bind _ = _
      unfold r_restOf_4b
      rw [if_neg (nI_ge (by omega) hn), isOverR hb hW, if_neg (by omega), Option.bind_some, if_pos rfl, g1, Option.bind_some, ltE, ltE, nI_1, Option.bind_some]
      rw [show restW rs (d + 1) b = goW rs (restA rs b) b + restW rs d (stepB rs b) from rfl, ← Int32.add_assoc]
      exact i1 F' (by omega)
    · rw [i4, g4, show restL rs (d + 1) b = goL rs (restA rs b) b + restL rs d (stepB rs b) from rfl, Int32.add_assoc]
theorem r_restOf_eq {rs : List Rl} {n : Nat} (hn : n ≤ 16) {b : Nat → Int32} {m : M} (hW : WF b) (hR : RR b rs) (hb : m 77 = b) : ∃ m', r_restOf (nI n) m = some (restW rs (min n (leftB b)) b, m') ∧ m' 77 = restB rs (min n (leftB b)) b ∧ E76 m m' ∧ m' 76 16 = m 76 16 + restL rs (min n (leftB b)) b := by
  obtain ⟨m', i1, i2⟩ := r_restOf_run (n := n) (by omega) (min n (leftB b)) (acc := 0) (i := 0) hW hR hb (by omega) (by omega)
  refine ⟨m', ?_, i2⟩
  unfold r_restOf r_restOf_4
  have := i1 FU (by show min n (leftB b) < 4000; omega)
  rw [nI_0, Int32.zero_add] at this
  rw [this]
  rfl
theorem b_rest_run {rs : List Rl} : ∀ (d : Nat) {b : Nat → Int32} {m : M} {acc : Int32}, WF b → KR m rs → KB m b → d ≤ leftB b → ∃ m', (∀ F, d < F → iter (fun z : Int32 × Int32 × M => b_worthOfRest_8b z.1 z.2.1 z.2.2) F (acc, nI d, m) = some (acc + restW rs d b, m')) ∧ KB m' (restB rs d b) ∧ NQ m m' ∧ m' 1 8 = m 1 8 + restL rs d b := by
  intro d
  induction d with
  | zero =>
    intro b m acc hW hR hK hd
    refine ⟨m, fun F hF => ?_, hK, NQ.rfl, (Int32.add_zero _).symm⟩
    obtain ⟨F', rfl⟩ : ∃ F', F = F' + 1 := ⟨F - 1, by omega⟩
    show (b_worthOfRest_8b acc (nI 0) m).bind _ = _
    unfold b_worthOfRest_8b
    rw [if_pos (by decide), show restW rs 0 b = 0 from rfl, Int32.add_zero]; rfl
  | succ d ih =>
    intro b m acc hW hR hK hd
    have hl : 0 < leftB b := by omega
    have h16 := hW.left16
    obtain ⟨m1, g1, g2, g3, g4⟩ := b_nightOfRest_eq hK hW hR
    have hst := left_step hW hl rs
    obtain ⟨m', i1, i2, i3, i4⟩ := ih (b := stepB rs b) (m := m1) (acc := acc + goW rs (restA rs b) b) (hW.step hl rs) (g3.kr hR) g2 (by omega)
    refine ⟨m', fun F hF => ?_, i2, g3.trans i3, ?_⟩
    · obtain ⟨F', rfl⟩ : ∃ F', F = F' + 1 := ⟨F - 1, by omega⟩
      show (b_worthOfRest_8b acc (nI (d + 1)) m).bind _ = _
      unfold b_worthOfRest_8b
      rw [if_neg (nI_nle (by omega) (by omega)), g1, Option.bind_some, ltE, ltE, pk_m1, Option.bind_some]
      rw [show restW rs (d + 1) b = goW rs (restA rs b) b + restW rs d (stepB rs b) from rfl, ← Int32.add_assoc]
      exact i1 F' (by omega)
    · rw [i4, g4, show restL rs (d + 1) b = goL rs (restA rs b) b + restL rs d (stepB rs b) from rfl, Int32.add_assoc]
theorem mn_nat {a c : Nat} (ha : a < 2 ^ 31) (hc : c < 2 ^ 31) : mnI (nI a) (nI c) = nI (min a c) := by
  unfold mnI
  by_cases h : c < a
  · rw [if_pos ((nI_ltI hc ha).mpr h), Nat.min_eq_right (by omega)]
  · rw [if_neg (fun q => h ((nI_ltI hc ha).mp q)), Nat.min_eq_left (by omega)]
theorem b_nightsOf_eq {m : M} {b : Nat → Int32} {n : Nat} (hn : n < 2 ^ 30) (hK : KB m b) (hW : WF b) : b_nightsOf (nI n) m = some (nI (min n (leftB b))) := by
  have h1 := hW.nightN
  have h2 := hW.endN
  unfold b_nightsOf leftB
  rw [hK.f1, hK.f0, h1.1, h2.1, pk_sub hW.nle, mn_nat (by omega) (by omega)]
theorem b_worthOfRest_eq {rs : List Rl} {n : Nat} (hn : n ≤ 16) {b : Nat → Int32} {m : M} (hW : WF b) (hR : KR m rs) (hK : KB m b) : ∃ m', b_worthOfRest (nI n) m = some (restW rs (min n (leftB b)) b, m') ∧ KB m' (restB rs (min n (leftB b)) b) ∧ NQ m m' ∧ m' 1 8 = m 1 8 + restL rs (min n (leftB b)) b := by
  obtain ⟨m', i1, i2⟩ := b_rest_run (rs := rs) (min n (leftB b)) (acc := 0) hW hR hK (by omega)
  refine ⟨m', ?_, i2⟩
  unfold b_worthOfRest b_worthOfRest_8
  rw [b_nightsOf_eq (by omega) hK hW, Option.bind_some]
  have := i1 FU (by show min n (leftB b) < 4000; omega)
  rw [Int32.zero_add] at this
  rw [this]
  rfl
/-- all but the row and scratch -/
def EQ77 (m m' : M) : Prop := ∀ p k, p ≠ 77 → sc p k = false → m' p k = m p k
theorem EQ77.trans {m m1 m2 : M} (h1 : EQ77 m m1) (h2 : EQ77 m1 m2) : EQ77 m m2 := fun p k a b => (h2 p k a b).trans (h1 p k a b)
theorem E76.EQ {m m' : M} (h : E76 m m') : EQ77 m m' := fun p k a b => h p k (fun q => by subst q; rw [sc_80] at b; cases b) a (fun q => by obtain ⟨q1, q2⟩ := q; subst q1; subst q2; revert b; decide)
theorem EQ77_77 {m : M} {f : Nat → Int32} : EQ77 m (mset m 77 f) := fun p k a b => by rw [mset_ne a]
theorem EQ77_sc {m : M} {p : Nat} {f : Nat → Int32} (h : ∀ k, sc p k = true) : EQ77 m (mset m p f) := fun q k a b => by
  by_cases e : q = p
  · subst e; rw [h k] at b; cases b
  · rw [mset_ne e]
theorem EQ77.SQ {m m' : M} (h : EQ77 m m') (h7 : m' 77 = m 77) : SQ m m' := fun p k hk => by
  by_cases e : p = 77
  · subst e; rw [h7]
  · exact h p k e hk
theorem sc_79 : ∀ k, sc 79 k = true := fun k => by simp [sc]
theorem sc_85 : ∀ k, sc 85 k = true := fun k => by simp [sc]
/-- laid down, nights, laid back: nothing but scratch has changed -/
theorem lay_round {m m2 : M} {b : Nat → Int32} (hb : m 77 = b) (h : E76 (mset m 79 (cpT 67 (m 77) (m 79))) m2) (hn : ∀ j, 67 ≤ j → m2 77 j = b j) : ∃ m3, r_layBack m2 = some m3 ∧ SQ m m3 ∧ m3 77 = b ∧ m3 79 = m2 79 := by
  have e79 : m2 79 = cpT 67 (m 77) (m 79) := by
    funext k
    rw [h 79 k (by decide) (by decide) (fun q => by omega), mset_same]
  have e77 : cpT 67 (m2 79) (m2 77) = b := cpT_back (fun j hj => by rw [e79]; unfold cpT; rw [if_pos hj, hb]) hn
  refine ⟨_, r_layBack_eq, ?_, ?_, by rw [mset_ne (by decide)]⟩
  · refine EQ77.SQ (((EQ77_sc sc_79).trans h.EQ).trans EQ77_77) ?_
    rw [mset_same, e77, hb]
  · rw [mset_same, e77]
theorem NB.hi {b b1 : Nat → Int32} (h : NB b b1) : ∀ j, 67 ≤ j → b1 j = b j := fun j hj => h j (by omega) (by omega) (by omega) (by omega) (fun k hk => ⟨by omega, by omega⟩)
