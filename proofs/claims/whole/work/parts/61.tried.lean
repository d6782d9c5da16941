/-! what is tried and laid back: on, when, fund, wrecks -/
theorem trial {m m2 : M} {b b2 : Nat → Int32} (hW : WF b) (hK : KB m b) (hK2 : KB m2 b2) (hn : NB b b2) (hq : NQ m m2) : ∃ m3, b_goBackTo (lN (momN b)) m2 = some m3 ∧ KB m3 b ∧ NQ m m3 ∧ SQ m m3 ∧ m3 1 8 = m2 1 8 := by
  obtain ⟨m3, h1, h2, h3, h4⟩ := b_goBackTo_eq hW hK2 hn
  exact ⟨m3, h1, h2, hq.trans h3, (hq.trans h3).SQ hK h2, h4⟩
theorem NB.w18 {m : M} : True := trivial
def onV (rs : List Rl) (b : Nat → Int32) (y : Int32) : Int32 := if 0 ≤ y ∧ y ≤ 16 then restW rs (min y.toNatClampNeg (leftB b)) b else -1
theorem k_on_eq {m : M} {b : Nat → Int32} {rs : List Rl} (hW : WF b) (hK : KB m b) (hR : KR m rs) (y : Int32) : ∃ m1, k_on y m = some (onV rs b y, m1) ∧ SQ m m1 := by
  unfold k_on onV
  rw [k_within_eq, Option.bind_some]
  by_cases h : 0 ≤ y ∧ y ≤ 16
  · rw [if_pos h, if_pos h, if_neg (by decide)]
    obtain ⟨j, hj, rfl⟩ := (in_le (v := y) (n := 16) (by decide)).mp h
    rw [nI_clamp (by omega), b_moment_eq hK hW]
    simp only [Option.bind_some]
    obtain ⟨m2, g1, g2, g3, g4⟩ := b_worthOfRest_eq (rs := rs) (n := j) hj hW hR hK
    rw [g1]
    simp only [Option.bind_some]
    obtain ⟨w1, w2⟩ := WF.rest (rs := rs) (min j (leftB b)) hW (Nat.min_le_right _ _)
    obtain ⟨m3, t1, t2, t3, t4, t5⟩ := trial hW hK g2 w2 g3
    rw [t1]
    exact ⟨m3, rfl, t4⟩
  · rw [if_neg h, if_neg h, if_pos rfl]
    exact ⟨m, rfl, SQ.rfl⟩
theorem r_on_eq {m : M} {b : Nat → Int32} {rs : List Rl} (hW : WF b) (hR : RR b rs) (hb : m 77 = b) (y : Int32) : ∃ m1, r_on y m = some (onV rs b y, m1) ∧ SQ m m1 := by
  unfold r_on onV
  rw [r_in1_eq, Option.bind_some]
  by_cases h : 0 ≤ y ∧ y ≤ 16
  · rw [if_pos h, if_pos h, if_neg (by decide)]
    obtain ⟨j, hj, rfl⟩ := (in_le (v := y) (n := 16) (by decide)).mp h
    rw [nI_clamp (by omega), r_layDown_eq]
    simp only [Option.bind_some]
    obtain ⟨m2, g1, g2, g3, g4⟩ := r_restOf_eq (rs := rs) (n := j) hj hW hR (m := mset m 79 (cpT 67 (m 77) (m 79))) (by rw [mset_ne (by decide)]; exact hb)
    rw [g1]
    simp only [Option.bind_some]
    obtain ⟨w1, w2⟩ := WF.rest (rs := rs) (min j (leftB b)) hW (Nat.min_le_right _ _)
    obtain ⟨m3, t1, t2, t3, t4⟩ := lay_round hb g3 (by rw [g2]; exact w2.hi)
    rw [t1]
    exact ⟨m3, rfl, t2⟩
  · rw [if_neg h, if_neg h, if_pos rfl]
    exact ⟨m, rfl, SQ.rfl⟩
/-- is it a member -/
def memB (b : Nat → Int32) (y : Int32) : Bool := decide (0 ≤ y ∧ y ≤ b 6 - 1)
theorem WF.mem {b : Nat → Int32} (hW : WF b) {y : Int32} (h : memB b y = true) : ∃ k, k < manyB b ∧ k < 6 ∧ y = nI k := by
  have h1 := of_decide_eq_true h
  rw [hW.manyN.1] at h1
  obtain ⟨j, hj, e⟩ := (in_nat (by have := hW.manyN.2; omega)).mp h1
  exact ⟨j, hj, by have := hW.manyN.2; omega, e⟩
theorem WF.memK {b : Nat → Int32} (hW : WF b) {k : Nat} (h : k < manyB b) : memB b (nI k) = true := by
  unfold memB
  rw [hW.manyN.1]
  exact decide_eq_true ((in_nat (by have := hW.manyN.2; omega)).mpr ⟨k, h, rfl⟩)
theorem r_isMember_eq {m : M} {b : Nat → Int32} (hb : m 77 = b) (y : Int32) : r_isMember y m = some (b01 (memB b y)) := by
  unfold r_isMember memB
  rw [rd77_6, hb, Option.bind_some, r_in1_eq, Option.bind_some]
  by_cases h : 0 ≤ y ∧ y ≤ b 6 - 1
  · rw [if_pos h, decide_eq_true h]; rfl
  · rw [if_neg h, decide_eq_false h]; rfl
theorem b_isMember_eq {m : M} {b : Nat → Int32} (hK : KB m b) (y : Int32) : b_isMember y m = some (b01 (memB b y)) := by
  unfold b_isMember memB
  rw [hK.f6, k_within_eq, Option.bind_some]
  by_cases h : 0 ≤ y ∧ y ≤ b 6 - 1
  · rw [if_pos h, decide_eq_true h]; rfl
  · rw [if_neg h, decide_eq_false h]; rfl
theorem moveB_off {rs : List Rl} {b : Nat → Int32} {k j : Nat} (h1 : j ≠ 3) (h2 : j ≠ 37 + 5 * k + 1) (h3 : j ≠ 37 + 5 * k + 4) : (moveB rs b k).2 j = b j := by
  unfold moveB
  split
  · rfl
  · split
    · exact upd_off h2
    · exact (upd_off h3).trans (upd_off h1)
theorem preB_off {rs : List Rl} {b : Nat → Int32} {a j : Nat} (h1 : j ≠ 3) (h2 : j < 37) : (preB rs a b).2 j = b j := by
  unfold preB
  split
  · rfl
  · exact moveB_off h1 (by omega) (by omega)
theorem step_night {rs : List Rl} {b : Nat → Int32} (hW : WF b) : stepB rs b 0 = nI (nightB b + 1) := by
  have e : (preB rs (restA rs b) b).2 0 = b 0 := preB_off (by decide) (by decide)
  have e2 : ∀ (w : Int32) (c : Nat → Int32), passB w c 0 = c 0 + 1 := fun w c => by
    unfold passB
    rw [upd_off (by decide), upd_at]
  unfold stepB goB
  rw [e2, e, hW.nightN.1, nI_1]
theorem step_pred {rs : List Rl} {b : Nat → Int32} (hW : WF b) : stepB rs b 0 - 1 = nI (nightB b) := by
  rw [step_night hW, nI_pred]
theorem nI_ne_m3 {n : Nat} (h : n < 2 ^ 31) : ¬ nI n = -3 := fun q => absurd (nI_pos' h) (by rw [q]; decide)
/-- the first of the nights behind which one is heard -/
def whenF (rs : List Rl) (k : Nat) : Nat → (Nat → Int32) → Int32
  | 0, _ => -3
  | d + 1, b => if stepB rs b (37 + 5 * k + 4) = 0 then whenF rs k d (stepB rs b) else stepB rs b 0 - 1
def whenV (rs : List Rl) (b : Nat → Int32) (y : Int32) : Int32 := if memB b y = true then (if b (37 + 5 * y.toNatClampNeg + 4) = 0 then whenF rs y.toNatClampNeg (leftB b) b else -3) else -1
theorem r_when_run {rs : List Rl} {k : Nat} (hk : k < 6) : ∀ (d : Nat) {b : Nat → Int32} {m : M}, WF b → RR b rs → m 77 = b → d = leftB b → ∃ m', (∀ F, d + 1 < F → iter (fun z : Int32 × Int32 × M => r_when_32b (nI k) z.1 z.2.1 z.2.2) F (-3, 1, m) = some (whenF rs k d b, m')) ∧ NB b (m' 77) ∧ E76 m m' := by
  intro d
  induction d with
  | zero =>
    intro b m hW hR hb hd
    refine ⟨m, fun F hF => ?_, by rw [hb]; exact NB.rfl, E76.rfl⟩
    obtain ⟨F', rfl⟩ : ∃ F', F = F' + 1 := ⟨F - 1, by omega⟩
    show (r_when_32b (nI k) (-3) 1 m).bind _ = _
    unfold r_when_32b
    rw [if_neg (by decide), isOverR hb hW, if_pos (by omega), Option.bind_some, if_neg (by decide)]
    rfl
  | succ d ih =>
    intro b m hW hR hb hd
    have hl : 0 < leftB b := by omega
    obtain ⟨m1, g1, g2, g3, g4⟩ := r_goesBy_rest hb hW hR
    have hst := left_step hW hl rs
    have g2' : m1 77 = stepB rs b := g2
    have hn1 : NB b (stepB rs b) := NB_step hW rs
    have hfirst : r_when_32b (nI k) (-3) 1 m = (if stepB rs b (37 + 5 * k + 4) = 0 then some (.inl (-3, 1, m1)) else some (.inl (stepB rs b 0 - 1, 0, m1))) := by
      unfold r_when_32b
      rw [if_neg (by decide), isOverR hb hW, if_neg (by omega), Option.bind_some, if_pos rfl, g1]
      simp only [Option.bind_some]
      rw [show r_get (nI k) (4 : Int32) m1 = some (m1 77 (37 + 5 * k + 4)) from r_get_at (f := 4) hk (by decide), g2']
      simp only [Option.bind_some]
      by_cases e : stepB rs b (37 + 5 * k + 4) = 0
      · rw [if_pos e, if_pos e]; rfl
      · rw [if_neg e, if_neg e]
        unfold r_when_64
        obtain ⟨j, hj, ej⟩ := goW_bd (rs := rs) hW (restA_le rs b)
        rw [if_pos rfl, if_pos (by rw [ej]; exact nI_pos' (by omega)), rd77_0, g2']
        rfl
    by_cases e : stepB rs b (37 + 5 * k + 4) = 0
    · obtain ⟨m', i1, i2, i3⟩ := ih (b := stepB rs b) (m := m1) (hW.step hl rs) (hn1.rr hR) g2' (by omega)
      refine ⟨m', fun F hF => ?_, hn1.trans i2, g3.trans i3⟩
      obtain ⟨F', rfl⟩ : ∃ F', F = F' + 1 := ⟨F - 1, by omega⟩
      show (r_when_32b (nI k) (-3) 1 m).bind _ = _
      rw [hfirst, if_pos e]
      rw [show whenF rs k (d + 1) b = (if stepB rs b (37 + 5 * k + 4) = 0 then whenF rs k d (stepB rs b) else stepB rs b 0 - 1) from rfl, if_pos e]
      exact i1 F' (by omega)
    · refine ⟨m1, fun F hF => ?_, by rw [g2']; exact hn1, g3⟩
      obtain ⟨F', rfl⟩ : ∃ F', F = F' + 1 + 1 := ⟨F - 2, by omega⟩
      show (r_when_32b (nI k) (-3) 1 m).bind _ = _
      rw [hfirst, if_neg e]
      rw [show whenF rs k (d + 1) b = (if stepB rs b (37 + 5 * k + 4) = 0 then whenF rs k d (stepB rs b) else stepB rs b 0 - 1) from rfl, if_neg e]
      show iter (fun z : Int32 × Int32 × M => r_when_32b (nI k) z.1 z.2.1 z.2.2) (F' + 1) (stepB rs b 0 - 1, 0, m1) = _
      show (r_when_32b (nI k) (stepB rs b 0 - 1) 0 m1).bind _ = _
      unfold r_when_32b
      rw [if_pos rfl]
      rfl
theorem r_when_eq {m : M} {b : Nat → Int32} {rs : List Rl} (hW : WF b) (hR : RR b rs) (hb : m 77 = b) (y : Int32) : ∃ m1, r_when y m = some (whenV rs b y, m1) ∧ SQ m m1 := by
  unfold r_when whenV
  rw [r_isMember_eq hb, Option.bind_some]
  by_cases h : memB b y = true
  · obtain ⟨k, hk1, hk, rfl⟩ := hW.mem h
    rw [h, if_neg (by decide), if_pos rfl, nI_clamp (by omega), r_layDown_eq]
    simp only [Option.bind_some]
    have hb2 : (mset m 79 (cpT 67 (m 77) (m 79))) 77 = b := by rw [mset_ne (by decide)]; exact hb
    rw [show r_get (nI k) (4 : Int32) (mset m 79 (cpT 67 (m 77) (m 79))) = some ((mset m 79 (cpT 67 (m 77) (m 79))) 77 (37 + 5 * k + 4)) from r_get_at (f := 4) hk (by decide), hb2]
    simp only [Option.bind_some]
    by_cases e : b (37 + 5 * k + 4) = 0
    · rw [if_pos e, if_pos e]
      obtain ⟨m2, g1, g2, g3⟩ := r_when_run (rs := rs) hk (leftB b) hW hR hb2 rfl
      unfold r_when_31 r_when_32
      rw [g1 FU (by have := hW.left16; show leftB b + 1 < 4000; omega)]
      simp only [Option.bind_some]
      obtain ⟨m3, t1, t2, t3, t4⟩ := lay_round hb g3 g2.hi
      unfold r_when_91
      rw [t1]
      exact ⟨m3, rfl, t2⟩
    · rw [if_neg e, if_neg e]
      unfold r_when_31 r_when_32
      rw [show iter (fun z : Int32 × Int32 × M => r_when_32b (nI k) z.1 z.2.1 z.2.2) FU (-3, 0, mset m 79 (cpT 67 (m 77) (m 79))) = some (-3, mset m 79 (cpT 67 (m 77) (m 79))) from by
        show (r_when_32b (nI k) (-3) 0 _).bind _ = _
        unfold r_when_32b
        rw [if_pos rfl]
        rfl]
      simp only [Option.bind_some]
      obtain ⟨m3, t1, t2, t3, t4⟩ := lay_round hb (m2 := mset m 79 (cpT 67 (m 77) (m 79))) E76.rfl (by rw [hb2]; exact fun _ _ => rfl)
      unfold r_when_91
      rw [t1]
      exact ⟨m3, rfl, t2⟩
  · rw [if_neg h, Bool.eq_false_iff.mpr h, if_pos (show b01 false = 0 from rfl)]
    exact ⟨m, rfl, SQ.rfl⟩
theorem k_when_run {rs : List Rl} {k : Nat} (hk : k < 6) {a2 : Int64} : ∀ (d : Nat) {b : Nat → Int32} {m : M}, WF b → KR m rs → KB m b → d = leftB b → ∃ (m' : M) (b' : Nat → Int32), (∀ F, d < F → iter (fun z : Int32 × M => k_when_46b (nI k) a2 z.1 z.2) F (nI d, m) = some m') ∧ KB m' b' ∧ WF b' ∧ NB b b' ∧ NQ m m' ∧ (if b' (37 + 5 * k + 4) = 0 then -3 else b' 0 - 1) = (if b (37 + 5 * k + 4) = 0 then whenF rs k d b else b 0 - 1) := by
  intro d
  induction d with
  | zero =>
    intro b m hW hR hK hd
    refine ⟨m, b, fun F hF => ?_, hK, hW, NB.rfl, NQ.rfl, rfl⟩
    obtain ⟨F', rfl⟩ : ∃ F', F = F' + 1 := ⟨F - 1, by omega⟩
    show (k_when_46b (nI k) a2 (nI 0) m).bind _ = _
    unfold k_when_46b
    rw [if_pos (by decide)]; rfl
  | succ d ih =>
    intro b m hW hR hK hd
    have hl : 0 < leftB b := by omega
    have h16 := hW.left16
    have hhead : k_when_46b (nI k) a2 (nI (d + 1)) m = (if b (37 + 5 * k + 4) = 0 then Option.bind (b_nightOfRest m) (fun z2 => lt (nI (d + 1) + -1) (fun w3 : Int32 => some (.inl (w3, z2.2)))) else some (.inr m)) := by
      unfold k_when_46b
      rw [if_neg (nI_nle (by omega) (by omega)), b_isHeard_eq hK hW hk]
      simp only [Option.bind_some]
    by_cases e : b (37 + 5 * k + 4) = 0
    · obtain ⟨m1, g1, g2, g3, g4⟩ := b_nightOfRest_eq hK hW hR
      have hst := left_step hW hl rs
      obtain ⟨m', b', i1, i2, i3, i4, i5, i6⟩ := ih (b := stepB rs b) (m := m1) (hW.step hl rs) (g3.kr hR) g2 (by omega)
      refine ⟨m', b', fun F hF => ?_, i2, i3, (NB_step hW rs).trans i4, g3.trans i5, ?_⟩
      · obtain ⟨F', rfl⟩ : ∃ F', F = F' + 1 := ⟨F - 1, by omega⟩
        show (k_when_46b (nI k) a2 (nI (d + 1)) m).bind _ = _
        rw [hhead, if_pos e, g1]
        simp only [Option.bind_some]
        rw [ltE, pk_m1]
        exact i1 F' (by omega)
      · rw [i6, if_pos e]; rfl
    · refine ⟨m, b, fun F hF => ?_, hK, hW, NB.rfl, NQ.rfl, by rw [if_neg e, if_neg e]⟩
      obtain ⟨F', rfl⟩ : ∃ F', F = F' + 1 := ⟨F - 1, by omega⟩
      show (k_when_46b (nI k) a2 (nI (d + 1)) m).bind _ = _
      rw [hhead, if_neg e]; rfl
theorem min16 {b : Nat → Int32} (hW : WF b) : min 16 (leftB b) = leftB b := Nat.min_eq_right hW.left16
theorem nights16 {m : M} {b : Nat → Int32} (hK : KB m b) (hW : WF b) : b_nightsOf 16 m = some (nI (leftB b)) := by
  rw [show (16 : Int32) = nI 16 from rfl, b_nightsOf_eq (by decide) hK hW, min16 hW]
theorem k_when_eq {m : M} {b : Nat → Int32} {rs : List Rl} (hW : WF b) (hK : KB m b) (hR : KR m rs) (y : Int32) : ∃ m1, k_when y m = some (whenV rs b y, m1) ∧ SQ m m1 := by
  unfold k_when whenV
  rw [b_isMember_eq hK, Option.bind_some]
  by_cases h : memB b y = true
  · obtain ⟨k, hk1, hk, rfl⟩ := hW.mem h
    rw [h, if_neg (by decide), if_pos rfl, nI_clamp (by omega), b_isHeard_eq hK hW hk]
    simp only [Option.bind_some]
    by_cases e : b (37 + 5 * k + 4) = 0
    · rw [if_pos e, if_pos e, b_moment_eq hK hW, nights16 hK hW]
      simp only [Option.bind_some]
      obtain ⟨m2, b2, g1, g2, g3, g4, g5, g6⟩ := k_when_run (rs := rs) hk (a2 := lN (momN b)) (leftB b) hW hR hK rfl
      unfold k_when_46
      rw [g1 FU (by have := hW.left16; show leftB b < 4000; omega)]
      simp only [Option.bind_some]
      unfold k_when_76 k_when_101
      rw [b_isHeard_eq g2 g3 hk]
      simp only [Option.bind_some]
      obtain ⟨m3, t1, t2, t3, t4, t5⟩ := trial hW hK g2 g4 g5
      rw [t1, if_pos e] at *
      rw [g2.f0]
      simp only [Option.bind_some]
      rw [← g6]
      refine ⟨m3, ?_, t4⟩
      by_cases e2 : b2 (37 + 5 * k + 4) = 0
      · rw [if_pos e2, if_pos e2]
      · rw [if_neg e2, if_neg e2]
    · rw [if_neg e, if_neg e]
      exact ⟨m, rfl, SQ.rfl⟩
  · rw [if_neg h, Bool.eq_false_iff.mpr h, if_pos (show b01 false = 0 from rfl)]
    exact ⟨m, rfl, SQ.rfl⟩
/-- the first of the nights behind which the fund is so great -/
def fundF (rs : List Rl) (y : Int32) : Nat → (Nat → Int32) → Int32
  | 0, _ => -3
  | d + 1, b => if stepB rs b 4 < y then fundF rs y d (stepB rs b) else stepB rs b 0 - 1
def fundV (rs : List Rl) (b : Nat → Int32) (y : Int32) : Int32 := if 0 ≤ y ∧ y ≤ 999 then fundF rs y (leftB b) b else -1
theorem fundF_succ {rs : List Rl} {y : Int32} {d : Nat} {b : Nat → Int32} : fundF rs y (d + 1) b = (if stepB rs b 4 < y then fundF rs y d (stepB rs b) else stepB rs b 0 - 1) := rfl
theorem r_fund_run {rs : List Rl} {y : Int32} : ∀ (d : Nat) {b : Nat → Int32} {m : M}, WF b → RR b rs → m 77 = b → d = leftB b → ∃ m', (∀ F, d + 1 < F → iter (fun z : Int32 × M => r_fund_20b y z.1 z.2) F (-3, m) = some (fundF rs y d b, m')) ∧ NB b (m' 77) ∧ E76 m m' := by
  intro d
  induction d with
  | zero =>
    intro b m hW hR hb hd
    refine ⟨m, fun F hF => ?_, by rw [hb]; exact NB.rfl, E76.rfl⟩
    obtain ⟨F', rfl⟩ : ∃ F', F = F' + 1 := ⟨F - 1, by omega⟩
    show (r_fund_20b y (-3) m).bind _ = _
    unfold r_fund_20b
    rw [if_pos rfl, isOverR hb hW, if_pos (by omega), Option.bind_some, if_neg (by decide)]
    rfl
  | succ d ih =>
    intro b m hW hR hb hd
    have hl : 0 < leftB b := by omega
    obtain ⟨m1, g1, g2, g3, g4⟩ := r_goesBy_rest hb hW hR
    have hst := left_step hW hl rs
    have g2' : m1 77 = stepB rs b := g2
    have hn1 : NB b (stepB rs b) := NB_step hW rs
    have hfirst : r_fund_20b y (-3) m = (if stepB rs b 4 < y then some (.inl (-3, m1)) else some (.inl (stepB rs b 0 - 1, m1))) := by
      unfold r_fund_20b r_fund_64 r_fund_66
      obtain ⟨j, hj, ej⟩ := goW_bd (rs := rs) hW (restA_le rs b)
      rw [if_pos rfl, isOverR hb hW, if_neg (by omega), Option.bind_some, if_pos rfl, g1]
      simp only [Option.bind_some]
      rw [rd77_4, g2', Option.bind_some, if_neg (show ¬ goW rs (restA rs b) b < 0 by rw [ej]; exact nI_pos (by omega)), rd77_0, g2', Option.bind_some]
    by_cases e : stepB rs b 4 < y
    · obtain ⟨m', i1, i2, i3⟩ := ih (b := stepB rs b) (m := m1) (hW.step hl rs) (hn1.rr hR) g2' (by omega)
      refine ⟨m', fun F hF => ?_, hn1.trans i2, g3.trans i3⟩
      obtain ⟨F', rfl⟩ : ∃ F', F = F' + 1 := ⟨F - 1, by omega⟩
      show (r_fund_20b y (-3) m).bind _ = _
      rw [hfirst, if_pos e, fundF_succ, if_pos e]
      exact i1 F' (by omega)
    · refine ⟨m1, fun F hF => ?_, by rw [g2']; exact hn1, g3⟩
      obtain ⟨F', rfl⟩ : ∃ F', F = F' + 1 + 1 := ⟨F - 2, by omega⟩
      show (r_fund_20b y (-3) m).bind _ = _
      rw [hfirst, if_neg e, fundF_succ, if_neg e]
      show (r_fund_20b y (stepB rs b 0 - 1) m1).bind _ = _
      unfold r_fund_20b
      rw [if_neg (by rw [step_pred hW]; exact nI_ne_m3 (by have := hW.nightN.2; omega))]
      rfl
theorem r_fund_eq {m : M} {b : Nat → Int32} {rs : List Rl} (hW : WF b) (hR : RR b rs) (hb : m 77 = b) (y : Int32) : ∃ m1, r_fund y m = some (fundV rs b y, m1) ∧ SQ m m1 := by
  unfold r_fund fundV
  rw [r_in1_eq, Option.bind_some]
  by_cases h : 0 ≤ y ∧ y ≤ 999
  · rw [if_pos h, if_pos h, if_neg (by decide), r_layDown_eq]
    simp only [Option.bind_some]
    have hb2 : (mset m 79 (cpT 67 (m 77) (m 79))) 77 = b := by rw [mset_ne (by decide)]; exact hb
    obtain ⟨m2, g1, g2, g3⟩ := r_fund_run (rs := rs) (y := y) (leftB b) hW hR hb2 rfl
    unfold r_fund_20
    rw [g1 FU (by have := hW.left16; show leftB b + 1 < 4000; omega)]
    simp only [Option.bind_some]
    obtain ⟨m3, t1, t2, t3, t4⟩ := lay_round hb g3 g2.hi
    unfold r_fund_70
    rw [t1]
    exact ⟨m3, rfl, t2⟩
  · rw [if_neg h, if_neg h, if_pos rfl]
    exact ⟨m, rfl, SQ.rfl⟩
theorem k_fund_run {rs : List Rl} {y : Int32} {a2 : Int64} : ∀ (d : Nat) {b : Nat → Int32} {m : M}, WF b → KR m rs → KB m b → d = leftB b → ∃ (m' : M) (b' : Nat → Int32), (∀ F, d + 1 < F → iter (fun z : Int32 × Int32 × M => k_fund_36b y a2 z.1 z.2.1 z.2.2) F (-3, nI d, m) = some (fundF rs y d b, m')) ∧ KB m' b' ∧ NB b b' ∧ NQ m m' := by
  intro d
  induction d with
  | zero =>
    intro b m hW hR hK hd
    refine ⟨m, b, fun F hF => ?_, hK, NB.rfl, NQ.rfl⟩
    obtain ⟨F', rfl⟩ : ∃ F', F = F' + 1 := ⟨F - 1, by omega⟩
    show (k_fund_36b y a2 (-3) (nI 0) m).bind _ = _
    unfold k_fund_36b
    rw [if_pos (by decide)]; rfl
  | succ d ih =>
    intro b m hW hR hK hd
    have hl : 0 < leftB b := by omega
    have h16 := hW.left16
    obtain ⟨m1, g1, g2, g3, g4⟩ := b_nightOfRest_eq hK hW hR
    have g2' : KB m1 (stepB rs b) := g2
    have hst := left_step hW hl rs
    have hn1 : NB b (stepB rs b) := NB_step hW rs
    have hfirst : k_fund_36b y a2 (-3) (nI (d + 1)) m = (if stepB rs b 4 < y then some (.inl (-3, nI d, m1)) else some (.inl (stepB rs b 0 - 1, nI d, m1))) := by
      unfold k_fund_36b k_fund_78
      rw [if_neg (nI_nle (by omega) (by omega)), if_pos rfl, g1]
      simp only [Option.bind_some]
      rw [g2'.f3, g2'.f0, ltE, ltE, ltE, pk_m1]
    by_cases e : stepB rs b 4 < y
    · obtain ⟨m', b', i1, i2, i3, i4⟩ := ih (b := stepB rs b) (m := m1) (hW.step hl rs) (g3.kr hR) g2' (by omega)
      refine ⟨m', b', fun F hF => ?_, i2, hn1.trans i3, g3.trans i4⟩
      obtain ⟨F', rfl⟩ : ∃ F', F = F' + 1 := ⟨F - 1, by omega⟩
      show (k_fund_36b y a2 (-3) (nI (d + 1)) m).bind _ = _
      rw [hfirst, if_pos e, fundF_succ, if_pos e]
      exact i1 F' (by omega)
    · refine ⟨m1, stepB rs b, fun F hF => ?_, g2', hn1, g3⟩
      obtain ⟨F', rfl⟩ : ∃ F', F = F' + 1 + 1 := ⟨F - 2, by omega⟩
      show (k_fund_36b y a2 (-3) (nI (d + 1)) m).bind _ = _
      rw [hfirst, if_neg e, fundF_succ, if_neg e]
      show (k_fund_36b y a2 (stepB rs b 0 - 1) (nI d) m1).bind _ = _
      unfold k_fund_36b
      rw [if_neg (show ¬ stepB rs b 0 - 1 = -3 by rw [step_pred hW]; exact nI_ne_m3 (by have := hW.nightN.2; omega))]
      rw [ite_self]
      rfl
theorem k_fund_eq {m : M} {b : Nat → Int32} {rs : List Rl} (hW : WF b) (hK : KB m b) (hR : KR m rs) (y : Int32) : ∃ m1, k_fund y m = some (fundV rs b y, m1) ∧ SQ m m1 := by
  unfold k_fund fundV
  rw [k_within_eq, Option.bind_some]
  by_cases h : 0 ≤ y ∧ y ≤ 999
  · rw [if_pos h, if_pos h, if_neg (by decide), b_moment_eq hK hW, nights16 hK hW]
    simp only [Option.bind_some]
    obtain ⟨m2, b2, g1, g2, g4, g5⟩ := k_fund_run (rs := rs) (y := y) (a2 := lN (momN b)) (leftB b) hW hR hK rfl
    unfold k_fund_36
    rw [g1 FU (by have := hW.left16; show leftB b + 1 < 4000; omega)]
    simp only [Option.bind_some]
    obtain ⟨m3, t1, t2, t3, t4, t5⟩ := trial hW hK g2 g4 g5
    unfold k_fund_84
    rw [t1]
    exact ⟨m3, rfl, t4⟩
  · rw [if_neg h, if_neg h, if_pos rfl]
    exact ⟨m, rfl, SQ.rfl⟩
def wrecksV (rs : List Rl) (b : Nat → Int32) (y : Int32) : Int32 := if 0 ≤ y ∧ y ≤ 1 then (if y = 0 then restL rs (leftB b) b else restB rs (leftB b) b 4) else -1
theorem add_sub_l (a c : Int32) : a + c - a = c := by rw [Int32.add_comm, Int32.add_sub_cancel]
theorem k_wrecks_eq {m : M} {b : Nat → Int32} {rs : List Rl} (hW : WF b) (hK : KB m b) (hR : KR m rs) (y : Int32) : ∃ m1, k_wrecks y m = some (wrecksV rs b y, m1) ∧ SQ m m1 := by
  unfold k_wrecks wrecksV
  rw [k_within_eq, Option.bind_some]
  by_cases h : 0 ≤ y ∧ y ≤ 1
  · rw [if_pos h, if_pos h, if_neg (by decide), b_moment_eq hK hW]
    simp only [Option.bind_some]
    rw [ltE]
    obtain ⟨m2, g1, g2, g3, g4⟩ := b_worthOfRest_eq (rs := rs) (n := 16) (by decide) hW hR hK
    rw [show (16 : Int32) = nI 16 from rfl, g1]
    simp only [Option.bind_some]
    rw [min16 hW] at g2 g4
    obtain ⟨w1, w2⟩ := WF.rest (rs := rs) (leftB b) hW (Nat.le_refl _)
    obtain ⟨m3, t1, t2, t3, t4, t5⟩ := trial hW hK g2 w2 g3
    unfold k_wrecks_62
    rw [g4, add_sub_l, g2.f3, t1]
    by_cases e : y = 0
    · rw [if_pos e, if_pos e]; exact ⟨m3, rfl, t4⟩
    · rw [if_neg e, if_neg e]; exact ⟨m3, rfl, t4⟩
  · rw [if_neg h, if_neg h, if_pos rfl]
    exact ⟨m, rfl, SQ.rfl⟩
theorem r_wrecks_eq {m : M} {b : Nat → Int32} {rs : List Rl} (hW : WF b) (hR : RR b rs) (hb : m 77 = b) (y : Int32) : ∃ m1, r_wrecks y m = some (wrecksV rs b y, m1) ∧ SQ m m1 := by
  unfold r_wrecks wrecksV
  rw [r_in1_eq, Option.bind_some]
  by_cases h : 0 ≤ y ∧ y ≤ 1
  · rw [if_pos h, if_pos h, if_neg (by decide), r_layDown_eq]
    simp only [Option.bind_some]
    rw [ltE]
    obtain ⟨m2, g1, g2, g3, g4⟩ := r_restOf_eq (rs := rs) (n := 16) (by decide) hW hR (m := wrF (mset m 79 (cpT 67 (m 77) (m 79))) 76 16 0) (by rw [wrF_77, mset_ne (by decide)]; exact hb)
    rw [show (16 : Int32) = nI 16 from rfl, g1]
    simp only [Option.bind_some]
    rw [min16 hW] at g2 g4
    obtain ⟨w1, w2⟩ := WF.rest (rs := rs) (leftB b) hW (Nat.le_refl _)
    obtain ⟨m3, t1, t2, t3, t4⟩ := lay_round hb (E76_16.trans g3) (by rw [g2]; exact w2.hi)
    have e0 : (wrF (mset m 79 (cpT 67 (m 77) (m 79))) 76 16 0) 76 16 = 0 := by unfold wrF; rw [mset_same, upd_at]
    obtain ⟨j, hj, ej⟩ := restW_bd (rs := rs) (leftB b) hW (Nat.le_refl _)
    have h16 := hW.left16
    unfold r_wrecks_52
    rw [rd77_4, g2, g4, e0, Int32.zero_add, t1, min16 hW, ej, if_pos (nI_pos' (by omega))]
    simp only [Option.bind_some]
    by_cases e : y = 0
    · rw [if_pos e, if_pos e]; exact ⟨m3, rfl, t2⟩
    · rw [if_neg e, if_neg e]; exact ⟨m3, rfl, t2⟩
  · rw [if_neg h, if_neg h, if_pos rfl]
    exact ⟨m, rfl, SQ.rfl⟩
