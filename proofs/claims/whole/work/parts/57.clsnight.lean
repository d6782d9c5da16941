/-! acts on both sides; what stays well-formed -/
theorem r_goesBy_act {m : M} {b : Nat → Int32} {rs : List Rl} {a : Nat} (hb : m 77 = b) (hW : WF b) (hW2 : ∀ k, k < 6 → WF (moveB rs b k).2) (hR : RR b rs) (ha : a ≤ 6) : ∃ m', r_goesBy_14 (nI a - 1) m = some (goW rs a b, m') ∧ m' 77 = goB rs a b ∧ E76 m m' ∧ m' 76 16 = m 76 16 + goL rs a b := by
  unfold r_goesBy_14
  by_cases h0 : a = 0
  · subst h0
    rw [if_pos (by decide), r_goesBy_28_eq hb hW]
    exact ⟨_, Eq.refl _, mset_same, E76_16.trans E76_77, by rw [mset_ne (by decide)]; unfold wrF; rw [mset_same, upd_at]; rfl⟩
  · obtain ⟨k, rfl⟩ : ∃ k, a = k + 1 := ⟨a - 1, by omega⟩
    rw [nI_pred, if_neg (nI_pos (by omega))]
    obtain ⟨m1, h1, h2, h3, h4⟩ := r_movesFor_eq (rs := rs) (k := k) hb hW hR (by omega)
    rw [h1, Option.bind_some, r_goesBy_28_eq h2 (hW2 k (by omega))]
    have e : preB rs (k + 1) b = moveB rs b k := by unfold preB; rw [if_neg h0]; rfl
    unfold goW goB goL
    rw [e]
    exact ⟨_, Eq.refl _, mset_same, h3.trans (E76_16.trans E76_77), by rw [mset_ne (by decide)]; unfold wrF; rw [mset_same, upd_at, h4]⟩
theorem r_goesBy_eq {m : M} {b : Nat → Int32} {rs : List Rl} {a : Nat} (hb : m 77 = b) (hW : WF b) (hW2 : ∀ k, k < 6 → WF (moveB rs b k).2) (hR : RR b rs) (ha : a ≤ 6) : ∃ m', r_goesBy (nI a) m = some (goW rs a b, m') ∧ m' 77 = goB rs a b ∧ E76 m m' ∧ m' 76 16 = m 76 16 + goL rs a b := by
  obtain ⟨m', h⟩ := r_goesBy_act hb hW hW2 hR ha
  refine ⟨m', ?_, h.2⟩
  unfold r_goesBy
  rw [if_pos (nI_pos' (by omega))]
  exact h.1
theorem WF_upd {b : Nat → Int32} {j : Nat} {v : Int32} (h : WF b) (h0 : j = 0 → bd v 16 ∧ v ≤ b 1 := by intro h; omega) (h1 : j = 1 → bd v 16 ∧ b 0 ≤ v := by intro h; omega) (h3 : j = 3 → bd v 9 := by intro h; omega) (h4 : j = 4 → bd v 999 := by intro h; omega) (h6 : j ≠ 6 := by omega) (h9 : ∀ i, i < 16 → j = 9 + i → bd v 15 := by intros; omega) (h25 : ∀ i, i < 6 → j = 25 + i → bd v 9 := by intros; omega) (h31 : ∀ i, i < 6 → j = 31 + i → bd v 9 := by intros; omega) (m0 : ∀ k, k < 6 → j = 37 + 5 * k + 0 → bd v 5 := by intros; omega) (m1 : ∀ k, k < 6 → j = 37 + 5 * k + 1 → bd v 9 := by intros; omega) (m2 : ∀ k, k < 6 → j = 37 + 5 * k + 2 → bd v 9 := by intros; omega) (m3 : ∀ k, k < 6 → j = 37 + 5 * k + 3 → bd v 5 := by intros; omega) (m4 : ∀ k, k < 6 → j = 37 + 5 * k + 4 → bd v 1 ∧ (manyB b ≤ k → v = 0) := by intros; omega) : WF (upd b j v) := by
  have g : ∀ (i n : Nat), bd (b i) n → (j = i → bd v n) → bd (upd b j v i) n := fun i n hx hj => by
    by_cases e : i = j
    · rw [e, upd_at]; exact hj e.symm
    · rw [upd_off e]; exact hx
  have hmany : upd b j v 6 = b 6 := upd_off (Ne.symm h6)
  refine ⟨⟨g 0 16 h.night (fun e => (h0 e).1), g 1 16 h.fin (fun e => (h1 e).1), ?_⟩, g 3 9 h.light h3, g 4 999 h.fund h4, ?_, fun i hi => g _ _ (h.ship i hi) (h9 i hi), fun i hi => g _ _ (h.hush i hi) (h25 i hi), fun i hi => g _ _ (h.zeal i hi) (h31 i hi), fun k hk => ⟨g _ _ (h.kind hk) (m0 k hk), g _ _ (h.votes hk) (m1 k hk), g _ _ (h.greed hk) (m2 k hk), g _ _ (h.bench hk) (m3 k hk), g _ _ (h.heard hk) (fun e => (m4 k hk e).1)⟩, fun k hk1 hk => ?_⟩
  · by_cases e : j = 0
    · subst e; rw [upd_at, upd_off (by decide)]; exact (h0 (Eq.refl _)).2
    · rw [upd_off (Ne.symm e)]
      by_cases e1 : j = 1
      · subst e1; rw [upd_at]; exact (h1 (Eq.refl _)).2
      · rw [upd_off (Ne.symm e1)]; exact h.le
  · rw [hmany]; exact h.many
  · rw [hmany] at hk1
    by_cases e : 37 + 5 * k + 4 = j
    · rw [e, upd_at]; exact (m4 k hk e.symm).2 hk1
    · rw [upd_off e]; exact h.over k hk1 hk
theorem heldV_bd {v : Int32} {n : Nat} (hn : n < 2 ^ 31) : bd (heldV v (nI n)) n := by
  unfold heldV
  by_cases h : 0 ≤ v
  · rw [if_pos h]
    by_cases h2 : v ≤ nI n
    · rw [if_pos h2]
      obtain ⟨j, hj, rfl⟩ := (in_le hn).mp ⟨h, h2⟩
      exact ⟨j, hj, rfl⟩
    · rw [if_neg h2]; exact ⟨n, Nat.le_refl _, rfl⟩
  · rw [if_neg h]; exact ⟨0, by omega, by decide⟩
theorem heldV9 {v : Int32} : bd (heldV v 9) 9 := heldV_bd (n := 9) (by decide)
theorem heldV999 {v : Int32} : bd (heldV v 999) 999 := heldV_bd (n := 999) (by decide)
theorem nearV_tab : ∀ j, j < 10 → ∃ i, i < 10 ∧ nearV (nI j) = nI i := by decide +kernel
theorem nearV_bd {l : Int32} (h : bd l 9) : bd (nearV l) 9 := by
  obtain ⟨j, h1, rfl⟩ := h
  obtain ⟨i, h2, h3⟩ := nearV_tab j (by omega)
  exact ⟨i, by omega, h3⟩
theorem manyB_upd {b : Nat → Int32} {j : Nat} {v : Int32} (h : j ≠ 6) : manyB (upd b j v) = manyB b := by
  unfold manyB
  rw [upd_off (Ne.symm h)]
theorem WF.move {b : Nat → Int32} (h : WF b) (rs : List Rl) {k : Nat} (hk : k < manyB b) : WF (moveB rs b k).2 := by
  have h6 := h.manyN.2
  unfold moveB
  split
  · exact h
  · split
    · exact WF_upd h (m1 := fun _ _ _ => heldV9)
    · refine WF_upd (WF_upd h (h3 := fun _ => heldV9)) (m4 := fun i hi e => ⟨⟨1, by omega, by decide⟩, fun hq => ?_⟩)
      rw [manyB_upd (by decide)] at hq
      omega
theorem overB0 {b : Nat → Int32} : overB b = 0 ↔ b 0 < b 1 := by
  unfold overB
  by_cases h : b 0 < b 1
  · rw [if_pos h]; exact ⟨fun _ => h, fun _ => rfl⟩
  · rw [if_neg h]; exact ⟨fun q => absurd q (by decide), fun q => absurd q h⟩
theorem WF.pass {b : Nat → Int32} (h : WF b) (ho : overB b = 0) (w : Int32) : WF (passB w b) := by
  unfold passB
  have hlt := overB0.mp ho
  obtain ⟨e0, e1⟩ := h.nightN
  obtain ⟨f0, f1⟩ := h.endN
  rw [e0, f0] at hlt
  have hlt2 := (nI_ltI (by omega) (by omega)).mp hlt
  refine WF_upd (WF_upd (WF_upd (WF_upd h (h4 := fun _ => heldV999)) (h3 := fun _ => nearV_bd h.light)) (h0 := fun _ => ⟨?_, ?_⟩))
  · rw [e0, nI_1]; exact ⟨_, by omega, rfl⟩
  · rw [upd_off (by decide), upd_off (by decide), e0, f0, nI_1]
    exact (nI_leI (by omega) (by omega)).mpr (by omega)
theorem overB_congr {b b' : Nat → Int32} (h0 : b' 0 = b 0) (h1 : b' 1 = b 1) : overB b' = overB b := by unfold overB; rw [h0, h1]
theorem moveB_over {rs : List Rl} {b : Nat → Int32} {k : Nat} : overB (moveB rs b k).2 = overB b := by
  unfold moveB
  split
  · rfl
  · split
    · show overB (upd b (37 + 5 * k + 1) (heldV (b (37 + 5 * k + 1) - 1) 9)) = overB b
      unfold overB
      rw [upd_off (by omega), upd_off (by omega)]
    · show overB (upd (upd b 3 (heldV (if willB rs b k = 0 then b 3 - 2 else b 3 + 2) 9)) (37 + 5 * k + 4) 1) = overB b
      unfold overB
      rw [upd_off (by omega), upd_off (by omega), upd_off (by omega), upd_off (by omega)]
theorem WF.go {b : Nat → Int32} (h : WF b) (ho : overB b = 0) (rs : List Rl) {a : Nat} (ha : a ≤ manyB b) : WF (goB rs a b) := by
  unfold goB preB
  by_cases h0 : a = 0
  · rw [if_pos h0]; exact h.pass ho _
  · rw [if_neg h0]
    exact (h.move rs (by omega)).pass (by rw [moveB_over]; exact ho) _
/-- what a night leaves as it is -/
def NB (b b' : Nat → Int32) : Prop := ∀ j, j ≠ 0 → j ≠ 2 → j ≠ 3 → j ≠ 4 → (∀ k, k < 6 → j ≠ 37 + 5 * k + 1 ∧ j ≠ 37 + 5 * k + 4) → b' j = b j
theorem NB.rfl {b} : NB b b := fun _ _ _ _ _ _ => Eq.refl _
theorem NB.trans {b b1 b2} (h : NB b b1) (h2 : NB b1 b2) : NB b b2 := fun j a c d e f => (h2 j a c d e f).trans (h j a c d e f)
theorem NB.many {b b'} (h : NB b b') : manyB b' = manyB b := by
  unfold manyB; rw [h 6 (by decide) (by decide) (by decide) (by decide) (fun k hk => ⟨by omega, by omega⟩)]
theorem NB.rr {b b'} {rs} (h : NB b b') (hR : RR b rs) : RR b' rs := by
  have e : ∀ j, (j = 7 ∨ 91 ≤ j) → b' j = b j := fun j hj => h j (by omega) (by omega) (by omega) (by omega) (fun k hk => ⟨by omega, by omega⟩)
  exact ⟨(e 7 (by omega)).trans hR.1, hR.2.congr (fun r _ => ⟨e _ (by omega), e _ (by omega), e _ (by omega)⟩) (fun j _ => e _ (by omega))⟩
theorem NB_move {rs : List Rl} {b : Nat → Int32} {k : Nat} (hk : k < 6) : NB b (moveB rs b k).2 := by
  intro j h0 h2 h3 h4 hm
  unfold moveB
  split
  · rfl
  · split
    · exact upd_off (hm k hk).1
    · exact (upd_off (hm k hk).2).trans (upd_off h3)
theorem NB_pass {w : Int32} {b : Nat → Int32} : NB b (passB w b) := by
  intro j h0 h2 h3 h4 hm
  unfold passB
  rw [upd_off h2, upd_off h0, upd_off h3, upd_off h4]
theorem NB_go {rs : List Rl} {b : Nat → Int32} {a : Nat} (ha : a ≤ 6) : NB b (goB rs a b) := by
  unfold goB preB
  by_cases h0 : a = 0
  · rw [if_pos h0]; exact NB_pass
  · rw [if_neg h0]; exact (NB_move (by omega)).trans NB_pass
theorem worth_tab : ∀ s, s < 16 → ∀ l, l < 10 → ∃ i, i ≤ 9 ∧ (if lostV (nI s) (nI l) = 0 then (if nI s / 4 ≤ 0 then 0 else 1) else 3 * (nI s / 4)) = nI i := by decide +kernel
theorem goW_bd {rs : List Rl} {b : Nat → Int32} {a : Nat} (h : WF b) (ha : a ≤ manyB b) : bd (goW rs a b) 11 := by
  have hW : WF (preB rs a b).2 := by
    unfold preB
    by_cases h0 : a = 0
    · rw [if_pos h0]; exact h
    · rw [if_neg h0]; exact h.move rs (by omega)
  have hp : bd (preB rs a b).1 2 := by
    unfold preB moveB
    repeat' split
    all_goals first | exact ⟨0, by omega, n0⟩ | exact ⟨2, by omega, n2⟩
  unfold goW worthB lossB
  obtain ⟨s, hs, es⟩ := hW.shipNow
  obtain ⟨l, hl, el⟩ := hW.light
  obtain ⟨i, hi, ei⟩ := worth_tab s (by omega) l (by omega)
  obtain ⟨p, hp1, ep⟩ := hp
  rw [es, el, ei, ep, nI_add]
  exact ⟨_, by omega, rfl⟩
/-! the class's cells against the row's -/
def KBP (p c j : Nat) : Prop := (p = 1 ∧ (c = 0 ∧ j = 0 ∨ c = 1 ∧ j = 1 ∨ c = 2 ∧ j = 3 ∨ c = 3 ∧ j = 4 ∨ c = 5 ∧ j = 5 ∨ c = 6 ∧ j = 6)) ∨ (p = 10 ∧ c < 6 ∧ j = 37 + 5 * c + 0) ∨ (p = 11 ∧ c < 6 ∧ j = 37 + 5 * c + 1) ∨ (p = 12 ∧ c < 6 ∧ j = 37 + 5 * c + 2) ∨ (p = 13 ∧ c < 6 ∧ j = 37 + 5 * c + 3) ∨ (p = 14 ∧ c < 16 ∧ j = 9 + c) ∨ (p = 15 ∧ c < 6 ∧ j = 25 + c) ∨ (p = 16 ∧ c < 6 ∧ j = 31 + c)
theorem KB_iff {m : M} {b : Nat → Int32} : KB m b ↔ (∀ p c j, KBP p c j → m p c = b j) ∧ m 1 7 = nI (heardN b) := by
  constructor
  · intro h
    refine ⟨fun p c j hp => ?_, h.f7⟩
    rcases hp with ⟨rfl, h1⟩ | ⟨rfl, h1, rfl⟩ | ⟨rfl, h1, rfl⟩ | ⟨rfl, h1, rfl⟩ | ⟨rfl, h1, rfl⟩ | ⟨rfl, h1, rfl⟩ | ⟨rfl, h1, rfl⟩ | ⟨rfl, h1, rfl⟩
    · rcases h1 with ⟨rfl, rfl⟩ | ⟨rfl, rfl⟩ | ⟨rfl, rfl⟩ | ⟨rfl, rfl⟩ | ⟨rfl, rfl⟩ | ⟨rfl, rfl⟩
      · exact h.f0
      · exact h.f1
      · exact h.f2
      · exact h.f3
      · exact h.f5
      · exact h.f6
    · exact h.kind h1
    · exact h.votes h1
    · exact h.greed h1
    · exact h.seat h1
    · exact h.ship h1
    · exact h.hush h1
    · exact h.zeal h1
  · intro ⟨h, h7⟩
    refine ⟨⟨h 1 0 0 ?_, h 1 1 1 ?_, h 1 2 3 ?_, h 1 3 4 ?_, h 1 5 5 ?_, h 1 6 6 ?_, h7⟩, fun k hk => ⟨h 10 k _ ?_, h 11 k _ ?_, h 12 k _ ?_, h 13 k _ ?_⟩, fun j hj => h 14 j _ ?_, fun j hj => ⟨h 15 j _ ?_, h 16 j _ ?_⟩⟩
    all_goals (unfold KBP; omega)
theorem heardN_off {b : Nat → Int32} {j : Nat} {v : Int32} (h : ∀ k, k < 6 → j ≠ 37 + 5 * k + 4) : heardN (upd b j v) = heardN b := by
  unfold heardN hN
  rw [upd_off (Ne.symm (h 0 (by decide))), upd_off (Ne.symm (h 1 (by decide))), upd_off (Ne.symm (h 2 (by decide))), upd_off (Ne.symm (h 3 (by decide))), upd_off (Ne.symm (h 4 (by decide))), upd_off (Ne.symm (h 5 (by decide)))]
theorem KBP.fn {p c j i : Nat} (h : KBP p c j) (h2 : KBP p c i) : i = j := by unfold KBP at h h2; omega
theorem KBP.inj {p c p' c' j : Nat} (h : KBP p c j) (h2 : KBP p' c' j) : p' = p ∧ c' = c := by unfold KBP at h h2; omega
theorem KBP.not7 {p c j : Nat} (h : KBP p c j) : ¬ (p = 1 ∧ c = 7) ∧ (∀ k, k < 6 → j ≠ 37 + 5 * k + 4) ∧ j ≠ 2 := by
  unfold KBP at h
  refine ⟨by omega, fun k hk => by omega, by omega⟩
/-- one cell written on both sides -/
theorem KB.wr {m : M} {b : Nat → Int32} {p c j : Nat} {v : Int32} (h : KB m b) (hp : KBP p c j) : KB (mset m p (upd (m p) c v)) (upd b j v) := by
  obtain ⟨h1, h7⟩ := KB_iff.mp h
  refine KB_iff.mpr ⟨fun p' c' j' hp' => ?_, ?_⟩
  · by_cases e : p' = p
    · subst e
      rw [mset_same]
      by_cases e2 : c' = c
      · subst e2
        rw [upd_at, hp.fn hp', upd_at]
      · rw [upd_off e2, upd_off (fun q => e2 (by subst q; exact (hp.inj hp').2)), h1 _ _ _ hp']
    · rw [mset_ne e, upd_off (fun q => e (by subst q; exact (hp.inj hp').1)), h1 _ _ _ hp']
  · have hn := hp.not7
    rw [heardN_off hn.2.1, ← h7]
    by_cases e : 1 = p
    · rw [← e, mset_same, upd_off (fun q => hn.1 ⟨e.symm, q.symm⟩)]
    · rw [mset_ne e]
/-- the score is kept apart -/
theorem KB.score {m : M} {b : Nat → Int32} {v : Int32} (h : KB m b) : KB m (upd b 2 v) := by
  obtain ⟨h1, h7⟩ := KB_iff.mp h
  refine KB_iff.mpr ⟨fun p c j hp => ?_, ?_⟩
  · rw [upd_off hp.not7.2.2, h1 _ _ _ hp]
  · rw [heardN_off (fun k hk => by omega), h7]
theorem KB.cong {m m' : M} {b : Nat → Int32} (h : KB m b) (h1 : ∀ p c j, KBP p c j → m' p c = m p c) (h7 : m' 1 7 = m 1 7) : KB m' b := by
  obtain ⟨g1, g7⟩ := KB_iff.mp h
  exact KB_iff.mpr ⟨fun p c j hp => (h1 p c j hp).trans (g1 p c j hp), h7.trans g7⟩
theorem KB.w18 {m : M} {b : Nat → Int32} {c : Nat} {v : Int32} (h : KB m b) (hc : c = 8 ∨ c = 4) : KB (wrF m 1 c v) b := by
  refine h.cong (fun p k j hp => ?_) ?_
  · unfold wrF
    by_cases e : p = 1
    · subst e
      rw [mset_same, upd_off (by unfold KBP at hp; omega)]
    · rw [mset_ne e]
  · unfold wrF; rw [mset_same, upd_off (by omega)]
theorem hset_dec : ∀ h, h < 64 → ∀ k, k < 6 → nI h ||| ((1 : Int32) <<< (nI k &&& 31)) = nI (h + 2 ^ k * (1 - h / 2 ^ k % 2)) := by decide +kernel
theorem heardN_set {b : Nat → Int32} (hW : WF b) {k : Nat} (hk : k < 6) : nI (heardN b) ||| ((1 : Int32) <<< (nI k &&& 31)) = nI (heardN (upd b (37 + 5 * k + 4) 1)) := by
  rw [hset_dec _ hW.heard64 k hk, hW.bitN hk]
  congr 1
  have h0 := (hW.hNk (k := 0) (by decide)).2
  have h1 := (hW.hNk (k := 1) (by decide)).2
  have h2 := (hW.hNk (k := 2) (by decide)).2
  have h3 := (hW.hNk (k := 3) (by decide)).2
  have h4 := (hW.hNk (k := 4) (by decide)).2
  have h5 := (hW.hNk (k := 5) (by decide)).2
  have hu : ∀ i, i < 6 → hN (upd b (37 + 5 * k + 4) 1) i = if i = k then 1 else hN b i := fun i hi => by
    unfold hN
    by_cases e : i = k
    · subst e; rw [upd_at, if_pos rfl]; rfl
    · rw [upd_off (by omega), if_neg e]
  unfold heardN
  rw [hu 0 (by decide), hu 1 (by decide), hu 2 (by decide), hu 3 (by decide), hu 4 (by decide), hu 5 (by decide)]
  match k, hk with
  | 0, _ => simp; omega
  | 1, _ => simp; omega
  | 2, _ => simp; omega
  | 3, _ => simp; omega
  | 4, _ => simp; omega
  | 5, _ => simp; omega
  | k + 6, h => omega
theorem KB.hear {m : M} {b : Nat → Int32} {k : Nat} {v w : Int32} (h : KB m b) (hk : k < 6) (hv : v = nI (heardN (upd b (37 + 5 * k + 4) w))) : KB (wrF m 1 7 v) (upd b (37 + 5 * k + 4) w) := by
  obtain ⟨h1, h7⟩ := KB_iff.mp h
  refine KB_iff.mpr ⟨fun p c j hp => ?_, ?_⟩
  · rw [upd_off (hp.not7.2.1 k hk)]
    unfold wrF
    by_cases e : p = 1
    · subst e
      rw [mset_same, upd_off (fun q => hp.not7.1 ⟨Eq.refl _, q⟩), h1 _ _ _ hp]
    · rw [mset_ne e, h1 _ _ _ hp]
  · unfold wrF; rw [mset_same, upd_at, hv]
