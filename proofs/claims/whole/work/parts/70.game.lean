/-! the fewest acts, what is heard behind some plan; a game of two -/
theorem heard_pass {w : Int32} {b : Nat → Int32} : heardN (passB w b) = heardN b := by
  unfold passB
  rw [heardN_off (fun k hk => by omega), heardN_off (fun k hk => by omega), heardN_off (fun k hk => by omega), heardN_off (fun k hk => by omega)]
theorem go0 {rs : List Rl} {b : Nat → Int32} : goB rs 0 b = passB 0 b := by
  unfold goB preB
  rw [if_pos rfl]
theorem few0 {rs : List Rl} {w : Nat} : ∀ (d : Nat) {b : Nat → Int32}, heardN b &&& w = w → fewN rs w d b = 0
  | 0, b, h => if_pos h
  | d + 1, b, h => foldN_at (fun _ => True) (fun x => x = 0) (Nat.succ_pos _) trivial (fun _ _ _ _ => trivial) (fun x _ => by
      show min x (fewN rs w d (goB rs 0 b) + if 0 = 0 then 0 else 1) = 0
      rw [few0 d (show heardN (goB rs 0 b) &&& w = w by rw [go0, heard_pass]; exact h), if_pos rfl]
      omega) (fun i x _ hx => by
      show min x _ = 0
      omega)
theorem k_few_run {rs : List Rl} {w : Nat} (hw : w < 64) : ∀ (d f : Nat) {b : Nat → Int32} {m : M} {n : Nat}, n ≤ 4 → d = min n (leftB b) → d < f → WF b → KR m rs → KB m b → ∃ m', k_fewestActs_d f (nI n) (nI w) m = some (nI (fewN rs w d b), m') ∧ KB m' b ∧ NQ m m' := by
  intro d
  induction d with
  | zero =>
    intro f b m n hn hd hf hW hR hK
    obtain ⟨f', rfl⟩ : ∃ f', f = f' + 1 := ⟨f - 1, by omega⟩
    refine ⟨m, ?_, hK, NQ.rfl⟩
    show k_fewestActs (k_fewestActs_d f') (nI n) (nI w) m = _
    unfold k_fewestActs
    rw [hK.f7, isOverK hK hW]
    by_cases hs : heardN b &&& w = w
    · rw [if_pos ((sub_dec _ hW.heard64 w hw).1.mpr hs), few0 0 hs]; rfl
    · rw [if_neg (fun q => hs ((sub_dec _ hW.heard64 w hw).1.mp q)), show fewN rs w 0 b = 99 from if_neg hs]
      by_cases e : n = 0
      · subst e; rw [if_pos (by decide)]; rfl
      · rw [if_neg (nI_nle (by omega) (by omega)), if_pos (show leftB b = 0 by omega), Option.bind_some, if_neg (by decide)]; rfl
  | succ d ih =>
    intro f b m n hn hd hf hW hR hK
    obtain ⟨f', rfl⟩ : ∃ f', f = f' + 1 := ⟨f - 1, by omega⟩
    obtain ⟨n', rfl⟩ : ∃ n', n = n' + 1 := ⟨n - 1, by omega⟩
    have hl : 0 < leftB b := by omega
    obtain ⟨h1, h2⟩ := hW.manyN
    show ∃ m', k_fewestActs (k_fewestActs_d f') (nI (n' + 1)) (nI w) m = _ ∧ _
    unfold k_fewestActs
    rw [hK.f7, isOverK hK hW]
    by_cases hs : heardN b &&& w = w
    · rw [if_pos ((sub_dec _ hW.heard64 w hw).1.mpr hs), few0 _ hs]
      exact ⟨m, rfl, hK, NQ.rfl⟩
    · rw [if_neg (fun q => hs ((sub_dec _ hW.heard64 w hw).1.mp q)), if_neg (nI_nle (by omega) (by omega)), if_neg (show ¬ leftB b = 0 by omega), Option.bind_some, if_pos rfl, b_moment_eq hK hW, Option.bind_some, b_count_eq hK hW, Option.bind_some]
      have hG99 : ∀ a, foldN (fun a x => min x (fewN rs w d (goB rs a b) + if a = 0 then 0 else 1)) a 99 ≤ 99 := fun a => foldN_inv (fun x => x ≤ 99) (Nat.le_refl _) (fun a x _ hx => by
        show min x _ ≤ 99
        omega)
      have key : ∀ (e a : Nat) (mi : M), a + e = manyB b + 1 → KB mi b → NQ m mi → ∃ m', (∀ F, e < F → iter (fun z : Int32 × Int32 × M => k_fewestActs_44b (k_fewestActs_d f') (nI (n' + 1)) (nI w) (lN (momN b)) z.1 (countB b) z.2.1 z.2.2) F (nI (foldN (fun a x => min x (fewN rs w d (goB rs a b) + if a = 0 then 0 else 1)) a 99), nI a, mi) = some (nI (foldN (fun a x => min x (fewN rs w d (goB rs a b) + if a = 0 then 0 else 1)) (manyB b + 1) 99), m')) ∧ KB m' b ∧ NQ m m' := by
        intro e
        induction e with
        | zero =>
          intro a mi ha hKi hq
          refine ⟨mi, fun F hF => ?_, hKi, hq⟩
          obtain ⟨F', rfl⟩ : ∃ F', F = F' + 1 := ⟨F - 1, by omega⟩
          have hae : a = manyB b + 1 := by omega
          subst hae
          show (k_fewestActs_44b (k_fewestActs_d f') (nI (n' + 1)) (nI w) (lN (momN b)) _ (countB b) (nI (manyB b + 1)) mi).bind _ = _
          unfold k_fewestActs_44b
          rw [hKi.f6, h1, if_pos ((nI_ltI (by omega) (by omega)).mpr (by omega))]; rfl
        | succ e ihe =>
          intro a mi ha hKi hq
          have ham : a ≤ manyB b := by omega
          have hWa := hW.go (over0 hW hl) rs ham
          have hlg := left_go (rs := rs) hW hl ham
          obtain ⟨m1, f1, f2, f3, -⟩ := b_goesBy_eq (rs := rs) hKi hW (hq.kr hR) ham
          obtain ⟨m2, r1, r2, r3⟩ := ih f' (n := n') (by omega) (by omega) (by omega) hWa (f3.kr (hq.kr hR)) f2
          obtain ⟨m3, t1, t2, t3, t4⟩ := b_goBackTo_eq hW r2 (NB_go (rs := rs) (by omega))
          obtain ⟨m', i1, i2, i3⟩ := ihe (a + 1) m3 (by omega) t2 ((hq.trans f3).trans (r3.trans t3))
          have hx := hG99 a
          have hs' : foldN (fun a x => min x (fewN rs w d (goB rs a b) + if a = 0 then 0 else 1)) (a + 1) 99 = min (foldN (fun a x => min x (fewN rs w d (goB rs a b) + if a = 0 then 0 else 1)) a 99) (fewN rs w d (goB rs a b) + if a = 0 then 0 else 1) := rfl
          rw [hs'] at i1
          generalize foldN (fun a x => min x (fewN rs w d (goB rs a b) + if a = 0 then 0 else 1)) a 99 = x at *
          have hf99 := fewN_le (rs := rs) (w := w) (d := d) (b := goB rs a b)
          have hbody : k_fewestActs_44b (k_fewestActs_d f') (nI (n' + 1)) (nI w) (lN (momN b)) (nI x) (countB b) (nI a) mi = some (.inl (nI (min x (fewN rs w d (goB rs a b) + if a = 0 then 0 else 1)), nI (a + 1), m3)) := by
            unfold k_fewestActs_44b k_fewestActs_80
            rw [hKi.f6, h1, if_neg (fun q => by have := (nI_ltI (by omega) (by omega)).mp q; omega), f1]
            simp only [Option.bind_some]
            rw [nI_pred, r1]
            simp only [Option.bind_some]
            rw [ltE, ltE, t1]
            simp only [Option.bind_some]
            rw [ltE, ltE, ltE, ltE, nI_1, nI_1, show nI (fewN rs w d (goB rs a b)) + (0 : Int32) = nI (fewN rs w d (goB rs a b)) from Int32.add_zero _, mn_nat (by omega) (by omega), mn_nat (by omega) (by omega)]
            by_cases q : a = 0
            · rw [if_pos (by rw [q]; decide), if_pos q]; rfl
            · rw [if_neg (nI_nle (by omega) (by omega)), if_neg q]
          refine ⟨m', fun F hF => ?_, i2, i3⟩
          obtain ⟨F', rfl⟩ : ∃ F', F = F' + 1 := ⟨F - 1, by omega⟩
          show (k_fewestActs_44b (k_fewestActs_d f') (nI (n' + 1)) (nI w) (lN (momN b)) (nI x) (countB b) (nI a) mi).bind _ = _
          rw [hbody]
          exact i1 F' (by omega)
      obtain ⟨m', i1, i2, i3⟩ := key (manyB b + 1) 0 m (by omega) hK NQ.rfl
      refine ⟨m', ?_, i2, i3⟩
      unfold k_fewestActs_44
      have := i1 FU (by show manyB b + 1 < 4000; omega)
      rw [show ((99 : Int32), (0 : Int32), m) = (nI (foldN (fun a x => min x (fewN rs w d (goB rs a b) + if a = 0 then 0 else 1)) 0 99), nI 0, m) from rfl, this]
      rfl
theorem k_hrd_run {rs : List Rl} : ∀ (d f : Nat) {b : Nat → Int32} {m : M} {n : Nat}, n ≤ 4 → d = min n (leftB b) → d < f → WF b → KR m rs → KB m b → ∃ m', k_heardBehindSome_d f (nI n) m = some (nI (hrdU rs d b), m') ∧ KB m' b ∧ NQ m m' := by
  intro d
  induction d with
  | zero =>
    intro f b m n hn hd hf hW hR hK
    obtain ⟨f', rfl⟩ : ∃ f', f = f' + 1 := ⟨f - 1, by omega⟩
    refine ⟨m, ?_, hK, NQ.rfl⟩
    show k_heardBehindSome (k_heardBehindSome_d f') (nI n) m = _
    unfold k_heardBehindSome k_heardBehindSome_11
    rw [hK.f7, isOverK hK hW]
    by_cases e : n = 0
    · subst e; rw [if_pos (by decide)]; rfl
    · rw [if_neg (nI_nle (by omega) (by omega)), if_pos (show leftB b = 0 by omega), Option.bind_some, if_neg (by decide)]; rfl
  | succ d ih =>
    intro f b m n hn hd hf hW hR hK
    obtain ⟨f', rfl⟩ : ∃ f', f = f' + 1 := ⟨f - 1, by omega⟩
    obtain ⟨n', rfl⟩ : ∃ n', n = n' + 1 := ⟨n - 1, by omega⟩
    have hl : 0 < leftB b := by omega
    obtain ⟨h1, h2⟩ := hW.manyN
    show ∃ m', k_heardBehindSome (k_heardBehindSome_d f') (nI (n' + 1)) m = _ ∧ _
    unfold k_heardBehindSome
    rw [isOverK hK hW, if_neg (nI_nle (by omega) (by omega)), if_neg (show ¬ leftB b = 0 by omega), Option.bind_some, if_pos rfl, b_moment_eq hK hW, Option.bind_some, b_count_eq hK hW, Option.bind_some]
    have hG : ∀ a, a ≤ manyB b + 1 → foldN (fun a x => x ||| hrdU rs d (goB rs a b)) a 0 < 64 := fun a ha => foldN_inv (fun x => x < 64) (by decide) (fun i x hi hx => or64 hx (hrdU_lt d (hW.go (over0 hW hl) rs (show i ≤ manyB b by omega)) (by have := left_go (rs := rs) hW hl (show i ≤ manyB b by omega); omega)))
    have key : ∀ (e a : Nat) (mi : M), a + e = manyB b + 1 → KB mi b → NQ m mi → ∃ m', (∀ F, e < F → iter (fun z : Int32 × Int32 × M => k_heardBehindSome_33b (k_heardBehindSome_d f') (nI (n' + 1)) (lN (momN b)) z.1 (countB b) z.2.1 z.2.2) F (nI (foldN (fun a x => x ||| hrdU rs d (goB rs a b)) a 0), nI a, mi) = some (nI (foldN (fun a x => x ||| hrdU rs d (goB rs a b)) (manyB b + 1) 0), m')) ∧ KB m' b ∧ NQ m m' := by
      intro e
      induction e with
      | zero =>
        intro a mi ha hKi hq
        refine ⟨mi, fun F hF => ?_, hKi, hq⟩
        obtain ⟨F', rfl⟩ : ∃ F', F = F' + 1 := ⟨F - 1, by omega⟩
        have hae : a = manyB b + 1 := by omega
        subst hae
        show (k_heardBehindSome_33b (k_heardBehindSome_d f') (nI (n' + 1)) (lN (momN b)) _ (countB b) (nI (manyB b + 1)) mi).bind _ = _
        unfold k_heardBehindSome_33b
        rw [hKi.f6, h1, if_pos ((nI_ltI (by omega) (by omega)).mpr (by omega))]; rfl
      | succ e ihe =>
        intro a mi ha hKi hq
        have ham : a ≤ manyB b := by omega
        have hWa := hW.go (over0 hW hl) rs ham
        have hlg := left_go (rs := rs) hW hl ham
        obtain ⟨m1, f1, f2, f3, -⟩ := b_goesBy_eq (rs := rs) hKi hW (hq.kr hR) ham
        obtain ⟨m2, r1, r2, r3⟩ := ih f' (n := n') (by omega) (by omega) (by omega) hWa (f3.kr (hq.kr hR)) f2
        obtain ⟨m3, t1, t2, t3, t4⟩ := b_goBackTo_eq hW r2 (NB_go (rs := rs) (by omega))
        obtain ⟨m', i1, i2, i3⟩ := ihe (a + 1) m3 (by omega) t2 ((hq.trans f3).trans (r3.trans t3))
        have hx := hG a (by omega)
        have hs' : foldN (fun a x => x ||| hrdU rs d (goB rs a b)) (a + 1) 0 = foldN (fun a x => x ||| hrdU rs d (goB rs a b)) a 0 ||| hrdU rs d (goB rs a b) := rfl
        rw [hs'] at i1
        generalize foldN (fun a x => x ||| hrdU rs d (goB rs a b)) a 0 = x at *
        have hbody : k_heardBehindSome_33b (k_heardBehindSome_d f') (nI (n' + 1)) (lN (momN b)) (nI x) (countB b) (nI a) mi = some (.inl (nI (x ||| hrdU rs d (goB rs a b)), nI (a + 1), m3)) := by
          unfold k_heardBehindSome_33b
          rw [hKi.f6, h1, if_neg (fun q => by have := (nI_ltI (by omega) (by omega)).mp q; omega), f1]
          simp only [Option.bind_some]
          rw [nI_pred, r1]
          simp only [Option.bind_some]
          rw [ltE, t1]
          simp only [Option.bind_some]
          rw [ltE, nI_1, or2_dec _ hx _ (hrdU_lt d hWa (by omega))]
        refine ⟨m', fun F hF => ?_, i2, i3⟩
        obtain ⟨F', rfl⟩ : ∃ F', F = F' + 1 := ⟨F - 1, by omega⟩
        show (k_heardBehindSome_33b (k_heardBehindSome_d f') (nI (n' + 1)) (lN (momN b)) (nI x) (countB b) (nI a) mi).bind _ = _
        rw [hbody]
        exact i1 F' (by omega)
    obtain ⟨m', i1, i2, i3⟩ := key (manyB b + 1) 0 m (by omega) hK NQ.rfl
    refine ⟨m', ?_, i2, i3⟩
    unfold k_heardBehindSome_33
    have := i1 FU (by show manyB b + 1 < 4000; omega)
    rw [show ((0 : Int32), (0 : Int32), m) = (nI (foldN (fun a x => x ||| hrdU rs d (goB rs a b)) 0 0), nI 0, m) from rfl, this]
    rfl
/-- better for the one who chooses -/
def bet (mx : Bool) (s : Nat × Nat) (v i : Nat) : Nat × Nat := if mx then (if v ≤ s.1 then s else (v, i)) else (if s.1 ≤ v then s else (v, i))
def gmP (rs : List Rl) : Nat → Bool → (Nat → Int32) → Nat × Nat
  | 0, _, _ => (0, 0)
  | d + 1, mx, b => foldN (fun a s => bet mx s (goN rs (a + 1) b + (gmP rs d (!mx) (goB rs (a + 1) b)).1) (a + 1)) (manyB b) (goN rs 0 b + (gmP rs d (!mx) (goB rs 0 b)).1, 0)
def gmV (rs : List Rl) (d : Nat) (mx : Bool) (b : Nat → Int32) (a : Nat) : Nat := goN rs a b + (gmP rs d (!mx) (goB rs a b)).1
/-- after a acts and one more -/
def gmS (rs : List Rl) (d : Nat) (mx : Bool) (b : Nat → Int32) (a : Nat) : Nat × Nat := foldN (fun a s => bet mx s (gmV rs d mx b (a + 1)) (a + 1)) a (gmV rs d mx b 0, 0)
theorem gmP_succ {rs : List Rl} {d : Nat} {mx : Bool} {b : Nat → Int32} : gmP rs (d + 1) mx b = gmS rs d mx b (manyB b) := rfl
theorem gmS_succ {rs : List Rl} {d : Nat} {mx : Bool} {b : Nat → Int32} {a : Nat} : gmS rs d mx b (a + 1) = bet mx (gmS rs d mx b a) (gmV rs d mx b (a + 1)) (a + 1) := rfl
theorem bet_bd {mx : Bool} {s : Nat × Nat} {v i B C : Nat} (h : s.1 ≤ B ∧ s.2 ≤ C) (hv : v ≤ B) (hi : i ≤ C) : (bet mx s v i).1 ≤ B ∧ (bet mx s v i).2 ≤ C := by
  unfold bet
  split <;> split <;> first | exact h | exact ⟨hv, hi⟩
theorem gmP_bd {rs : List Rl} : ∀ (d : Nat) {mx : Bool} {b : Nat → Int32}, WF b → d ≤ leftB b → (gmP rs d mx b).1 ≤ 11 * d ∧ (gmP rs d mx b).2 ≤ manyB b
  | 0, mx, b, h, _ => ⟨Nat.le_refl _, Nat.zero_le _⟩
  | d + 1, mx, b, h, hd => by
    have hv : ∀ a, a ≤ manyB b → gmV rs d mx b a ≤ 11 * (d + 1) := fun a ha => by
      have hlg := left_go (rs := rs) h (by omega) ha
      have h1 := (gmP_bd (rs := rs) d (mx := !mx) (h.go (over0 h (by omega)) rs ha) (by omega)).1
      have h2 := (goN_eq (rs := rs) h ha).2
      unfold gmV
      omega
    rw [gmP_succ]
    exact foldN_inv (fun s : Nat × Nat => s.1 ≤ 11 * (d + 1) ∧ s.2 ≤ manyB b) ⟨hv 0 (by omega), Nat.zero_le _⟩ (fun a s ha hs => bet_bd hs (hv _ (by omega)) (by omega))
theorem gmV_bd {rs : List Rl} {d : Nat} {mx : Bool} {b : Nat → Int32} {a : Nat} (h : WF b) (hd : d + 1 ≤ leftB b) (ha : a ≤ manyB b) : gmV rs d mx b a ≤ 11 * (d + 1) := by
  have hlg := left_go (rs := rs) h (by omega) ha
  have h1 := (gmP_bd (rs := rs) d (mx := !mx) (h.go (over0 h (by omega)) rs ha) (by omega)).1
  have h2 := (goN_eq (rs := rs) h ha).2
  unfold gmV
  omega
theorem gmS_bd {rs : List Rl} {d : Nat} {mx : Bool} {b : Nat → Int32} {a : Nat} (h : WF b) (hd : d + 1 ≤ leftB b) (ha : a ≤ manyB b) : (gmS rs d mx b a).1 ≤ 11 * (d + 1) ∧ (gmS rs d mx b a).2 ≤ manyB b :=
  foldN_inv (fun s : Nat × Nat => s.1 ≤ 11 * (d + 1) ∧ s.2 ≤ manyB b) ⟨gmV_bd h hd (by omega), Nat.zero_le _⟩ (fun i s hi hs => bet_bd hs (gmV_bd h hd (by omega)) (by omega))
/-- the class's value so far: before the first act the end of the numbers -/
def gmI (rs : List Rl) (d : Nat) (mx : Bool) (b : Nat → Int32) : Nat → Int32
  | 0 => if mx then -2147483648 else 2147483647
  | a + 1 => nI (gmS rs d mx b a).1
theorem sent_mx {v : Nat} (h : v < 2 ^ 31) : mxI (-2147483648) (nI v) = nI v := by
  unfold mxI
  rw [if_pos (Int32.lt_of_lt_of_le (show (-2147483648 : Int32) < 0 by decide) (nI_pos' h))]
theorem sent_mn {v : Nat} (h : v < 2 ^ 30) : mnI 2147483647 (nI v) = nI v := by
  unfold mnI
  rw [if_pos (show nI v < 2147483647 from (nI_ltI (a := v) (b := 2147483647) (by omega) (by decide)).mpr (by omega))]
theorem gmI_step {rs : List Rl} {d : Nat} {mx : Bool} {b : Nat → Int32} {a : Nat} (h : WF b) (hd : d + 1 ≤ leftB b) (ha : a ≤ manyB b) : (if mx then mxI (gmI rs d mx b a) (nI (gmV rs d mx b a)) else mnI (gmI rs d mx b a) (nI (gmV rs d mx b a))) = gmI rs d mx b (a + 1) := by
  have h16 := h.left16
  cases a with
  | zero =>
    have hv := gmV_bd (rs := rs) (mx := mx) h hd (show 0 ≤ manyB b by omega)
    show (if mx then mxI (if mx then -2147483648 else 2147483647) (nI (gmV rs d mx b 0)) else mnI (if mx then -2147483648 else 2147483647) (nI (gmV rs d mx b 0))) = nI (gmV rs d mx b 0)
    cases mx
    · simp only [Bool.false_eq_true, if_false]; exact sent_mn (by omega)
    · simp only [if_true]; exact sent_mx (by omega)
  | succ a =>
    have hv := gmV_bd (rs := rs) (mx := mx) h hd ha
    have hs := (gmS_bd (rs := rs) (mx := mx) h hd (show a ≤ manyB b by omega)).1
    show (if mx then mxI (nI (gmS rs d mx b a).1) (nI (gmV rs d mx b (a + 1))) else mnI (nI (gmS rs d mx b a).1) (nI (gmV rs d mx b (a + 1)))) = nI (gmS rs d mx b (a + 1)).1
    rw [gmS_succ]
    unfold bet
    cases mx
    · simp only [Bool.false_eq_true, if_false]
      rw [mn_nat (by omega) (by omega)]
      by_cases c : (gmS rs d false b a).1 ≤ gmV rs d false b (a + 1)
      · rw [if_pos c, Nat.min_eq_left c]
      · rw [if_neg c, Nat.min_eq_right (by omega)]
    · simp only [if_true]
      rw [mx_nat (by omega) (by omega)]
      by_cases c : gmV rs d true b (a + 1) ≤ (gmS rs d true b a).1
      · rw [if_pos c, Nat.max_eq_left c]
      · rw [if_neg c, Nat.max_eq_right (by omega)]
theorem k_game_run {rs : List Rl} : ∀ (d f : Nat) {mx : Bool} {b : Nat → Int32} {m : M} {n : Nat}, n ≤ 4 → d = min n (leftB b) → d < f → WF b → KR m rs → KB m b → ∃ m', k_gameValue_d f (nI n) (b01 mx) m = some (nI (gmP rs d mx b).1, m') ∧ KB m' b ∧ NQ m m' := by
  intro d
  induction d with
  | zero =>
    intro f mx b m n hn hd hf hW hR hK
    obtain ⟨f', rfl⟩ : ∃ f', f = f' + 1 := ⟨f - 1, by omega⟩
    refine ⟨m, ?_, hK, NQ.rfl⟩
    show k_gameValue (k_gameValue_d f') (nI n) (b01 mx) m = _
    unfold k_gameValue
    rw [isOverK hK hW]
    by_cases e : n = 0
    · subst e; rw [if_pos (by decide)]; rfl
    · rw [if_neg (nI_nle (by omega) (by omega)), if_pos (show leftB b = 0 by omega), Option.bind_some, if_neg (by decide)]; rfl
  | succ d ih =>
    intro f mx b m n hn hd hf hW hR hK
    obtain ⟨f', rfl⟩ : ∃ f', f = f' + 1 := ⟨f - 1, by omega⟩
    obtain ⟨n', rfl⟩ : ∃ n', n = n' + 1 := ⟨n - 1, by omega⟩
    have hl : 0 < leftB b := by omega
    obtain ⟨h1, h2⟩ := hW.manyN
    have key : ∀ (e a : Nat) (mi : M), a + e = manyB b + 1 → KB mi b → NQ m mi → ∃ m', (∀ F, e < F → iter (fun z : Int32 × Int32 × M => k_gameValue_42b (k_gameValue_d f') (nI (n' + 1)) (b01 mx) (lN (momN b)) z.1 (countB b) z.2.1 z.2.2) F (gmI rs d mx b a, nI a, mi) = some (gmI rs d mx b (manyB b + 1), m')) ∧ KB m' b ∧ NQ m m' := by
      intro e
      induction e with
      | zero =>
        intro a mi ha hKi hq
        refine ⟨mi, fun F hF => ?_, hKi, hq⟩
        obtain ⟨F', rfl⟩ : ∃ F', F = F' + 1 := ⟨F - 1, by omega⟩
        have hae : a = manyB b + 1 := by omega
        subst hae
        show (k_gameValue_42b (k_gameValue_d f') (nI (n' + 1)) (b01 mx) (lN (momN b)) _ (countB b) (nI (manyB b + 1)) mi).bind _ = _
        unfold k_gameValue_42b
        rw [hKi.f6, h1, if_pos ((nI_ltI (by omega) (by omega)).mpr (by omega))]; rfl
      | succ e ihe =>
        intro a mi ha hKi hq
        have ham : a ≤ manyB b := by omega
        have hWa := hW.go (over0 hW hl) rs ham
        have hlg := left_go (rs := rs) hW hl ham
        obtain ⟨gg1, gg2⟩ := goN_eq (rs := rs) hW ham
        obtain ⟨m1, f1, f2, f3, -⟩ := b_goesBy_eq (rs := rs) hKi hW (hq.kr hR) ham
        obtain ⟨m2, r1, r2, r3⟩ := ih f' (mx := !mx) (n := n') (by omega) (by omega) (by omega) hWa (f3.kr (hq.kr hR)) f2
        obtain ⟨m3, t1, t2, t3, t4⟩ := b_goBackTo_eq hW r2 (NB_go (rs := rs) (by omega))
        obtain ⟨m', i1, i2, i3⟩ := ihe (a + 1) m3 (by omega) t2 ((hq.trans f3).trans (r3.trans t3))
        have hst := gmI_step (rs := rs) (d := d) (mx := mx) hW (by omega) ham
        have hbody : k_gameValue_42b (k_gameValue_d f') (nI (n' + 1)) (b01 mx) (lN (momN b)) (gmI rs d mx b a) (countB b) (nI a) mi = some (.inl (gmI rs d mx b (a + 1), nI (a + 1), m3)) := by
          unfold k_gameValue_42b
          rw [hKi.f6, h1, if_neg (fun q => by have := (nI_ltI (by omega) (by omega)).mp q; omega), f1]
          simp only [Option.bind_some]
          unfold k_gameValue_72 k_gameValue_104
          rw [nI_pred, gg1]
          cases mx
          · simp only [Bool.false_eq_true, if_false] at hst
            rw [if_pos (show b01 false = 0 from rfl), show k_gameValue_d f' (nI n') (1 : Int32) m1 = k_gameValue_d f' (nI n') (b01 (!false)) m1 from rfl, r1]
            simp only [Option.bind_some]
            rw [ltE, t1]
            simp only [Option.bind_some]
            rw [if_pos (show b01 false = 0 from rfl), ltE, nI_add, nI_1]
            exact congrArg (fun q => some (Sum.inl (q, nI (a + 1), m3))) hst
          · simp only [if_true] at hst
            rw [if_neg (show ¬ b01 true = 0 by decide), show k_gameValue_d f' (nI n') (0 : Int32) m1 = k_gameValue_d f' (nI n') (b01 (!true)) m1 from rfl, r1]
            simp only [Option.bind_some]
            rw [ltE, t1]
            simp only [Option.bind_some]
            rw [if_neg (show ¬ b01 true = 0 by decide), ltE, nI_add, nI_1]
            exact congrArg (fun q => some (Sum.inl (q, nI (a + 1), m3))) hst
        refine ⟨m', fun F hF => ?_, i2, i3⟩
        obtain ⟨F', rfl⟩ : ∃ F', F = F' + 1 := ⟨F - 1, by omega⟩
        show (k_gameValue_42b (k_gameValue_d f') (nI (n' + 1)) (b01 mx) (lN (momN b)) (gmI rs d mx b a) (countB b) (nI a) mi).bind _ = _
        rw [hbody]
        exact i1 F' (by omega)
    obtain ⟨m', i1, i2, i3⟩ := key (manyB b + 1) 0 m (by omega) hK NQ.rfl
    refine ⟨m', ?_, i2, i3⟩
    show k_gameValue (k_gameValue_d f') (nI (n' + 1)) (b01 mx) m = _
    have hrun : k_gameValue_31 (k_gameValue_d f') (nI (n' + 1)) (b01 mx) (lN (momN b)) (gmI rs d mx b 0) m = some (nI (gmP rs (d + 1) mx b).1, m') := by
      unfold k_gameValue_31 k_gameValue_42
      rw [b_count_eq hK hW, Option.bind_some]
      have := i1 FU (by show manyB b + 1 < 4000; omega)
      rw [nI_0] at this
      rw [this]
      rfl
    unfold k_gameValue
    rw [isOverK hK hW, if_neg (nI_nle (by omega) (by omega)), if_neg (show ¬ leftB b = 0 by omega), Option.bind_some, if_pos rfl, b_moment_eq hK hW, Option.bind_some]
    cases mx
    · rw [if_pos (show b01 false = 0 from rfl)]; exact hrun
    · rw [if_neg (show ¬ b01 true = 0 by decide)]; exact hrun
theorem r_game_run {rs : List Rl} {D : Nat} (hD : D ≤ 4) : ∀ (d f t : Nat) {b : Nat → Int32} {m : M}, t + d = D → d < f → WF b → RR b rs → m 77 = b → d ≤ leftB b → ∃ m', r_playedFrom_d f (nI t) (nI D) m = some (nI (gmP rs d (decide (t % 2 = 0)) b).1, m') ∧ m' 77 = b ∧ EP t m m' ∧ (0 < d → m' 86 t = nI (gmP rs d (decide (t % 2 = 0)) b).2) := by
  intro d
  induction d with
  | zero =>
    intro f t b m ht hf hW hR hb hl
    obtain ⟨f', rfl⟩ : ∃ f', f = f' + 1 := ⟨f - 1, by omega⟩
    have htD : t = D := by omega
    subst htD
    refine ⟨m, ?_, hb, EP.rfl, fun h => absurd h (by decide)⟩
    show r_playedFrom (r_playedFrom_d f') (nI t) (nI t) m = _
    unfold r_playedFrom
    rw [if_pos rfl]; rfl
  | succ d ih =>
    intro f t b m ht hf hW hR hb hl
    obtain ⟨f', rfl⟩ : ∃ f', f = f' + 1 := ⟨f - 1, by omega⟩
    obtain ⟨h1, h2⟩ := hW.manyN
    have hl0 : 0 < leftB b := by omega
    generalize hmx : decide (t % 2 = 0) = mx
    have hmx2 : decide ((t + 1) % 2 = 0) = !mx := by
      rw [← hmx]
      rcases (show t % 2 = 0 ∨ t % 2 = 1 by omega) with e | e
      · rw [decide_eq_true e, decide_eq_false (by omega)]; rfl
      · rw [decide_eq_false (show ¬ t % 2 = 0 by omega), decide_eq_true (show (t + 1) % 2 = 0 by omega)]; rfl
    have hpar : nI t - nI t / 2 * 2 = nI (t % 2) := pk_rem (d := 2) (by omega) (by decide) (by decide)
    -- what the loop holds after a acts
    generalize hst : (fun a : Nat => if a = 0 then ((0 : Int32), (-1 : Int32)) else (nI (gmS rs d mx b (a - 1)).1, nI (gmS rs d mx b (a - 1)).2)) = st
    have hst0 : st 0 = (0, -1) := by rw [← hst]; rfl
    have hsts : ∀ a, st (a + 1) = (nI (gmS rs d mx b a).1, nI (gmS rs d mx b a).2) := fun a => by rw [← hst]; rfl
    have key : ∀ (e a : Nat) (mi : M), a + e = manyB b + 1 → mi 77 = b → (∀ j, j < 67 → mi 85 (67 * t + j) = b j) → ∃ m', (∀ FF, e < FF → iter (fun z : Int32 × Int32 × Int32 × M => r_playedFrom_20b (r_playedFrom_d f') (nI t) (nI D) z.1 z.2.1 z.2.2.1 z.2.2.2) FF ((st a).1, (st a).2, nI a, mi) = some ((st (manyB b + 1)).1, (st (manyB b + 1)).2, m')) ∧ m' 77 = b ∧ EP t mi m' := by
      intro e
      induction e with
      | zero =>
        intro a mi ha hbi _
        have hae : a = manyB b + 1 := by omega
        subst hae
        refine ⟨mi, fun FF hF => ?_, hbi, EP.rfl⟩
        obtain ⟨F', rfl⟩ : ∃ F', FF = F' + 1 := ⟨FF - 1, by omega⟩
        show (r_playedFrom_20b (r_playedFrom_d f') (nI t) (nI D) _ _ (nI (manyB b + 1)) mi).bind _ = _
        unfold r_playedFrom_20b
        rw [rd77_6, hbi, h1]
        simp only [Option.bind_some]
        rw [if_pos ((nI_ltI (by omega) (by omega)).mpr (by omega))]; rfl
      | succ e ihe =>
        intro a mi ha hbi h85
        have ham : a ≤ manyB b := by omega
        have hWa := hW.go (over0 hW hl0) rs ham
        have hlg := left_go (rs := rs) hW hl0 ham
        obtain ⟨gg1, gg2⟩ := goN_eq (rs := rs) hW ham
        obtain ⟨m1, f1, f2, f3, -⟩ := r_goesBy_of (rs := rs) (m := mi) (b := b) (a := a) hbi hW hR ham
        have hRa := (NB_go (rs := rs) (b := b) (a := a) (by omega)).rr hR
        obtain ⟨m2, r1, r2, r3, r4⟩ := ih f' (t + 1) (b := goB rs a b) (m := m1) (by omega) (by omega) hWa hRa f2 (by omega)
        rw [hmx2] at r1
        have h85b : ∀ j, j < 67 → m2 85 (67 * t + j) = b j := fun j hj => by
          rw [r3 85 _ (by decide) (by decide) (by omega) (by omega) (by omega) (by decide), f3 85 _ (by decide) (by decide) (by omega)]
          exact h85 j hj
        have hback : cpT 67 (fun j => m2 85 (67 * t + j)) (m2 77) = b := cpT_back h85b (fun j hj => by rw [r2]; exact (NB_go (rs := rs) (b := b) (a := a) (by omega)).hi j hj)
        have hr := r_restores_eq (m := m2) (a := t) (by omega)
        rw [hback] at hr
        have hEP3 : EP t m2 (mset m2 77 b) := fun p k _ x2 _ _ _ _ => by rw [mset_ne x2]
        have hEP : EP t mi (mset m2 77 b) := (f3.EP.trans r3.mono).trans hEP3
        obtain ⟨m', i1, i2, i3⟩ := ihe (a + 1) (mset m2 77 b) (by omega) mset_same (fun j hj => by rw [mset_ne (by decide)]; exact h85b j hj)
        have hbody : r_playedFrom_20b (r_playedFrom_d f') (nI t) (nI D) (st a).1 (st a).2 (nI a) mi = some (.inl ((st (a + 1)).1, (st (a + 1)).2, nI (a + 1), mset m2 77 b)) := by
          have h116 : ∀ v i, r_playedFrom_116 (r_playedFrom_d f') (nI t) (nI D) i (nI a) v (mset m2 77 b) = some (.inl (v, i, nI (a + 1), mset m2 77 b)) := fun v i => by
            unfold r_playedFrom_116
            rw [ltE, nI_1]
          unfold r_playedFrom_20b r_playedFrom_84 r_playedFrom_88 r_playedFrom_89 r_playedFrom_103
          rw [rd77_6, hbi, h1]
          simp only [Option.bind_some]
          rw [if_neg (fun q => by have := (nI_ltI (by omega) (by omega)).mp q; omega), f1]
          simp only [Option.bind_some]
          rw [nI_1, r1]
          simp only [Option.bind_some]
          rw [ltE, hr]
          simp only [Option.bind_some]
          rw [gg1, nI_add, hpar, h116, h116, h116, h116, show goN rs a b + (gmP rs d (!mx) (goB rs a b)).1 = gmV rs d mx b a from rfl]
          have hgv := gmV_bd (rs := rs) (mx := mx) hW (show d + 1 ≤ leftB b by omega) ham
          cases a with
          | zero =>
            rw [hst0, hsts]
            simp only
            rw [if_pos (by decide)]
            rfl
          | succ a =>
            obtain ⟨sb1, sb2⟩ := gmS_bd (rs := rs) (mx := mx) hW (show d + 1 ≤ leftB b by omega) (show a ≤ manyB b by omega)
            rw [hsts, hsts, gmS_succ]
            generalize gmS rs d mx b a = s at *
            generalize gmV rs d mx b (a + 1) = v at *
            simp only
            rw [if_neg (nI_pos (by omega))]
            unfold bet
            rcases (show t % 2 = 0 ∨ t % 2 = 1 by omega) with e | e
            · have hm : mx = true := by rw [← hmx]; exact decide_eq_true e
              subst hm
              rw [e, if_pos (show nI 0 = 0 from rfl)]
              simp only [if_true]
              by_cases c : v ≤ s.1
              · rw [if_pos ((nI_leI (by omega) (by omega)).mpr c), if_pos c]
                try rfl
              · rw [if_neg (fun q => c ((nI_leI (by omega) (by omega)).mp q)), if_neg c]
                try rfl
            · have hm : mx = false := by rw [← hmx]; exact decide_eq_false (by omega)
              subst hm
              rw [e, if_neg (show ¬ nI 1 = 0 by decide)]
              simp only [Bool.false_eq_true, if_false]
              by_cases c : s.1 ≤ v
              · rw [if_pos ((nI_leI (by omega) (by omega)).mpr c), if_pos c]
                try rfl
              · rw [if_neg (fun q => c ((nI_leI (by omega) (by omega)).mp q)), if_neg c]
                try rfl
        refine ⟨m', fun FF hF => ?_, i2, hEP.trans i3⟩
        obtain ⟨F', rfl⟩ : ∃ F', FF = F' + 1 := ⟨FF - 1, by omega⟩
        show (r_playedFrom_20b (r_playedFrom_d f') (nI t) (nI D) (st a).1 (st a).2 (nI a) mi).bind _ = _
        rw [hbody]
        exact i1 F' (by omega)
    obtain ⟨m', i1, i2, i3⟩ := key (manyB b + 1) 0 (mset m 85 (cpO (67 * t) 67 (m 77) (m 85))) (by omega) (by rw [mset_ne (by decide)]; exact hb) (fun j hj => by
      rw [mset_same]
      unfold cpO
      rw [if_pos ⟨by omega, by omega⟩, hb, Nat.add_sub_cancel_left])
    have hEP0 : EP t m (mset m 85 (cpO (67 * t) 67 (m 77) (m 85))) := fun p k _ _ _ x4 _ _ => by
      by_cases q : p = 85
      · subst q
        rw [mset_same]
        unfold cpO
        rw [if_neg (fun q => x4 ⟨rfl, q.1⟩)]
      · rw [mset_ne q]
    have hEP4 : EP t m' (mset m' 86 (upd (m' 86) t (nI (gmP rs (d + 1) mx b).2))) := fun p k _ _ _ _ x5 _ => by
      by_cases q : p = 86
      · subst q
        rw [mset_same, upd_off (fun q => x5 ⟨rfl, by omega⟩)]
      · rw [mset_ne q]
    refine ⟨mset m' 86 (upd (m' 86) t (nI (gmP rs (d + 1) mx b).2)), ?_, by rw [mset_ne (by decide)]; exact i2, (hEP0.trans i3).trans hEP4, fun _ => by rw [mset_same, upd_at]⟩
    show r_playedFrom (r_playedFrom_d f') (nI t) (nI D) m = _
    unfold r_playedFrom
    rw [if_neg (fun q => by have := (nI_eq (by omega) (by omega)).mp q; omega), r_saves_eq (by omega)]
    simp only [Option.bind_some]
    unfold r_playedFrom_20
    have := i1 FU (by show manyB b + 1 < 4000; omega)
    rw [hst0, nI_0] at this
    rw [this, hsts]
    simp only [Option.bind_some]
    rw [wrI_at (show t < len 86 by rw [len86]; omega) (by decide), ← gmP_succ]
    rfl
