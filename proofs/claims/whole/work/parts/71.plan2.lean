/-! best, ith, ways, agenda, bars, game, play: both sides say the same -/
def pln (y : Int32) : Bool := decide (0 ≤ y ∧ y ≤ 4)
theorem pln_iff {y : Int32} (h : pln y = true) : ∃ n, n ≤ 4 ∧ y = nI n := by
  obtain ⟨n, h1, h2⟩ := (in_le (v := y) (n := 4) (by decide)).mp (of_decide_eq_true h)
  exact ⟨n, h1, h2⟩
theorem r_isPlan_eq {y : Int32} {m : M} : r_isPlan y m = some (b01 (pln y)) := by
  unfold r_isPlan pln
  rw [r_in1_eq, Option.bind_some, and1]
theorem k_plan_eq {y : Int32} {m : M} : k_within y 0 4 m = some (b01 (pln y)) := by
  rw [k_within_eq]
  unfold pln
  by_cases h : 0 ≤ y ∧ y ≤ 4
  · rw [if_pos h, decide_eq_true h]; rfl
  · rw [if_neg h, decide_eq_false h]; rfl
theorem b01_t {α : Type} {x y : α} : (if b01 true = 0 then x else y) = y := if_neg (by decide)
theorem b01_f {α : Type} {x y : α} : (if b01 false = 0 then x else y) = x := if_pos rfl
def dyN (b : Nat → Int32) (y : Int32) : Nat := min y.toNatClampNeg (leftB b)
theorem dyN_nI {b : Nat → Int32} {n : Nat} (h : n ≤ 4) : dyN b (nI n) = min n (leftB b) := by
  unfold dyN; rw [nI_clamp (by omega)]
def plV (rs : List Rl) (b : Nat → Int32) (y : Int32) : T3 := PL rs (dyN b y) b
def bestV (rs : List Rl) (b : Nat → Int32) (y : Int32) : Int32 := if pln y then nI ((plV rs b y).1 - 1) else -1
def waysV (rs : List Rl) (b : Nat → Int32) (y : Int32) : Int32 := if pln y then nI (plV rs b y).2.1 else -1
theorem k_plans_eq {m : M} {b : Nat → Int32} {rs : List Rl} {n : Nat} (hW : WF b) (hK : KB m b) (hR : KR m rs) (hn : n ≤ 4) : ∃ m1 : M, ∃ w : Nat, k_bestPlans_d 8 (nI n) m = some (lN (w * 2 ^ 32 + ((plV rs b (nI n)).2.1 * 2 ^ 12 + (plV rs b (nI n)).2.2)), m1) ∧ w = (plV rs b (nI n)).1 - 1 ∧ w ≤ 2 ^ 20 ∧ (plV rs b (nI n)).2.1 < 2 ^ 20 ∧ (plV rs b (nI n)).2.2 < 2 ^ 12 ∧ KB m1 b ∧ NQ m m1 ∧ SQ m m1 := by
  obtain ⟨m1, g1, g2, g3⟩ := k_bestPlans_run (rs := rs) (min n (leftB b)) 8 hn rfl (by omega) hW hR hK
  have hpb := PL_bd (rs := rs) (min n (leftB b)) hW (by omega)
  obtain ⟨p1, p2, p3⟩ := hpb.small (by omega)
  have hp : plV rs b (nI n) = PL rs (min n (leftB b)) b := by unfold plV; rw [dyN_nI hn]
  rw [hp]
  exact ⟨m1, (PL rs (min n (leftB b)) b).1 - 1, g1, rfl, by omega, by omega, by omega, g2, g3, g3.SQ hK g2⟩
theorem k_best_eq {m : M} {b : Nat → Int32} {rs : List Rl} (hW : WF b) (hK : KB m b) (hR : KR m rs) (y : Int32) : ∃ m1, k_best y m = some (bestV rs b y, m1) ∧ SQ m m1 := by
  unfold k_best bestV
  rw [k_plan_eq, Option.bind_some]
  by_cases h : pln y = true
  · obtain ⟨n, hn, rfl⟩ := pln_iff h
    obtain ⟨m1, w, g1, g2, g3, g4, g5, g6, g7, g8⟩ := k_plans_eq (rs := rs) hW hK hR hn
    rw [h, b01_t, g1]
    simp only [Option.bind_some, if_true]
    rw [k_worthOf_eq g3 g4 g5, g2]
    exact ⟨m1, rfl, g8⟩
  · rw [Bool.eq_false_iff.mpr h, b01_f]
    exact ⟨m, rfl, SQ.rfl⟩
theorem k_ways_eq {m : M} {b : Nat → Int32} {rs : List Rl} (hW : WF b) (hK : KB m b) (hR : KR m rs) (y : Int32) : ∃ m1, k_ways y m = some (waysV rs b y, m1) ∧ SQ m m1 := by
  unfold k_ways waysV
  rw [k_plan_eq, Option.bind_some]
  by_cases h : pln y = true
  · obtain ⟨n, hn, rfl⟩ := pln_iff h
    obtain ⟨m1, w, g1, g2, g3, g4, g5, g6, g7, g8⟩ := k_plans_eq (rs := rs) hW hK hR hn
    rw [h, b01_t, g1]
    simp only [Option.bind_some, if_true]
    rw [k_waysOf_eq g3 g4 g5]
    exact ⟨m1, rfl, g8⟩
  · rw [Bool.eq_false_iff.mpr h, b01_f]
    exact ⟨m, rfl, SQ.rfl⟩
theorem r_tries_eq {m : M} {b : Nat → Int32} {rs : List Rl} {n w : Nat} (hW : WF b) (hR : RR b rs) (hb : m 77 = b) (hn : n ≤ 4) (hw : w < 64) : ∃ m', r_triesAll (nI n) (nI w) m = some m' ∧ m' 77 = b ∧ SQ m m' ∧ m' 76 20 = nI ((plV rs b (nI n)).1 - 1) ∧ m' 76 21 = nI (plV rs b (nI n)).2.1 ∧ m' 76 22 = nI (min 5 (fewN rs w (dyN b (nI n)) b)) ∧ m' 76 23 = nI (hrdU rs (dyN b (nI n)) b) ∧ (∀ i, i < dyN b (nI n) → m' 87 i = nI (dg (plV rs b (nI n)).2.2 i)) := by
  unfold plV
  rw [dyN_nI hn]
  exact r_triesAll_eq hW hR hb hn hw
theorem r_best_eq {m : M} {b : Nat → Int32} {rs : List Rl} (hW : WF b) (hR : RR b rs) (hb : m 77 = b) (y : Int32) : ∃ m1, r_best y m = some (bestV rs b y, m1) ∧ SQ m m1 := by
  unfold r_best bestV
  rw [r_isPlan_eq, Option.bind_some]
  by_cases h : pln y = true
  · obtain ⟨n, hn, rfl⟩ := pln_iff h
    obtain ⟨m1, g1, g2, g3, g4, g5, g6, g7, g8⟩ := r_tries_eq (rs := rs) (w := 0) hW hR hb hn (by decide)
    rw [h, b01_t, show r_triesAll (nI n) 0 m = some m1 from g1]
    simp only [Option.bind_some, if_true]
    rw [g4]
    exact ⟨m1, rfl, g3⟩
  · rw [Bool.eq_false_iff.mpr h, b01_f]
    exact ⟨m, rfl, SQ.rfl⟩
theorem r_ways_eq {m : M} {b : Nat → Int32} {rs : List Rl} (hW : WF b) (hR : RR b rs) (hb : m 77 = b) (y : Int32) : ∃ m1, r_ways y m = some (waysV rs b y, m1) ∧ SQ m m1 := by
  unfold r_ways waysV
  rw [r_isPlan_eq, Option.bind_some]
  by_cases h : pln y = true
  · obtain ⟨n, hn, rfl⟩ := pln_iff h
    obtain ⟨m1, g1, g2, g3, g4, g5, g6, g7, g8⟩ := r_tries_eq (rs := rs) (w := 0) hW hR hb hn (by decide)
    rw [h, b01_t, show r_triesAll (nI n) 0 m = some m1 from g1]
    simp only [Option.bind_some, if_true]
    rw [g5]
    exact ⟨m1, rfl, g3⟩
  · rw [Bool.eq_false_iff.mpr h, b01_f]
    exact ⟨m, rfl, SQ.rfl⟩
theorem sh3_dec : ∀ i, i < 4 → ((((3 : Int32) * nI i) &&& 31).toBitVec.smod 32).toNat = 3 * i := by decide +kernel
theorem k_actOf_eq {w n a i : Nat} {m : M} (ha : a < 2 ^ 12) (hi : i < 4) : k_actOf (lN (w * 2 ^ 32 + (n * 2 ^ 12 + a))) (nI i) m = some (nI (dg a i)) := by
  unfold k_actOf
  rw [k_actsOf_eq ha, Option.bind_some, pk_shrN (by omega) _ (3 * i) (sh3_dec i hi)]
  have hlt : a / 2 ^ (3 * i) < 2 ^ 32 := Nat.lt_of_le_of_lt (Nat.div_le_self _ _) (by omega)
  rw [pk_andN hlt (m := 7) 3 (by decide), Nat.pow_mul]
  rfl
def ithV (rs : List Rl) (b : Nat → Int32) (y z : Int32) : Int32 := if pln y then (if 0 ≤ z ∧ z ≤ 3 then (if dyN b y ≤ z.toNatClampNeg then -3 else nI (dg (plV rs b y).2.2 z.toNatClampNeg)) else -1) else -1
theorem k_ith_eq {m : M} {b : Nat → Int32} {rs : List Rl} (hW : WF b) (hK : KB m b) (hR : KR m rs) (y z : Int32) : ∃ m1, k_ith y z m = some (ithV rs b y z, m1) ∧ SQ m m1 := by
  unfold k_ith ithV
  rw [k_plan_eq, Option.bind_some]
  by_cases h : pln y = true
  · obtain ⟨n, hn, rfl⟩ := pln_iff h
    obtain ⟨m1, w, g1, g2, g3, g4, g5, g6, g7, g8⟩ := k_plans_eq (rs := rs) hW hK hR hn
    rw [h, b01_t, k_within_eq, Option.bind_some, if_pos rfl]
    by_cases hz : 0 ≤ z ∧ z ≤ 3
    · rw [if_pos hz, if_pos hz, if_neg (by decide)]
      obtain ⟨i, hi, rfl⟩ := (in_le (v := z) (n := 3) (by decide)).mp hz
      rw [b_nightsOf_eq (by omega) hK hW, Option.bind_some, nI_clamp (by omega), dyN_nI hn, g1]
      by_cases c : min n (leftB b) ≤ i
      · rw [if_pos ((nI_leI (by omega) (by omega)).mpr c), if_pos c]
        exact ⟨m, rfl, SQ.rfl⟩
      · rw [if_neg (fun q => c ((nI_leI (by omega) (by omega)).mp q)), if_neg c]
        simp only [Option.bind_some]
        rw [k_actOf_eq g5 (by omega)]
        exact ⟨m1, rfl, g8⟩
    · rw [if_neg hz, if_neg hz, if_pos rfl]
      exact ⟨m, rfl, SQ.rfl⟩
  · rw [Bool.eq_false_iff.mpr h, b01_f]
    exact ⟨m, rfl, SQ.rfl⟩
theorem r_ith_eq {m : M} {b : Nat → Int32} {rs : List Rl} (hW : WF b) (hR : RR b rs) (hb : m 77 = b) (y z : Int32) : ∃ m1, r_ith y z m = some (ithV rs b y z, m1) ∧ SQ m m1 := by
  unfold r_ith ithV
  rw [r_isPlan_eq, Option.bind_some]
  by_cases h : pln y = true
  · obtain ⟨n, hn, rfl⟩ := pln_iff h
    rw [h, b01_t, r_in1_eq, Option.bind_some, if_pos rfl]
    by_cases hz : 0 ≤ z ∧ z ≤ 3
    · rw [if_pos hz, if_pos hz, if_neg (by decide)]
      obtain ⟨i, hi, rfl⟩ := (in_le (v := z) (n := 3) (by decide)).mp hz
      obtain ⟨m1, g1, g2, g3, g4, g5, g6, g7, g8⟩ := r_tries_eq (rs := rs) (w := 0) hW hR hb hn (by decide)
      rw [show r_triesAll (nI n) 0 m = some m1 from g1, Option.bind_some, r_daysOf_eq hW g2 hn, Option.bind_some, nI_clamp (by omega), dyN_nI hn]
      rw [dyN_nI hn] at g8
      by_cases c : min n (leftB b) ≤ i
      · rw [if_pos ((nI_leI (by omega) (by omega)).mpr c), if_pos c]
        exact ⟨m1, rfl, g3⟩
      · rw [if_neg (fun q => c ((nI_leI (by omega) (by omega)).mp q)), if_neg c, rdI_at (show i < len 87 by rw [len87]; omega) (by decide), g8 i (by omega)]
        exact ⟨m1, rfl, g3⟩
    · rw [if_neg hz, if_neg hz, if_pos rfl]
      exact ⟨m, rfl, SQ.rfl⟩
  · rw [Bool.eq_false_iff.mpr h, b01_f]
    exact ⟨m, rfl, SQ.rfl⟩
def setB (b : Nat → Int32) (z : Int32) : Bool := decide (0 ≤ z ∧ z ≤ nI (2 ^ manyB b - 1))
theorem setB_iff {b : Nat → Int32} (hW : WF b) {z : Int32} (h : setB b z = true) : ∃ w, w < 2 ^ manyB b ∧ w < 64 ∧ z = nI w := by
  have h64 := b64 hW.manyN.2
  have hp : 0 < 2 ^ manyB b := Nat.pow_pos (by decide)
  obtain ⟨w, h1, h2⟩ := (in_le (v := z) (n := 2 ^ manyB b - 1) (by omega)).mp (of_decide_eq_true h)
  exact ⟨w, by omega, by omega, h2⟩
theorem r_isSet_eq {m : M} {b : Nat → Int32} (hW : WF b) (hb : m 77 = b) (z : Int32) : r_isSet z m = some (b01 (setB b z)) := by
  obtain ⟨h1, h2⟩ := hW.manyN
  have hp : 0 < 2 ^ manyB b := Nat.pow_pos (by decide)
  unfold r_isSet setB
  rw [rd77_6, hb, h1, Option.bind_some, shl1 _ (by omega), show nI (2 ^ manyB b) - 1 = nI (2 ^ manyB b - 1) from pk_sub (b := 1) hp, r_in1_eq, Option.bind_some, and1]
theorem b_isSet_eq {m : M} {b : Nat → Int32} (hW : WF b) (hK : KB m b) (z : Int32) : b_isSet z m = some (b01 (setB b z)) := by
  obtain ⟨h1, h2⟩ := hW.manyN
  have hp : 0 < 2 ^ manyB b := Nat.pow_pos (by decide)
  unfold b_isSet setB
  rw [hK.f6, h1, shl1 _ (by omega), show nI (2 ^ manyB b) - 1 = nI (2 ^ manyB b - 1) from pk_sub (b := 1) hp, k_within_eq, Option.bind_some, and1]
def agendaV (rs : List Rl) (b : Nat → Int32) (y z : Int32) : Int32 := if pln y then (if setB b z then (if fewN rs z.toNatClampNeg (dyN b y) b ≤ 4 then nI (fewN rs z.toNatClampNeg (dyN b y) b) else -3) else -1) else -1
theorem k_agenda_eq {m : M} {b : Nat → Int32} {rs : List Rl} (hW : WF b) (hK : KB m b) (hR : KR m rs) (y z : Int32) : ∃ m1, k_agenda y z m = some (agendaV rs b y z, m1) ∧ SQ m m1 := by
  unfold k_agenda agendaV
  rw [k_plan_eq, Option.bind_some]
  by_cases h : pln y = true
  · obtain ⟨n, hn, rfl⟩ := pln_iff h
    rw [h, b01_t, b_isSet_eq hW hK, Option.bind_some, if_pos rfl]
    by_cases hz : setB b z = true
    · obtain ⟨w, hw, hw2, rfl⟩ := setB_iff hW hz
      obtain ⟨m1, g1, g2, g3⟩ := k_few_run (rs := rs) hw2 (min n (leftB b)) 8 hn rfl (by omega) hW hR hK
      rw [hz, b01_t, g1, if_pos rfl, nI_clamp (by omega), dyN_nI hn]
      simp only [Option.bind_some]
      have hle := fewN_le (rs := rs) (w := w) (d := min n (leftB b)) (b := b)
      by_cases c : fewN rs w (min n (leftB b)) b ≤ 4
      · rw [if_neg (show ¬ (4 : Int32) < nI _ from fun q => by have := (nI_ltI (a := 4) (by decide) (by omega)).mp q; omega), if_pos c]
        exact ⟨m1, rfl, g3.SQ hK g2⟩
      · rw [if_pos (show (4 : Int32) < nI _ from (nI_ltI (a := 4) (by decide) (by omega)).mpr (by omega)), if_neg c]
        exact ⟨m1, rfl, g3.SQ hK g2⟩
    · rw [Bool.eq_false_iff.mpr hz, b01_f]
      exact ⟨m, rfl, SQ.rfl⟩
  · rw [Bool.eq_false_iff.mpr h, b01_f]
    exact ⟨m, rfl, SQ.rfl⟩
theorem r_agenda_eq {m : M} {b : Nat → Int32} {rs : List Rl} (hW : WF b) (hR : RR b rs) (hb : m 77 = b) (y z : Int32) : ∃ m1, r_agenda y z m = some (agendaV rs b y z, m1) ∧ SQ m m1 := by
  unfold r_agenda agendaV
  rw [r_isPlan_eq, Option.bind_some]
  by_cases h : pln y = true
  · obtain ⟨n, hn, rfl⟩ := pln_iff h
    rw [h, b01_t, r_isSet_eq hW hb, Option.bind_some, if_pos rfl]
    by_cases hz : setB b z = true
    · obtain ⟨w, hw, hw2, rfl⟩ := setB_iff hW hz
      obtain ⟨m1, g1, g2, g3, g4, g5, g6, g7, g8⟩ := r_tries_eq (rs := rs) (w := w) hW hR hb hn hw2
      rw [hz, b01_t, g1, if_pos rfl, nI_clamp (by omega)]
      simp only [Option.bind_some]
      rw [g6]
      by_cases c : fewN rs w (dyN b (nI n)) b ≤ 4
      · rw [if_pos (show nI _ ≤ (4 : Int32) from (nI_leI (b := 4) (by omega) (by decide)).mpr (by omega)), if_pos c, show min 5 (fewN rs w (dyN b (nI n)) b) = fewN rs w (dyN b (nI n)) b by omega]
        exact ⟨m1, rfl, g3⟩
      · rw [if_neg (show ¬ nI _ ≤ (4 : Int32) from fun q => by have := (nI_leI (b := 4) (by omega) (by decide)).mp q; omega), if_neg c]
        exact ⟨m1, rfl, g3⟩
    · rw [Bool.eq_false_iff.mpr hz, b01_f]
      exact ⟨m, rfl, SQ.rfl⟩
  · rw [Bool.eq_false_iff.mpr h, b01_f]
    exact ⟨m, rfl, SQ.rfl⟩
def firV (t : Nat) : Int32 := if t = 0 then -3 else nI t - 1
def barsV (rs : List Rl) (b : Nat → Int32) (y z : Int32) : Int32 := if pln y then (if setB b z then firV (firstT (fun r => inS z.toNatClampNeg r && !inS (hrdU rs (dyN b y) b) r) (manyB b) 0) else -1) else -1
theorem k_bars_eq {m : M} {b : Nat → Int32} {rs : List Rl} (hW : WF b) (hK : KB m b) (hR : KR m rs) (y z : Int32) : ∃ m1, k_bars y z m = some (barsV rs b y z, m1) ∧ SQ m m1 := by
  obtain ⟨h1, h2⟩ := hW.manyN
  unfold k_bars barsV
  rw [k_plan_eq, Option.bind_some]
  by_cases h : pln y = true
  · obtain ⟨n, hn, rfl⟩ := pln_iff h
    rw [h, b01_t, b_isSet_eq hW hK, Option.bind_some, if_pos rfl]
    by_cases hz : setB b z = true
    · obtain ⟨w, hw, hw2, rfl⟩ := setB_iff hW hz
      obtain ⟨m1, g1, g2, g3⟩ := k_hrd_run (rs := rs) (min n (leftB b)) 8 hn rfl (by omega) hW hR hK
      rw [hz, b01_t, g1, if_pos rfl, nI_clamp (by omega), dyN_nI hn]
      simp only [Option.bind_some]
      have hU := hrdU_lt (rs := rs) (min n (leftB b)) hW (by omega)
      generalize hrdU rs (min n (leftB b)) b = U at *
      unfold k_bars_34
      have key : ∀ (d r : Nat), r + d = manyB b → ∃ z : Unit ⊕ Int32, (∀ F, d < F → iter (fun z : Int32 => k_bars_34b (nI w) (nI U) z m1) F (nI r) = some z) ∧ (match z with
          | .inl _ => some ((-3 : Int32), m1)
          | .inr r => some (r, m1)) = some (firV (firstT (fun r => inS w r && !inS U r) d r), m1) := by
        intro d
        induction d with
        | zero =>
          intro r hr
          refine ⟨.inl (), fun F hF => ?_, rfl⟩
          obtain ⟨F', rfl⟩ : ∃ F', F = F' + 1 := ⟨F - 1, by omega⟩
          show (k_bars_34b (nI w) (nI U) (nI r) m1).bind _ = _
          unfold k_bars_34b
          rw [g2.f6, h1, show manyB b = r by omega, if_pos (Int32.le_refl _)]; rfl
        | succ d ih =>
          intro r hr
          have hbody : k_bars_34b (nI w) (nI U) (nI r) m1 = (if (inS w r && !inS U r) = true then some (.inr (.inr (nI r))) else some (.inl (nI (r + 1)))) := by
            unfold k_bars_34b k_bars_67
            rw [g2.f6, h1, if_neg (nI_ge (show r < manyB b by omega) (by omega)), k_isIn_nI hw2 (by omega), k_isIn_nI hU (by omega)]
            simp only [Option.bind_some]
            rw [ltE, nI_1, inS_mod, inS_mod]
            rcases mod2 (w / 2 ^ r) with e | e
            · rw [e, if_pos (by decide)]; rfl
            · rw [e, if_neg (by decide)]
              rcases mod2 (U / 2 ^ r) with e2 | e2
              · rw [e2, if_pos (by decide)]; rfl
              · rw [e2, if_neg (by decide)]; rfl
          have hf : firstT (fun r => inS w r && !inS U r) (d + 1) r = if (inS w r && !inS U r) then r + 1 else firstT (fun r => inS w r && !inS U r) d (r + 1) := rfl
          by_cases e : (inS w r && !inS U r) = true
          · refine ⟨.inr (nI r), fun F hF => ?_, ?_⟩
            · obtain ⟨F', rfl⟩ : ∃ F', F = F' + 1 := ⟨F - 1, by omega⟩
              show (k_bars_34b (nI w) (nI U) (nI r) m1).bind _ = _
              rw [hbody, if_pos e]; rfl
            · unfold firV
              rw [hf, if_pos e, if_neg (by omega), nI_pred]
          · obtain ⟨z, hz, hv⟩ := ih (r + 1) (by omega)
            refine ⟨z, fun F hF => ?_, ?_⟩
            · obtain ⟨F', rfl⟩ : ∃ F', F = F' + 1 := ⟨F - 1, by omega⟩
              show (k_bars_34b (nI w) (nI U) (nI r) m1).bind _ = _
              rw [hbody, if_neg e]
              exact hz F' (by omega)
            · rw [hv, hf, if_neg e]
      obtain ⟨z, hz, hv⟩ := key (manyB b) 0 (by omega)
      have := hz FU (by show manyB b < 4000; omega)
      rw [nI_0] at this
      rw [this]
      exact ⟨m1, hv, g3.SQ hK g2⟩
    · rw [Bool.eq_false_iff.mpr hz, b01_f]
      exact ⟨m, rfl, SQ.rfl⟩
  · rw [Bool.eq_false_iff.mpr h, b01_f]
    exact ⟨m, rfl, SQ.rfl⟩
theorem bar_dec : ∀ w, w < 64 → ∀ U, U < 64 → (nI w &&& (nI U ^^^ -1)) = nI (w &&& (63 ^^^ U)) ∧ w &&& (63 ^^^ U) < 64 := by decide +kernel
theorem bar_bit : ∀ w, w < 64 → ∀ U, U < 64 → ∀ j, j < 6 → ((w &&& (63 ^^^ U)) / 2 ^ j % 2 = 1 ↔ (w / 2 ^ j % 2 = 1 ∧ U / 2 ^ j % 2 = 0)) := by decide +kernel
theorem r_bars_62_eq {m1 : M} {b : Nat → Int32} {n t : Nat} (h1 : b 6 = nI n) (g2 : m1 77 = b) (h2 : n ≤ 6) (ht : t ≤ n) : r_bars_62 (nI t) m1 = some (if n ≤ t then -3 else nI t, m1) := by
  unfold r_bars_62
  rw [rd77_6, g2, h1, Option.bind_some]
  by_cases c : n ≤ t
  · rw [if_pos ((nI_leI (by omega) (by omega)).mpr c), if_pos c]
  · rw [if_neg (fun q => c ((nI_leI (by omega) (by omega)).mp q)), if_neg c]
theorem r_bars_35_eq {m1 : M} {b : Nat → Int32} (hW : WF b) (g2 : m1 77 = b) {x : Nat} (d2 : x < 64) : r_bars_35 (nI x) 0 m1 = some (firV (firstT (fun r => inS x r) (manyB b) 0), m1) := by
  obtain ⟨h1, h2⟩ := hW.manyN
  unfold r_bars_35
  have key : ∀ (d r : Nat), r + d = manyB b → ∃ t : Nat, t ≤ manyB b ∧ (∀ F, d < F → iter (fun z : Int32 => r_bars_35b (nI x) z m1) F (nI r) = some (nI t)) ∧ firV (firstT (fun r => inS x r) d r) = if manyB b ≤ t then -3 else nI t := by
    intro d
    induction d with
    | zero =>
      intro r hr
      refine ⟨r, by omega, fun F hF => ?_, ?_⟩
      · obtain ⟨F', rfl⟩ : ∃ F', F = F' + 1 := ⟨F - 1, by omega⟩
        show (r_bars_35b (nI x) (nI r) m1).bind _ = _
        unfold r_bars_35b
        rw [rd77_6, g2, h1, Option.bind_some, show manyB b = r by omega, if_pos (Int32.le_refl _)]; rfl
      · rw [if_pos (by omega)]; rfl
    | succ d ih =>
      intro r hr
      have hbody : r_bars_35b (nI x) (nI r) m1 = (if inS x r = true then some (.inr (nI r)) else some (.inl (nI (r + 1)))) := by
        unfold r_bars_35b
        rw [rd77_6, g2, h1, Option.bind_some, if_neg (nI_ge (show r < manyB b by omega) (by omega)), bit_dec x d2 r (by omega), ltE, nI_1, inS_mod]
        rcases mod2 (x / 2 ^ r) with e | e
        · rw [e, if_pos (by decide)]; rfl
        · rw [e, if_neg (by decide)]; rfl
      have hf : firstT (fun r => inS x r) (d + 1) r = if inS x r then r + 1 else firstT (fun r => inS x r) d (r + 1) := rfl
      by_cases e : inS x r = true
      · refine ⟨r, by omega, fun F hF => ?_, ?_⟩
        · obtain ⟨F', rfl⟩ : ∃ F', F = F' + 1 := ⟨F - 1, by omega⟩
          show (r_bars_35b (nI x) (nI r) m1).bind _ = _
          rw [hbody, if_pos e]; rfl
        · unfold firV
          rw [hf, if_pos e, if_neg (show ¬ r + 1 = 0 by omega), nI_pred, if_neg (show ¬ manyB b ≤ r by omega)]
      · obtain ⟨t, ht, hz, hv⟩ := ih (r + 1) (by omega)
        refine ⟨t, ht, fun F hF => ?_, ?_⟩
        · obtain ⟨F', rfl⟩ : ∃ F', F = F' + 1 := ⟨F - 1, by omega⟩
          show (r_bars_35b (nI x) (nI r) m1).bind _ = _
          rw [hbody, if_neg e]
          exact hz F' (by omega)
        · rw [hf, if_neg e, hv]
  obtain ⟨t, ht, hz, hv⟩ := key (manyB b) 0 (by omega)
  have := hz FU (by show manyB b < 4000; omega)
  rw [nI_0] at this
  rw [this, hv, Option.bind_some]
  exact r_bars_62_eq h1 g2 h2 ht
theorem firstT_congr {P Q : Nat → Bool} : ∀ (d k : Nat), (∀ r, k ≤ r → r < k + d → P r = Q r) → firstT P d k = firstT Q d k
  | 0, _, _ => rfl
  | d + 1, k, h => by
    show (if P k then k + 1 else firstT P d (k + 1)) = (if Q k then k + 1 else firstT Q d (k + 1))
    rw [h k (by omega) (by omega), firstT_congr d (k + 1) (fun r h1 h2 => h r (by omega) (by omega))]
theorem bar_in {w U r : Nat} (hw : w < 64) (hU : U < 64) (hr : r < 6) : inS (w &&& (63 ^^^ U)) r = (inS w r && !inS U r) := by
  have := bar_bit w hw U hU r hr
  apply Bool.eq_iff_iff.mpr
  rw [Bool.and_eq_true, inS_mod, inS_mod, inS_mod, decide_eq_true_eq, decide_eq_true_eq, this]
  rcases mod2 (U / 2 ^ r) with e | e
  · rw [e]; simp
  · rw [e]; simp
theorem r_bars_set {m1 : M} {b : Nat → Int32} (hW : WF b) (g2 : m1 77 = b) {w U : Nat} (hw : w < 64) (hU : U < 64) : r_bars_35 (nI w &&& (nI U ^^^ -1)) 0 m1 = some (firV (firstT (fun r => inS w r && !inS U r) (manyB b) 0), m1) := by
  obtain ⟨d1, d2⟩ := bar_dec w hw U hU
  rw [d1, r_bars_35_eq hW g2 d2]
  rw [firstT_congr (P := fun r => inS (w &&& (63 ^^^ U)) r) (Q := fun r => inS w r && !inS U r) (manyB b) 0 (fun r _ hr => bar_in hw hU (by have := hW.manyN.2; omega))]
theorem dyN_le {b : Nat → Int32} {y : Int32} : dyN b y ≤ leftB b := Nat.min_le_right _ _
theorem r_bars_eq {m : M} {b : Nat → Int32} {rs : List Rl} (hW : WF b) (hR : RR b rs) (hb : m 77 = b) (y z : Int32) : ∃ m1, r_bars y z m = some (barsV rs b y z, m1) ∧ SQ m m1 := by
  unfold r_bars barsV
  rw [r_isPlan_eq, Option.bind_some]
  by_cases h : pln y = true
  · obtain ⟨n, hn, rfl⟩ := pln_iff h
    rw [h, b01_t, r_isSet_eq hW hb, Option.bind_some, if_pos rfl]
    by_cases hz : setB b z = true
    · obtain ⟨w, hw, hw2, rfl⟩ := setB_iff hW hz
      obtain ⟨m1, g1, g2, g3, g4, g5, g6, g7, g8⟩ := r_tries_eq (rs := rs) (w := w) hW hR hb hn hw2
      have hU := hrdU_lt (rs := rs) (dyN b (nI n)) hW dyN_le
      rw [hz, b01_t, g1, if_pos rfl, nI_clamp (by omega), Option.bind_some, ltE, g7, r_bars_set hW g2 hw2 hU]
      exact ⟨m1, rfl, g3⟩
    · rw [Bool.eq_false_iff.mpr hz, b01_f]
      exact ⟨m, rfl, SQ.rfl⟩
  · rw [Bool.eq_false_iff.mpr h, b01_f]
    exact ⟨m, rfl, SQ.rfl⟩
def gameV (rs : List Rl) (b : Nat → Int32) (y : Int32) : Int32 := if 1 ≤ y ∧ y ≤ 4 then nI (gmP rs (dyN b y) true b).1 else -1
theorem k_game_eq {m : M} {b : Nat → Int32} {rs : List Rl} (hW : WF b) (hK : KB m b) (hR : KR m rs) (y : Int32) : ∃ m1, k_game y m = some (gameV rs b y, m1) ∧ SQ m m1 := by
  unfold k_game gameV
  rw [k_within_eq, Option.bind_some]
  by_cases h : 1 ≤ y ∧ y ≤ 4
  · rw [if_pos h, if_pos h, if_neg (by decide)]
    obtain ⟨n, hn1, hn, rfl⟩ := in_1 (v := y) (n := 4) (by decide) h
    obtain ⟨m1, g1, g2, g3⟩ := k_game_run (rs := rs) (min n (leftB b)) 8 (mx := true) hn rfl (by omega) hW hR hK
    rw [show k_gameValue_d 8 (nI n) (1 : Int32) m = k_gameValue_d 8 (nI n) (b01 true) m from rfl, g1, dyN_nI hn]
    exact ⟨m1, rfl, g3.SQ hK g2⟩
  · rw [if_neg h, if_neg h, if_pos rfl]
    exact ⟨m, rfl, SQ.rfl⟩
theorem r_game_eq {m : M} {b : Nat → Int32} {rs : List Rl} (hW : WF b) (hR : RR b rs) (hb : m 77 = b) (y : Int32) : ∃ m1, r_game y m = some (gameV rs b y, m1) ∧ SQ m m1 := by
  unfold r_game gameV
  rw [r_in1_eq, Option.bind_some]
  by_cases h : 1 ≤ y ∧ y ≤ 4
  · rw [if_pos h, if_pos h, if_neg (by decide)]
    obtain ⟨n, hn1, hn, rfl⟩ := in_1 (v := y) (n := 4) (by decide) h
    obtain ⟨m1, g1, g2, g3, g4⟩ := r_game_run (rs := rs) (D := min n (leftB b)) (by omega) (min n (leftB b)) 8 0 (by omega) (by omega) hW hR hb (by omega)
    rw [r_daysOf_eq hW hb hn, Option.bind_some, show (0 : Int32) = nI 0 from rfl, g1, dyN_nI hn]
    exact ⟨m1, rfl, g3.SQ (by rw [g2, hb])⟩
  · rw [if_neg h, if_neg h, if_pos rfl]
    exact ⟨m, rfl, SQ.rfl⟩
def playV (rs : List Rl) (b : Nat → Int32) (y : Int32) : Int32 := if 1 ≤ y ∧ y ≤ 4 then (if leftB b = 0 then -3 else nI (gmP rs (dyN b y) true b).2) else -1
theorem r_play_eq {m : M} {b : Nat → Int32} {rs : List Rl} (hW : WF b) (hR : RR b rs) (hb : m 77 = b) (y : Int32) : ∃ m1, r_play y m = some (playV rs b y, m1) ∧ SQ m m1 := by
  unfold r_play playV
  rw [r_in1_eq, Option.bind_some]
  by_cases h : 1 ≤ y ∧ y ≤ 4
  · rw [if_pos h, if_pos h, if_neg (by decide), isOverR hb hW, Option.bind_some]
    by_cases e : leftB b = 0
    · rw [if_pos e, if_neg (by decide), if_pos e]
      exact ⟨m, rfl, SQ.rfl⟩
    · rw [if_neg e, if_pos rfl, if_neg e]
      obtain ⟨n, hn1, hn, rfl⟩ := in_1 (v := y) (n := 4) (by decide) h
      obtain ⟨m1, g1, g2, g3, g4⟩ := r_game_run (rs := rs) (D := min n (leftB b)) (by omega) (min n (leftB b)) 8 0 (by omega) (by omega) hW hR hb (by omega)
      obtain ⟨b1, b2⟩ := gmP_bd (rs := rs) (min n (leftB b)) (mx := true) hW (by omega)
      have g4' := g4 (by omega)
      rw [r_daysOf_eq hW hb hn, Option.bind_some, show r_playedFrom_d 8 0 (nI (min n (leftB b))) m = r_playedFrom_d 8 (nI 0) (nI (min n (leftB b))) m from rfl, g1, dyN_nI hn]
      rw [show decide (0 % 2 = 0) = true from rfl] at g4' ⊢
      simp only [Option.bind_some]
      rw [if_pos (nI_pos' (by omega)), show (0 : Int32) = nI 0 from rfl, rdI_at (show 0 < len 86 by rw [len86]; decide) (by decide), g4']
      exact ⟨m1, rfl, g3.SQ (by rw [g2, hb])⟩
  · rw [if_neg h, if_neg h, if_pos rfl]
    exact ⟨m, rfl, SQ.rfl⟩
theorem k_play_eq {m : M} {b : Nat → Int32} {rs : List Rl} (hW : WF b) (hK : KB m b) (hR : KR m rs) (y : Int32) : ∃ m1, k_play y m = some (playV rs b y, m1) ∧ SQ m m1 := by
  unfold k_play playV
  rw [k_within_eq, Option.bind_some]
  by_cases h : 1 ≤ y ∧ y ≤ 4
  · rw [if_pos h, if_pos h, if_neg (by decide), isOverK hK hW, Option.bind_some]
    by_cases e0 : leftB b = 0
    · rw [if_pos e0, if_neg (by decide), if_pos e0]
      exact ⟨m, rfl, SQ.rfl⟩
    · rw [if_neg e0, if_pos rfl, if_neg e0]
      have hl : 0 < leftB b := by omega
      obtain ⟨n, hn1, hn, rfl⟩ := in_1 (v := y) (n := 4) (by decide) h
      obtain ⟨n', rfl⟩ : ∃ n', n = n' + 1 := ⟨n - 1, by omega⟩
      obtain ⟨h1, h2⟩ := hW.manyN
      rw [b_moment_eq hK hW, Option.bind_some, b_count_eq hK hW, Option.bind_some, dyN_nI hn]
      obtain ⟨d, hd⟩ : ∃ d, min (n' + 1) (leftB b) = d + 1 := ⟨min (n' + 1) (leftB b) - 1, by omega⟩
      rw [hd, gmP_succ]
      generalize hst : (fun a : Nat => if a = 0 then ((-1 : Int32), (-3 : Int32)) else (nI (gmS rs d true b (a - 1)).1, nI (gmS rs d true b (a - 1)).2)) = st
      have hst0 : st 0 = (-1, -3) := by rw [← hst]; rfl
      have hsts : ∀ a, st (a + 1) = (nI (gmS rs d true b a).1, nI (gmS rs d true b a).2) := fun a => by rw [← hst]; rfl
      have key : ∀ (e a : Nat) (mi : M), a + e = manyB b + 1 → KB mi b → NQ m mi → ∃ m', (∀ F, e < F → iter (fun z : Int32 × Int32 × Int32 × M => k_play_51b (nI (n' + 1)) (lN (momN b)) z.1 z.2.1 (countB b) z.2.2.1 z.2.2.2) F ((st a).1, (st a).2, nI a, mi) = some ((st (manyB b + 1)).2, m')) ∧ KB m' b ∧ NQ m m' := by
        intro e
        induction e with
        | zero =>
          intro a mi ha hKi hq
          refine ⟨mi, fun F hF => ?_, hKi, hq⟩
          obtain ⟨F', rfl⟩ : ∃ F', F = F' + 1 := ⟨F - 1, by omega⟩
          have hae : a = manyB b + 1 := by omega
          subst hae
          show (k_play_51b (nI (n' + 1)) (lN (momN b)) _ _ (countB b) (nI (manyB b + 1)) mi).bind _ = _
          unfold k_play_51b
          rw [hKi.f6, h1, if_pos ((nI_ltI (by omega) (by omega)).mpr (by omega))]; rfl
        | succ e ihe =>
          intro a mi ha hKi hq
          have ham : a ≤ manyB b := by omega
          have hWa := hW.go (over0 hW hl) rs ham
          have hlg := left_go (rs := rs) hW hl ham
          obtain ⟨gg1, gg2⟩ := goN_eq (rs := rs) hW ham
          obtain ⟨m1, f1, f2, f3, -⟩ := b_goesBy_eq (rs := rs) hKi hW (hq.kr hR) ham
          obtain ⟨m2, r1, r2, r3⟩ := k_game_run (rs := rs) d 8 (mx := false) (n := n') (by omega) (by omega) (by omega) hWa (f3.kr (hq.kr hR)) f2
          obtain ⟨m3, t1, t2, t3, t4⟩ := b_goBackTo_eq hW r2 (NB_go (rs := rs) (by omega))
          obtain ⟨m', i1, i2, i3⟩ := ihe (a + 1) m3 (by omega) t2 ((hq.trans f3).trans (r3.trans t3))
          have hbody : k_play_51b (nI (n' + 1)) (lN (momN b)) (st a).1 (st a).2 (countB b) (nI a) mi = some (.inl ((st (a + 1)).1, (st (a + 1)).2, nI (a + 1), m3)) := by
            unfold k_play_51b k_play_111
            rw [hKi.f6, h1, if_neg (fun q => by have := (nI_ltI (by omega) (by omega)).mp q; omega), f1]
            simp only [Option.bind_some]
            rw [nI_pred, show k_gameValue_d 8 (nI n') (0 : Int32) m1 = k_gameValue_d 8 (nI n') (b01 false) m1 from rfl, r1]
            simp only [Option.bind_some]
            rw [ltE, t1]
            simp only [Option.bind_some]
            rw [ltE, ltE, nI_1, gg1, nI_add, show goN rs a b + (gmP rs d false (goB rs a b)).1 = gmV rs d true b a from rfl]
            have hgv := gmV_bd (rs := rs) (mx := true) hW (show d + 1 ≤ leftB b by omega) ham
            cases a with
            | zero =>
              rw [hst0, hsts]
              simp only
              rw [if_neg (fun q => by have := Int32.le_trans (nI_pos' (n := gmV rs d true b 0) (by omega)) q; revert this; decide)]
              rfl
            | succ a =>
              obtain ⟨sb1, sb2⟩ := gmS_bd (rs := rs) (mx := true) hW (show d + 1 ≤ leftB b by omega) (show a ≤ manyB b by omega)
              rw [hsts, hsts, gmS_succ]
              generalize gmS rs d true b a = s at *
              generalize gmV rs d true b (a + 1) = v at *
              unfold bet
              simp only [if_true]
              by_cases c : v ≤ s.1
              · rw [if_pos ((nI_leI (by omega) (by omega)).mpr c), if_pos c]
              · rw [if_neg (fun q => c ((nI_leI (by omega) (by omega)).mp q)), if_neg c]
          refine ⟨m', fun F hF => ?_, i2, i3⟩
          obtain ⟨F', rfl⟩ : ∃ F', F = F' + 1 := ⟨F - 1, by omega⟩
          show (k_play_51b (nI (n' + 1)) (lN (momN b)) (st a).1 (st a).2 (countB b) (nI a) mi).bind _ = _
          rw [hbody]
          exact i1 F' (by omega)
      obtain ⟨m', i1, i2, i3⟩ := key (manyB b + 1) 0 m (by omega) hK NQ.rfl
      unfold k_play_51
      have := i1 FU (by show manyB b + 1 < 4000; omega)
      rw [hst0, nI_0] at this
      rw [this, hsts]
      exact ⟨m', rfl, i3.SQ hK i2⟩
  · rw [if_neg h, if_neg h, if_pos rfl]
    exact ⟨m, rfl, SQ.rfl⟩
