/-! the class's wrong reports, as sets -/
theorem or2_dec : ∀ a, a < 64 → ∀ b, b < 64 → nI a ||| nI b = nI (a ||| b) := by decide +kernel
theorem or64 {a b : Nat} (ha : a < 64) (hb : b < 64) : a ||| b < 64 := Nat.or_lt_two_pow (n := 6) ha hb
theorem inS_or2 {s t j : Nat} : inS (s ||| t) j = (inS s j || inS t j) := Nat.testBit_or s t j
theorem inS_0 {j : Nat} : inS 0 j = false := by simp [inS]
theorem KP.f0 {m : M} {b : Nat → Int32} (h : KP m b) : m 4 0 = b 8 := h.1
/-- the set of those below n for which P holds -/
def setN (P : Nat → Bool) (n : Nat) : Nat := foldN (fun r s => if P r then s ||| 2 ^ r else s) n 0
theorem inS_setN {P : Nat → Bool} {n r : Nat} : inS (setN P n) r = true ↔ r < n ∧ P r = true := by
  unfold setN
  induction n with
  | zero => rw [show foldN (fun r s => if P r then s ||| 2 ^ r else s) 0 0 = 0 from rfl, inS_0]; simp
  | succ n ih =>
    show inS (if P n then foldN _ n 0 ||| 2 ^ n else foldN _ n 0) r = true ↔ _
    by_cases e : P n = true
    · rw [if_pos e, inS_or, Bool.or_eq_true, ih, decide_eq_true_eq]
      constructor
      · rintro (⟨h1, h2⟩ | h)
        · exact ⟨by omega, h2⟩
        · subst h; exact ⟨by omega, e⟩
      · rintro ⟨h1, h2⟩
        by_cases q : n = r
        · exact Or.inr q
        · exact Or.inl ⟨by omega, h2⟩
    · rw [if_neg e, ih]
      constructor
      · rintro ⟨h1, h2⟩; exact ⟨by omega, h2⟩
      · rintro ⟨h1, h2⟩
        refine ⟨?_, h2⟩
        by_cases q : r = n
        · subst q; exact absurd h2 e
        · omega
theorem setN_lt {P : Nat → Bool} {n : Nat} (hn : n ≤ 6) : setN P n < 64 := foldN_inv (fun s => s < 64) (by decide) (fun r x hr hx => by
  show (if P r then x ||| 2 ^ r else x) < 64
  split
  · exact or_lt64 hx (by omega)
  · exact hx)
def wbN (b : Nat → Int32) (c t : Nat) : Nat := setN (fun r => decide (tN b r = t) && !soC b c r) (repN b)
def wrN (b : Nat → Int32) (c : Nat) : Nat := setN (fun r => !soC b c r) (repN b)
theorem wb_eq {m : M} {b : Nat → Int32} (hR : WR b) (hP : KP m b) {c t : Nat} (ht : t ≤ 16) : p_wrongBehind (nI t) (telL b (kdN c) (gdN c) (ltN c) t).1 (telL b (kdN c) (gdN c) (ltN c) t).2 m = some (nI (wbN b c t)) := by
  obtain ⟨h1, h2⟩ := hR.n
  unfold p_wrongBehind p_wrongBehind_6
  rw [show ((0 : Int32), (0 : Int32)) = (nI 0, (0 : Int32)) from rfl, loop_set (body := fun z : Int32 × Int32 => p_wrongBehind_6b (nI t) (telL b (kdN c) (gdN c) (ltN c) t).1 (telL b (kdN c) (gdN c) (ltN c) t).2 z.1 z.2 m) (g := fun r s => if decide (tN b r = t) && !soC b c r then s ||| 2 ^ r else s) (fin := fun s => nI s) (s := 0) (repN b) (by decide) (fun r x hr hx => by
    show (if decide (tN b r = t) && !soC b c r then x ||| 2 ^ r else x) < 64
    split
    · exact or_lt64 hx (by omega)
    · exact hx) (fun r x hr hx => by
    show p_wrongBehind_6b (nI t) (telL b (kdN c) (gdN c) (ltN c) t).1 (telL b (kdN c) (gdN c) (ltN c) t).2 (nI x) (nI r) m = _
    obtain ⟨p0, p1, p2, p3⟩ := hP.2 r (by omega) hr
    obtain ⟨t1, t2⟩ := hR.t hr
    unfold p_wrongBehind_6b p_wrongBehind_41 p_wrongBehind_70
    rw [hP.f0, h1, if_neg (nI_ge hr (by omega)), rd6 (by decide) (show r < 6 by omega), rd6 (by decide) (show r < 6 by omega), rd6 (by decide) (show r < 6 by omega), rd6 (by decide) (show r < 6 by omega), p0, p1, p2, p3, t1]
    simp only [Option.bind_some, k_within_eq]
    rw [ltE, ltE, ltE, nI_1, or_dec x hx r (by omega)]
    by_cases e : tN b r = t
    · rw [if_pos (by rw [e]), decide_eq_true e, Bool.true_and]
      unfold soC soB
      rw [e]
      by_cases e1 : b (67 + 4 * r + 1) = 0
      · simp only [if_pos e1]
        by_cases c1 : b (67 + 4 * r + 2) ≤ (telL b (kdN c) (gdN c) (ltN c) t).1 ∧ (telL b (kdN c) (gdN c) (ltN c) t).1 ≤ b (67 + 4 * r + 3)
        · rw [if_pos c1, if_neg (by decide), decide_eq_true c1]; rfl
        · rw [if_neg c1, if_pos rfl, decide_eq_false c1]; rfl
      · simp only [if_neg e1]
        by_cases c1 : b (67 + 4 * r + 2) ≤ (telL b (kdN c) (gdN c) (ltN c) t).2 ∧ (telL b (kdN c) (gdN c) (ltN c) t).2 ≤ b (67 + 4 * r + 3)
        · rw [if_pos c1, if_neg (by decide), decide_eq_true c1]; rfl
        · rw [if_neg c1, if_pos rfl, decide_eq_false c1]; rfl
    · rw [if_neg (fun q => e ((nI_eq (by omega) (by omega)).mp q)), decide_eq_false e]; rfl) (fun x _ => by
    show p_wrongBehind_6b (nI t) _ _ (nI x) (nI (repN b)) m = _
    unfold p_wrongBehind_6b
    rw [hP.f0, h1, if_pos (Int32.le_refl _)]) (by omega)]
  rfl
def latN (b : Nat → Int32) (n : Nat) : Nat := foldN (fun r x => max x (tN b r)) n 0
theorem latN_le {b : Nat → Int32} (hR : WR b) : ∀ n, n ≤ repN b → latN b n ≤ 15
  | 0, _ => Nat.zero_le _
  | n + 1, h => by
    show max (latN b n) (tN b n) ≤ 15
    have := latN_le hR n (by omega)
    have := (hR.t (r := n) (by omega)).2
    omega
theorem latN_ge {b : Nat → Int32} : ∀ {n r : Nat}, r < n → tN b r ≤ latN b n
  | n + 1, r, h => by
    show tN b r ≤ max (latN b n) (tN b n)
    by_cases e : r = n
    · subst e; omega
    · have := latN_ge (b := b) (show r < n by omega); omega
theorem mx_nat {a c : Nat} (ha : a < 2 ^ 31) (hc : c < 2 ^ 31) : mxI (nI a) (nI c) = nI (max a c) := by
  unfold mxI
  by_cases h : a < c
  · rw [if_pos ((nI_ltI ha hc).mpr h), Nat.max_eq_right (by omega)]
  · rw [if_neg (fun q => h ((nI_ltI ha hc).mp q)), Nat.max_eq_left (by omega)]
theorem p_latest_eq {m : M} {b : Nat → Int32} (hR : WR b) (hP : KP m b) : p_latest m = some (nI (latN b (repN b))) := by
  obtain ⟨h1, h2⟩ := hR.n
  unfold p_latest p_latest_4
  have := iter_seq (body := fun z : Int32 × Int32 => p_latest_4b z.1 z.2 m) (fun i => (nI (latN b i), nI i)) (r := nI (latN b (repN b))) (repN b) (fun i hi => by
    show p_latest_4b (nI (latN b i)) (nI i) m = _
    obtain ⟨p0, p1, p2, p3⟩ := hP.2 i (by omega) hi
    obtain ⟨t1, t2⟩ := hR.t hi
    have := latN_le hR i (by omega)
    unfold p_latest_4b
    rw [hP.f0, h1, if_neg (nI_ge hi (by omega)), rd6 (by decide) (show i < 6 by omega), p0, t1]
    simp only [Option.bind_some]
    rw [ltE, ltE, mx_nat (by omega) (by omega), nI_1]
    rfl) (by
    show p_latest_4b (nI _) (nI (repN b)) m = _
    unfold p_latest_4b
    rw [hP.f0, h1, if_pos (Int32.le_refl _)]) (by omega)
  rw [show ((0 : Int32), (0 : Int32)) = (fun i => (nI (latN b i), nI i)) 0 from rfl, this]
  rfl
def wsN (b : Nat → Int32) (c : Nat) (i : Nat) : Nat := foldN (fun i s => s ||| wbN b c (i + 1)) i (wbN b c 0)
theorem wbN_lt {b : Nat → Int32} (hR : WR b) {c t : Nat} : wbN b c t < 64 := setN_lt hR.n.2
theorem wsN_lt {b : Nat → Int32} (hR : WR b) {c i : Nat} : wsN b c i < 64 := foldN_inv (fun s => s < 64) (wbN_lt hR) (fun i x _ hx => or64 hx (wbN_lt hR))
theorem inS_wsN {b : Nat → Int32} {c i r : Nat} : inS (wsN b c i) r = true ↔ ∃ t, t ≤ i ∧ inS (wbN b c t) r = true := by
  induction i with
  | zero => exact ⟨fun h => ⟨0, Nat.le_refl _, h⟩, fun ⟨t, h1, h2⟩ => by rw [show t = 0 by omega] at h2; exact h2⟩
  | succ i ih =>
    show inS (wsN b c i ||| wbN b c (i + 1)) r = true ↔ _
    rw [inS_or2, Bool.or_eq_true, ih]
    constructor
    · rintro (⟨t, h1, h2⟩ | h)
      · exact ⟨t, by omega, h2⟩
      · exact ⟨i + 1, by omega, h⟩
    · rintro ⟨t, h1, h2⟩
      by_cases e : t = i + 1
      · subst e; exact Or.inr h2
      · exact Or.inl ⟨t, by omega, h2⟩
theorem wsN_eq {b : Nat → Int32} {c : Nat} : wsN b c (latN b (repN b)) = wrN b c := by
  apply Nat.eq_of_testBit_eq
  intro r
  show inS _ r = inS _ r
  apply Bool.eq_iff_iff.mpr
  unfold wrN
  rw [inS_wsN, inS_setN]
  unfold wbN
  constructor
  · rintro ⟨t, h1, h2⟩
    rw [inS_setN, Bool.and_eq_true] at h2
    exact ⟨h2.1, h2.2.2⟩
  · rintro ⟨h1, h2⟩
    refine ⟨tN b r, latN_ge h1, ?_⟩
    rw [inS_setN, Bool.and_eq_true]
    exact ⟨h1, decide_eq_true rfl, h2⟩
theorem side_tab : ∀ x, x < 10 → heldV (nI x - 2 * ((0 : Int32) - 1)) 9 = heldV (nI x + 2) 9 ∧ heldV (nI x - 2 * ((1 : Int32) - 1)) 9 = heldV (nI x) 9 ∧ heldV (nI x - 2 * ((2 : Int32) - 1)) 9 = heldV (nI x - 2) 9 := by decide +kernel
theorem ltN_bd {c : Nat} : bd (ltN c) 9 := ⟨c % 10, by omega, rfl⟩
theorem lenI_14 : lenI 14 = some 16 := by
  unfold lenI
  rw [if_pos (by decide), show len 14 = 16 by decide]
  rfl
theorem telL_s {b : Nat → Int32} {kd g l : Int32} {i : Nat} : telL b kd g l (i + 1) = telS b kd g i (telL b kd g l i) := rfl
theorem telL_0 {b : Nat → Int32} {kd g l : Int32} : telL b kd g l 0 = (l, 0) := rfl
theorem wsN_0 {b : Nat → Int32} {c : Nat} : wsN b c 0 = wbN b c 0 := rfl
theorem wsN_succ {b : Nat → Int32} {c i : Nat} : wsN b c (i + 1) = wsN b c i ||| wbN b c (i + 1) := rfl
def wsG (wb : Nat → Nat) (i : Nat) : Nat := foldN (fun i s => s ||| wb (i + 1)) i (wb 0)
theorem wsG_0 {wb : Nat → Nat} : wsG wb 0 = wb 0 := rfl
theorem wsG_succ {wb : Nat → Nat} {i : Nat} : wsG wb (i + 1) = wsG wb i ||| wb (i + 1) := rfl
theorem wsG_lt {wb : Nat → Nat} (h : ∀ t, wb t < 64) {i : Nat} : wsG wb i < 64 := foldN_inv (fun s => s < 64) (h 0) (fun i x _ hx => or64 hx (h _))
theorem side_heldV {x : Nat} (hx : x ≤ 9) (v : Int32) : heldV (nI x - 2 * (sideV v - 1)) 9 = heldV (if v ≤ 0 then (if 0 ≤ v then nI x else nI x + 2) else nI x - 2) 9 := by
  obtain ⟨s0, s1, s2⟩ := side_tab x (by omega)
  unfold sideV
  by_cases c1 : v ≤ 0
  · rw [if_pos c1, if_pos c1]
    by_cases c2 : 0 ≤ v
    · rw [if_pos c2, if_pos c2]; exact s1
    · rw [if_neg c2, if_neg c2]; exact s0
  · rw [if_neg c1, if_neg c1]; exact s2
theorem telS_eq {b : Nat → Int32} {kd g : Int32} {i : Nat} {x f : Int32} : telS b kd g i (x, f) = (nearV (heldV (if leanV kd (b (9 + i) / 4) x g (nI i) ≤ 0 then (if 0 ≤ leanV kd (b (9 + i) / 4) x g (nI i) then x else x + 2) else x - 2) 9), f + (if lostV (b (9 + i)) (heldV (if leanV kd (b (9 + i) / 4) x g (nI i) ≤ 0 then (if 0 ≤ leanV kd (b (9 + i) / 4) x g (nI i) then x else x + 2) else x - 2) 9) = 0 then 0 else 5 * (b (9 + i) / 4))) := rfl
theorem wf_step {m : M} {b : Nat → Int32} (hK : KB m b) {kd i n x : Nat} {K G f a7 : Int32} (hkd : kd ≤ 5) (hkn : nI kd = K) (hx : x ≤ 9) (hi : i < n) (hn : n ≤ 15) : p_wrongFor_32b (64 + kd) G 14 (nI x) f a7 (nI n) (nI i) m = Option.bind (p_wrongBehind (nI (i + 1)) (telS b K G i (nI x, f)).1 (telS b K G i (nI x, f)).2 m) (fun v2 => some (.inl ((telS b K G i (nI x, f)).1, (telS b K G i (nI x, f)).2, a7 ||| v2, nI (i + 1)))) := by
  rw [telS_eq, ← hkn]
  unfold p_wrongFor_32b p_wrongFor_99
  rw [if_neg (nI_ge hi (by omega)), rdI_at (show i < len 14 from by show i < 16; omega) (by decide), hK.ship (show i < 16 by omega), Option.bind_some]
  unfold b_valueOf
  rw [Option.bind_some, vd_leansBy_eq hkd (show i ≤ 16 by omega), Option.bind_some, k_side_eq, Option.bind_some]
  unfold b_held
  rw [Option.bind_some, mx_mn9, side_heldV hx]
  generalize leanV (nI kd) (b (9 + i) / 4) (nI x) G (nI i) = v
  generalize heldV (if v ≤ 0 then (if 0 ≤ v then nI x else nI x + 2) else nI x - 2) 9 = y
  rw [b_isLost_eq, Option.bind_some, b_nearer_eq, Option.bind_some, nI_1]
  unfold b_fundOf b_valueOf
  rw [Option.bind_some, Option.bind_some]
  by_cases e : lostV (b (9 + i)) y = 0
  · rw [if_pos e, if_pos e, Int32.add_zero]
    rfl
  · rw [if_neg e, if_neg e, ltE]
    rfl
theorem p_wrongFor_gen {m : M} {b : Nat → Int32} (hK : KB m b) (hR : WR b) (hP : KP m b) {kd : Nat} {K G L : Int32} {wb : Nat → Nat} (hkd : kd ≤ 5) (hkn : nI kd = K) (hl : bd L 9) (hwbA : ∀ t, t ≤ 16 → p_wrongBehind (nI t) (telL b K G L t).1 (telL b K G L t).2 m = some (nI (wb t))) (h64 : ∀ t, wb t < 64) : p_wrongFor (64 + kd) G L 14 m = some (nI (wsG wb (latN b (repN b)))) := by
  have hlat := latN_le hR (repN b) (Nat.le_refl _)
  have hw0 := hwbA 0 (by decide)
  rw [telL_0, nI_0] at hw0
  simp only at hw0
  unfold p_wrongFor
  rw [hw0, p_latest_eq hR hP, lenI_14]
  simp only [Option.bind_some]
  rw [ltE, show (16 : Int32) = nI 16 from rfl, mn_nat (by omega) (by decide), Nat.min_eq_left (by omega)]
  unfold p_wrongFor_32
  have := iter_seq (body := fun z : Int32 × Int32 × Int32 × Int32 => p_wrongFor_32b (64 + kd) G 14 z.1 z.2.1 z.2.2.1 (nI (latN b (repN b))) z.2.2.2 m) (fun i => ((telL b K G L i).1, (telL b K G L i).2, nI (wsG wb i), nI i)) (r := nI (wsG wb (latN b (repN b)))) (latN b (repN b)) (fun i hi => by
    show p_wrongFor_32b (64 + kd) G 14 (telL b K G L i).1 (telL b K G L i).2 (nI (wsG wb i)) (nI (latN b (repN b))) (nI i) m = _
    obtain ⟨x, hx, ex⟩ := telL_bd hl i (b := b) (kd := K) (g := G)
    have hwb := hwbA (i + 1) (by omega)
    rw [telL_s] at hwb ⊢
    rw [wsG_succ]
    generalize telL b K G L i = s at *
    obtain ⟨x', f⟩ := s
    have ex' : x' = nI x := ex
    subst ex'
    show p_wrongFor_32b (64 + kd) G 14 (nI x) f (nI (wsG wb i)) (nI (latN b (repN b))) (nI i) m = _
    rw [wf_step hK hkd hkn hx hi (by omega), hwb]
    show some (Sum.inl (_, _, nI (wsG wb i) ||| nI (wb (i + 1)), nI (i + 1))) = _
    rw [or2_dec _ (wsG_lt h64) _ (h64 _)]) (by
    show p_wrongFor_32b (64 + kd) G 14 _ _ (nI (wsG wb (latN b (repN b)))) (nI (latN b (repN b))) (nI (latN b (repN b))) m = _
    unfold p_wrongFor_32b
    rw [if_pos (Int32.le_refl _)]) (by omega)
  rw [show (L, (0 : Int32), nI (wb 0), (0 : Int32)) = (fun i => ((telL b K G L i).1, (telL b K G L i).2, nI (wsG wb i), nI i)) 0 from by
    show _ = ((telL b K G L 0).1, (telL b K G L 0).2, nI (wsG wb 0), nI 0)
    rw [telL_0, wsG_0, nI_0], this]
  rfl
theorem p_wrongFor_eq {m : M} {b : Nat → Int32} (hK : KB m b) (hR : WR b) (hP : KP m b) {c kd : Nat} (hkd : kd ≤ 5) (hkn : nI kd = kdN c) : p_wrongFor (64 + kd) (gdN c) (ltN c) 14 m = some (nI (wrN b c)) := by
  rw [p_wrongFor_gen (wb := wbN b c) hK hR hP hkd hkn ltN_bd (fun t ht => wb_eq hR hP ht) (fun t => wbN_lt hR), ← wsN_eq]
  rfl
theorem k_wrong_eq {m : M} {b : Nat → Int32} (hK : KB m b) (hR : WR b) (hP : KP m b) {c : Nat} (hc : c < 500) : k_wrongReportsFor (nI c) m = some (nI (wrN b c)) := by
  obtain ⟨d1, d2, d3⟩ := div_c hc
  unfold k_wrongReportsFor k_kindOfLone k_greedOfLone k_lightOfLone
  simp only [Option.bind_some]
  rw [Int32.add_comm, d1, d2, d3, show kdN c = nI (1 + c / 100) from rfl, kinds_at (show 1 + c / 100 ≤ 5 by omega)]
  simp only [Option.bind_some]
  rw [p_wrongFor_eq hK hR hP (c := c) (show 1 + c / 100 ≤ 5 by omega) rfl]
  rfl
theorem wr0_iff {b : Nat → Int32} {c : Nat} (hR : WR b) : wrN b c = 0 ↔ fitB b (-1) c = true := by
  have hne : ∀ r, r < repN b → ¬ nI r = -1 := fun r hr q => by
    have := hR.n.2
    have := nI_pos' (n := r) (by omega)
    rw [q] at this; revert this; decide
  constructor
  · intro h
    refine allN_iff.mpr fun r hr => ?_
    show (decide (nI r = -1) || soC b c r) = true
    rw [decide_eq_false (hne r hr), Bool.false_or]
    by_cases e : soC b c r = true
    · exact e
    · have : inS (wrN b c) r = true := inS_setN.mpr ⟨hr, by rw [Bool.eq_false_iff.mpr e]; rfl⟩
      rw [h, inS_0] at this
      cases this
  · intro h
    apply Nat.eq_of_testBit_eq
    intro r
    show inS _ r = inS 0 r
    rw [inS_0]
    apply Bool.eq_false_iff.mpr
    intro q
    obtain ⟨h1, h2⟩ := inS_setN.mp q
    have h3 : (decide (nI r = -1) || soC b c r) = true := allN_iff.mp h r h1
    rw [decide_eq_false (hne r h1), Bool.false_or] at h3
    rw [h3] at h2
    cases h2
theorem wrN_lt {b : Nat → Int32} (hR : WR b) {c : Nat} : wrN b c < 64 := setN_lt hR.n.2
theorem k_lone_eq {m : M} {b : Nat → Int32} (hK : KB m b) (hR : WR b) (hP : KP m b) (y : Int32) : k_lone y m = some (loneV b y) := by
  unfold k_lone loneV
  rw [k_within_eq, Option.bind_some]
  by_cases h : 0 ≤ y ∧ y ≤ 3
  · rw [if_pos h, if_pos h, if_neg (by decide)]
    generalize hP2 : fitB b (-1) = P
    unfold k_lone_20
    have hm1 : ∀ n : Nat, nI n + -1 = nI n - 1 := fun n => (Int32.sub_eq_add_neg _ _).symm
    have := iter_seq (body := fun z : Int32 × Int32 × Int32 => k_lone_20b y z.1 z.2.1 z.2.2 m) (fun i => (nI (cntU P (500 - i) i), nI (lowU P (500 - i) i), nI (500 - i) - 1)) (r := (nI (cntU P 0 500), nI (lowU P 0 500))) 500 (fun i hi => by
      obtain ⟨e, he⟩ : ∃ e, 500 - i = e + 1 := ⟨500 - i - 1, by omega⟩
      have he2 : 500 - (i + 1) = e := by omega
      show k_lone_20b y (nI (cntU P (500 - i) i)) (nI (lowU P (500 - i) i)) (nI (500 - i) - 1) m = some (.inl (nI (cntU P (500 - (i + 1)) (i + 1)), nI (lowU P (500 - (i + 1)) (i + 1)), nI (500 - (i + 1)) - 1))
      rw [he, he2, nI_pred]
      have hc : cntU P e (i + 1) = (if P e then 1 else 0) + cntU P (e + 1) i := rfl
      have hl : lowU P e (i + 1) = if P e then e else lowU P (e + 1) i := rfl
      rw [hc, hl]
      unfold k_lone_20b k_lone_40
      rw [if_neg (nI_pos (by omega)), k_wrong_eq hK hR hP (show e < 500 by omega)]
      simp only [Option.bind_some]
      rw [ltE, ltE, ltE, nI_1, hm1]
      have hz := wr0_iff (c := e) hR
      rw [hP2] at hz
      by_cases c1 : P e = true
      · rw [hz.mpr c1, if_pos (by decide), if_pos c1, if_pos c1, Nat.add_comm]
      · have h0 : wrN b e ≠ 0 := fun q => c1 (hz.mp q)
        have := wrN_lt hR (c := e)
        rw [if_neg (nI_ne0 (by omega) (by omega)), if_neg c1, if_neg c1, Nat.zero_add]) (by
      show k_lone_20b y (nI (cntU P (500 - 500) 500)) (nI (lowU P (500 - 500) 500)) (nI (500 - 500) - 1) m = _
      unfold k_lone_20b
      rw [if_pos (by decide)]) (by decide)
    rw [show ((0 : Int32), (0 : Int32), (499 : Int32)) = (fun i => (nI (cntU P (500 - i) i), nI (lowU P (500 - i) i), nI (500 - i) - 1)) 0 from by
      show _ = (nI 0, nI 0, nI 500 - 1)
      decide, this]
    simp only [Option.bind_some, k_kindOfLone, k_greedOfLone, k_lightOfLone]
    have hle := cntU_le (P := P) 500 0
    by_cases e0 : y = 0
    · rw [if_pos e0, if_pos e0]
    · rw [if_neg e0, if_neg e0]
      by_cases e1 : cntU P 0 500 = 0
      · rw [e1, if_pos (by decide), if_pos rfl]
      · rw [if_neg (nI_ne0 (by omega) (by omega)), if_neg e1]
        have hlow : lowU P 0 500 < 500 := by
          rcases lowU_lt (P := P) 500 0 (by omega) with h | h
          · exact h
          · omega
        obtain ⟨d1, d2, d3⟩ := div_c hlow
        rw [Int32.add_comm, d1, d2, d3]
        by_cases c1 : y = 1
        · rw [if_pos c1, if_pos c1]
        · rw [if_neg c1, if_neg c1]
          by_cases c2 : y = 2
          · rw [if_pos c2, if_pos c2]
          · rw [if_neg c2, if_neg c2]
  · rw [if_neg h, if_neg h, if_pos rfl]
theorem pop_tab : ∀ s, s < 64 → i_bitCount (nI s) (fun _ _ => 0) = some (nI (popN s 6)) ∧ popN s 6 ≤ 6 := by decide +kernel
theorem i_bitCount_eq {m : M} {s : Nat} (h : s < 64) : i_bitCount (nI s) m = some (nI (popN s 6)) := (pop_tab s h).1
theorem one_tab : ∀ s, s < 64 → ∀ r, r < 6 → ((popN s 6 = 1 ∧ s / 2 ^ r % 2 = 1) ↔ (s ≠ 0 ∧ ∀ q, q < 6 → q ≠ r → s / 2 ^ q % 2 = 0)) := by decide +kernel
def accN (b : Nat → Int32) (n : Nat) : Nat := foldN (fun c s => if popN (wrN b c) 6 = 1 then s ||| wrN b c else s) n 0
theorem accN_lt {b : Nat → Int32} (hR : WR b) {n : Nat} : accN b n < 64 := foldN_inv (fun s => s < 64) (by decide) (fun c x _ hx => by
  show (if popN (wrN b c) 6 = 1 then x ||| wrN b c else x) < 64
  split
  · exact or64 hx (wrN_lt hR)
  · exact hx)
theorem inS_accN {b : Nat → Int32} {n r : Nat} : inS (accN b n) r = true ↔ ∃ c, c < n ∧ popN (wrN b c) 6 = 1 ∧ inS (wrN b c) r = true := by
  induction n with
  | zero => rw [show accN b 0 = 0 from rfl, inS_0]; simp
  | succ n ih =>
    show inS (if popN (wrN b n) 6 = 1 then accN b n ||| wrN b n else accN b n) r = true ↔ _
    by_cases e : popN (wrN b n) 6 = 1
    · rw [if_pos e, inS_or2, Bool.or_eq_true, ih]
      constructor
      · rintro (⟨c, h1, h2⟩ | h)
        · exact ⟨c, by omega, h2⟩
        · exact ⟨n, by omega, e, h⟩
      · rintro ⟨c, h1, h2⟩
        by_cases q : c = n
        · subst q; exact Or.inr h2.2
        · exact Or.inl ⟨c, by omega, h2⟩
    · rw [if_neg e, ih]
      constructor
      · rintro ⟨c, h1, h2⟩; exact ⟨c, by omega, h2⟩
      · rintro ⟨c, h1, h2⟩
        by_cases q : c = n
        · subst q; exact absurd h2.1 e
        · exact ⟨c, by omega, h2⟩
def liarV (b : Nat → Int32) : Int32 := if cntU (fitB b (-1)) 0 500 = 0 then (if firstT (fun r => inS (accN b 500) r) 6 0 = 0 then -3 else nI (firstT (fun r => inS (accN b 500) r) 6 0) - 1) else -3
theorem k_liar_eq {m : M} {b : Nat → Int32} (hK : KB m b) (hR : WR b) (hP : KP m b) : k_liar m = some (liarV b) := by
  unfold k_liar k_liar_4 liarV
  have hbody : ∀ c, c < 500 → ∀ a, k_liar_4b a (nI c) m = (if wrN b c = 0 then some (.inr (.inr ())) else if popN (wrN b c) 6 = 1 then some (.inl (a ||| nI (wrN b c), nI (c + 1))) else some (.inl (a, nI (c + 1)))) := fun c hc a => by
    unfold k_liar_4b k_liar_36
    rw [if_neg (show ¬ (500 : Int32) ≤ nI c from nI_ge (a := c) (b := 500) hc (by decide)), k_wrong_eq hK hR hP hc]
    simp only [Option.bind_some]
    rw [i_bitCount_eq (wrN_lt hR)]
    simp only [Option.bind_some]
    rw [ltE, ltE, ltE, nI_1]
    have := wrN_lt hR (c := c)
    by_cases e : wrN b c = 0
    · rw [e, if_pos (by decide), if_pos rfl]
    · rw [if_neg (nI_ne0 (by omega) (by omega)), if_neg e]
      have h6 := (pop_tab _ this).2
      by_cases e2 : popN (wrN b c) 6 = 1
      · rw [e2, if_pos (by decide), if_pos rfl]
      · rw [if_neg (show ¬ nI (popN (wrN b c) 6) = 1 from fun q => e2 ((nI_eq (b := 1) (by omega) (by decide)).mp q)), if_neg e2]
  have key : ∀ (d c : Nat), c + d = 500 → (∀ i, i < c → wrN b i ≠ 0) → ∃ z : Int32 ⊕ Unit, (∀ F, d < F → iter (fun z : Int32 × Int32 => k_liar_4b z.1 z.2 m) F (nI (accN b c), nI c) = some z) ∧ ((cntU (fitB b (-1)) 0 500 = 0 ∧ z = .inl (nI (accN b 500))) ∨ (cntU (fitB b (-1)) 0 500 ≠ 0 ∧ z = .inr ())) := by
    intro d
    induction d with
    | zero =>
      intro c hc hw
      have hc5 : c = 500 := by omega
      subst hc5
      refine ⟨.inl (nI (accN b 500)), fun F hF => ?_, Or.inl ⟨?_, rfl⟩⟩
      · obtain ⟨F', rfl⟩ : ∃ F', F = F' + 1 := ⟨F - 1, by omega⟩
        show (k_liar_4b (nI (accN b 500)) (nI 500) m).bind _ = _
        unfold k_liar_4b
        rw [if_pos (by decide)]; rfl
      · by_cases e : cntU (fitB b (-1)) 0 500 = 0
        · exact e
        · obtain ⟨i, _, h2, h3⟩ := (cntU_pos (P := fitB b (-1)) 500 0).mp (by omega)
          exact absurd ((wr0_iff hR).mpr h3) (hw i (by omega))
    | succ d ih =>
      intro c hc hw
      by_cases e : wrN b c = 0
      · refine ⟨.inr (), fun F hF => ?_, Or.inr ⟨?_, rfl⟩⟩
        · obtain ⟨F', rfl⟩ : ∃ F', F = F' + 1 := ⟨F - 1, by omega⟩
          show (k_liar_4b (nI (accN b c)) (nI c) m).bind _ = _
          rw [hbody c (by omega), if_pos e]; rfl
        · have := (cntU_pos (P := fitB b (-1)) 500 0).mpr ⟨c, by omega, by omega, (wr0_iff hR).mp e⟩
          omega
      · obtain ⟨z, hz, hv⟩ := ih (c + 1) (by omega) (fun i hi => by
          by_cases q : i = c
          · subst q; exact e
          · exact hw i (by omega))
        refine ⟨z, fun F hF => ?_, hv⟩
        obtain ⟨F', rfl⟩ : ∃ F', F = F' + 1 := ⟨F - 1, by omega⟩
        show (k_liar_4b (nI (accN b c)) (nI c) m).bind _ = _
        rw [hbody c (by omega), if_neg e]
        have ha : accN b (c + 1) = if popN (wrN b c) 6 = 1 then accN b c ||| wrN b c else accN b c := rfl
        have hz' := hz F' (by omega)
        rw [ha] at hz'
        by_cases e2 : popN (wrN b c) 6 = 1
        · rw [if_pos e2] at hz' ⊢
          rw [or2_dec _ (accN_lt hR) _ (wrN_lt hR)]
          exact hz'
        · rw [if_neg e2] at hz' ⊢
          exact hz'
  obtain ⟨z, hz, hv⟩ := key 500 0 (by omega) (fun i hi => by omega)
  have := hz FU (by decide)
  rw [show ((0 : Int32), (0 : Int32)) = (nI (accN b 0), nI 0) from rfl, this]
  simp only [Option.bind_some]
  rcases hv with ⟨h1, h2⟩ | ⟨h1, h2⟩
  · rw [h2, if_pos h1]
    show k_liar_44 (nI (accN b 500)) 0 m = _
    unfold k_liar_44
    generalize hA : accN b 500 = A
    have hA64 : A < 64 := by rw [← hA]; exact accN_lt hR
    have key2 : ∀ (d r : Nat), r + d = 6 → ∃ z : Unit ⊕ Int32, (∀ F, d < F → iter (fun z : Int32 => k_liar_44b (nI A) z m) F (nI r) = some z) ∧ (match z with
        | .inl _ => some (-3 : Int32)
        | .inr r => some r) = some (if firstT (fun r => inS A r) d r = 0 then -3 else nI (firstT (fun r => inS A r) d r) - 1) := by
      intro d
      induction d with
      | zero =>
        intro r hr
        have hr6 : r = 6 := by omega
        subst hr6
        refine ⟨.inl (), fun F hF => ?_, rfl⟩
        obtain ⟨F', rfl⟩ : ∃ F', F = F' + 1 := ⟨F - 1, by omega⟩
        show (k_liar_44b (nI A) (nI 6) m).bind _ = _
        unfold k_liar_44b
        rw [if_pos (by decide)]; rfl
      | succ d ih =>
        intro r hr
        have hbody2 : k_liar_44b (nI A) (nI r) m = (if inS A r = true then some (.inr (.inr (nI r))) else some (.inl (nI (r + 1)))) := by
          unfold k_liar_44b
          rw [if_neg (show ¬ (6 : Int32) ≤ nI r from nI_ge (a := r) (b := 6) (by omega) (by decide)), k_isIn_nI hA64 (by omega)]
          simp only [Option.bind_some]
          rw [ltE, nI_1, inS_mod]
          rcases mod2 (A / 2 ^ r) with e | e
          · rw [e, if_pos (by decide)]; rfl
          · rw [e, if_neg (by decide)]; rfl
        have hf : firstT (fun r => inS A r) (d + 1) r = if inS A r then r + 1 else firstT (fun r => inS A r) d (r + 1) := rfl
        by_cases e : inS A r = true
        · refine ⟨.inr (nI r), fun F hF => ?_, ?_⟩
          · obtain ⟨F', rfl⟩ : ∃ F', F = F' + 1 := ⟨F - 1, by omega⟩
            show (k_liar_44b (nI A) (nI r) m).bind _ = _
            rw [hbody2, if_pos e]; rfl
          · rw [hf, if_pos e, if_neg (by omega), nI_pred]
        · obtain ⟨z, hz, hv⟩ := ih (r + 1) (by omega)
          refine ⟨z, fun F hF => ?_, ?_⟩
          · obtain ⟨F', rfl⟩ : ∃ F', F = F' + 1 := ⟨F - 1, by omega⟩
            show (k_liar_44b (nI A) (nI r) m).bind _ = _
            rw [hbody2, if_neg e]
            exact hz F' (by omega)
          · rw [hv, hf, if_neg e]
    obtain ⟨z2, hz2, hv2⟩ := key2 6 0 (by omega)
    have h3 := hz2 FU (by decide)
    rw [nI_0] at h3
    rw [h3]
    exact hv2
  · rw [h2, if_neg h1]
theorem firstT_ext {P Q : Nat → Bool} : ∀ (d e k : Nat), (∀ r, k ≤ r → r < k + d → P r = Q r) → (∀ r, k + d ≤ r → r < k + d + e → P r = false) → firstT P (d + e) k = firstT Q d k
  | 0, 0, k, _, _ => rfl
  | 0, e + 1, k, h1, h2 => by
    rw [Nat.zero_add]
    show (if P k then k + 1 else firstT P e (k + 1)) = 0
    rw [h2 k (by omega) (by omega), if_neg (by decide)]
    have := firstT_ext (P := P) (Q := Q) 0 e (k + 1) (fun r h3 h4 => by omega) (fun r h3 h4 => h2 r (by omega) (by omega))
    rw [Nat.zero_add] at this
    exact this
  | d + 1, e, k, h1, h2 => by
    rw [Nat.add_right_comm]
    show (if P k then k + 1 else firstT P (d + e) (k + 1)) = (if Q k then k + 1 else firstT Q d (k + 1))
    rw [h1 k (by omega) (by omega), firstT_ext (P := P) (Q := Q) d e (k + 1) (fun r h3 h4 => h1 r (by omega) (by omega)) (fun r h3 h4 => h2 r (by omega) (by omega))]
theorem liar_bit {b : Nat → Int32} (hR : WR b) (h0 : cntU (fitB b (-1)) 0 500 = 0) {r : Nat} (hr : r < repN b) : inS (accN b 500) r = decide (0 < cntU (fitB b (nI r)) 0 500) := by
  have h6 := hR.n.2
  apply Bool.eq_iff_iff.mpr
  rw [inS_accN, decide_eq_true_eq, cntU_pos]
  have hne : ∀ c, c < 500 → wrN b c ≠ 0 := fun c hc q => by
    have := (cntU_pos (P := fitB b (-1)) 500 0).mpr ⟨c, by omega, by omega, (wr0_iff hR).mp q⟩
    omega
  have hfit : ∀ c, c < 500 → (fitB b (nI r) c = true ↔ (popN (wrN b c) 6 = 1 ∧ inS (wrN b c) r = true)) := fun c hc => by
    rw [inS_mod, decide_eq_true_eq, one_tab _ (wrN_lt hR) r (by omega)]
    constructor
    · intro h
      refine ⟨hne c hc, fun q hq hqr => ?_⟩
      by_cases e : wrN b c / 2 ^ q % 2 = 0
      · exact e
      · have e1 : wrN b c / 2 ^ q % 2 = 1 := by omega
        have : inS (wrN b c) q = true := by rw [inS_mod]; exact decide_eq_true e1
        obtain ⟨h1, h2⟩ := inS_setN.mp this
        have h3 : (decide (nI q = nI r) || soC b c q) = true := allN_iff.mp h q h1
        rw [decide_eq_false (fun w => hqr ((nI_eq (by omega) (by omega)).mp w)), Bool.false_or] at h3
        rw [h3] at h2; cases h2
    · rintro ⟨h1, h2⟩
      refine allN_iff.mpr fun q hq => ?_
      show (decide (nI q = nI r) || soC b c q) = true
      by_cases e : q = r
      · subst e; rw [decide_eq_true rfl]; rfl
      · by_cases e2 : soC b c q = true
        · rw [e2, Bool.or_true]
        · have h3 : inS (wrN b c) q = true := inS_setN.mpr ⟨hq, by rw [Bool.eq_false_iff.mpr e2]; rfl⟩
          rw [inS_mod, h2 q (by omega) e] at h3
          cases h3
  constructor
  · rintro ⟨c, h1, h2⟩
    exact ⟨c, by omega, by omega, (hfit c h1).mpr h2⟩
  · rintro ⟨c, _, h1, h2⟩
    exact ⟨c, by omega, (hfit c (by omega)).mp h2⟩
theorem r_liar_eq {m : M} {b : Nat → Int32} (hR : WR b) (hb : m 77 = b) : ∃ m1, r_liar m = some (liarV b, m1) ∧ SQ m m1 := by
  obtain ⟨h1, h2⟩ := hR.n
  unfold r_liar liarV
  obtain ⟨m1, g1, g2, g3⟩ := r_fitting_eq hR hb (-1)
  rw [g1]
  simp only [Option.bind_some]
  have hle := cntU_le (P := fitB b (-1)) 500 0
  by_cases e : cntU (fitB b (-1)) 0 500 = 0
  · rw [if_pos e, e, if_pos (by decide)]
    unfold r_liar_13
    have key : ∀ (d r : Nat) (mi : M), r + d = repN b → mi 77 = b → ∃ m', Q8 mi m' ∧ ∃ z : M ⊕ (Int32 × M), (∀ F, d < F → iter (fun z : Int32 × M => r_liar_13b z.1 z.2) F (nI r, mi) = some z) ∧ (match z with
        | .inl r => some ((-3 : Int32), r)
        | .inr r => some (r.1, r.2)) = some (if firstT (fun r => decide (0 < cntU (fitB b (nI r)) 0 500)) d r = 0 then -3 else nI (firstT (fun r => decide (0 < cntU (fitB b (nI r)) 0 500)) d r) - 1, m') := by
      intro d
      induction d with
      | zero =>
        intro r mi hr hbi
        refine ⟨mi, Q8.rfl, .inl mi, fun F hF => ?_, rfl⟩
        obtain ⟨F', rfl⟩ : ∃ F', F = F' + 1 := ⟨F - 1, by omega⟩
        show (r_liar_13b (nI r) mi).bind _ = _
        unfold r_liar_13b
        rw [rd77_8, hbi, h1]
        simp only [Option.bind_some]
        rw [show repN b = r by omega, if_pos (Int32.le_refl _)]; rfl
      | succ d ih =>
        intro r mi hr hbi
        obtain ⟨m2, f1, f2, f3⟩ := r_fitting_eq hR hbi (nI r)
        have hle2 := cntU_le (P := fitB b (nI r)) 500 0
        have hbody : r_liar_13b (nI r) mi = (if 0 < cntU (fitB b (nI r)) 0 500 then some (.inr (.inr (nI r, m2))) else some (.inl (nI (r + 1), m2))) := by
          unfold r_liar_13b
          rw [rd77_8, hbi, h1]
          simp only [Option.bind_some]
          rw [if_neg (nI_ge (show r < repN b by omega) (by omega)), f1]
          simp only [Option.bind_some]
          rw [ltE, nI_1]
          by_cases c : 0 < cntU (fitB b (nI r)) 0 500
          · rw [if_neg (nI_nle c (by omega)), if_pos c]
          · rw [if_neg c, show cntU (fitB b (nI r)) 0 500 = 0 by omega, if_pos (by decide)]
        have hf : firstT (fun r => decide (0 < cntU (fitB b (nI r)) 0 500)) (d + 1) r = if decide (0 < cntU (fitB b (nI r)) 0 500) then r + 1 else firstT (fun r => decide (0 < cntU (fitB b (nI r)) 0 500)) d (r + 1) := rfl
        by_cases c : 0 < cntU (fitB b (nI r)) 0 500
        · refine ⟨m2, f2, .inr (nI r, m2), fun F hF => ?_, ?_⟩
          · obtain ⟨F', rfl⟩ : ∃ F', F = F' + 1 := ⟨F - 1, by omega⟩
            show (r_liar_13b (nI r) mi).bind _ = _
            rw [hbody, if_pos c]; rfl
          · rw [hf, if_pos (decide_eq_true c), if_neg (by omega), nI_pred]
        · obtain ⟨m', q1, z, hz, hv⟩ := ih (r + 1) m2 (by omega) (f2.r77.trans hbi)
          refine ⟨m', f2.trans q1, z, fun F hF => ?_, ?_⟩
          · obtain ⟨F', rfl⟩ : ∃ F', F = F' + 1 := ⟨F - 1, by omega⟩
            show (r_liar_13b (nI r) mi).bind _ = _
            rw [hbody, if_neg c]
            exact hz F' (by omega)
          · rw [hv, hf, if_neg (show ¬ decide (0 < cntU (fitB b (nI r)) 0 500) = true by rw [decide_eq_false c]; decide)]
    obtain ⟨m', q1, z, hz, hv⟩ := key (repN b) 0 m1 (by omega) (g2.r77.trans hb)
    refine ⟨m', ?_, (g2.trans q1).SQ⟩
    have := hz FU (by show repN b < 4000; omega)
    rw [nI_0] at this
    rw [this]
    simp only [Option.bind_some]
    have hx : firstT (fun r => inS (accN b 500) r) 6 0 = firstT (fun r => decide (0 < cntU (fitB b (nI r)) 0 500)) (repN b) 0 := by
      rw [show 6 = repN b + (6 - repN b) by omega]
      refine firstT_ext _ _ 0 (fun r _ hr => liar_bit hR e (by omega)) (fun r hr1 hr2 => ?_)
      apply Bool.eq_false_iff.mpr
      intro q
      obtain ⟨c, _, _, hc⟩ := inS_accN.mp q
      have := (inS_setN.mp hc).1
      omega
    rw [hx]
    exact hv
  · rw [if_neg e, if_neg (nI_nle (by omega) (by omega))]
    exact ⟨m1, rfl, g2.SQ⟩
