/-! acts by a sheet -/
/-- is there an item at the place, k further -/
def vdB (n : Nat) (y : Int32) (k : Nat) : Bool := decide (∃ a, a < 2 ^ 31 ∧ y = nI a ∧ a + k < n)
theorem vd_iff {n : Nat} {y : Int32} {k : Nat} : vdB n y k = true ↔ ∃ a, a < 2 ^ 31 ∧ y = nI a ∧ a + k < n := by
  unfold vdB
  rw [decide_eq_true_eq]
theorem r_isItem_eq {m : M} {i n k : Nat} {y : Int32} (hi : i < 4) (h92 : m 92 i = nI n) (hn : n ≤ 40) (hk : k ≤ 20) : r_isItem (nI i) y (nI k) m = some (b01 (vdB n y k)) := by
  unfold r_isItem
  rw [rd4 (p := 92) (by omega) hi, h92, Option.bind_some]
  by_cases c : y < 0
  · rw [if_pos c]
    have : vdB n y k = false := by
      apply Bool.eq_false_iff.mpr
      intro q
      obtain ⟨a, a1, a2, a3⟩ := vd_iff.mp q
      rw [a2] at c
      exact nI_pos a1 c
    rw [this]; rfl
  · rw [if_neg c]
    obtain ⟨a, ha, rfl⟩ := nI_of c
    by_cases c2 : a + k < n
    · have h1 : ¬ nI n - nI k ≤ nI a := by
        rw [Int32.le_iff_toInt_le, pk_sub_toInt (by omega) (by omega), nI_toInt ha]
        omega
      rw [if_neg h1, vd_iff.mpr ⟨a, ha, rfl, c2⟩]; rfl
    · have h1 : nI n - nI k ≤ nI a := by
        rw [Int32.le_iff_toInt_le, pk_sub_toInt (by omega) (by omega), nI_toInt ha]
        omega
      have : vdB n (nI a) k = false := by
        apply Bool.eq_false_iff.mpr
        intro q
        obtain ⟨a', a1, a2, a3⟩ := vd_iff.mp q
        have := (nI_eq ha a1).mp a2
        omega
      rw [if_pos h1, this]; rfl
theorem k_isItem_eq {m : M} {i n k : Nat} {y : Int32} (hi : i < 4) (h61 : m 61 i = nI n) (hn : n ≤ 40) (hk : k ≤ 20) (hprev : k = 0 ∨ vdB n y (k - 1) = true) : k_isPlace (nI i) (y + nI k) m = some (b01 (vdB n y k)) := by
  rw [isPlace_eq hi h61]
  refine congrArg (fun q => some (b01 q)) ?_
  rcases hprev with rfl | hp
  · rw [nI_0, Int32.add_zero]
    by_cases c : 0 ≤ y ∧ y ≤ nI n - 1
    · obtain ⟨a, ha, rfl⟩ := (in_nat (by omega)).mp c
      rw [decide_eq_true c, vd_iff.mpr ⟨a, by omega, rfl, by omega⟩]
    · rw [decide_eq_false c]
      symm
      apply Bool.eq_false_iff.mpr
      intro q
      obtain ⟨a, a1, a2, a3⟩ := vd_iff.mp q
      exact c ((in_nat (by omega)).mpr ⟨a, by omega, a2⟩)
  · obtain ⟨a, a1, rfl, a3⟩ := vd_iff.mp hp
    rw [nI_add]
    by_cases c : a + k < n
    · rw [vd_iff.mpr ⟨a, a1, rfl, c⟩, decide_eq_true ((in_nat (by omega)).mpr ⟨a + k, c, rfl⟩)]
    · have h1 : vdB n (nI a) k = false := by
        apply Bool.eq_false_iff.mpr
        intro q
        obtain ⟨a', b1, b2, b3⟩ := vd_iff.mp q
        have := (nI_eq a1 b1).mp b2
        omega
      rw [h1]
      apply decide_eq_false
      intro q
      obtain ⟨j, j1, j2⟩ := (in_nat (by omega)).mp q
      have := (nI_eq (by omega) (by omega)).mp j2
      omega
/-- what goes on: acc so far, the row -/
def gaF (rs : List Rl) (V : Nat → Int32) (n : Nat) (y : Int32) : Nat → Nat → Int32 → (Nat → Int32) → Int32 × (Nat → Int32)
  | 0, _, acc, b => (acc, b)
  | d + 1, k, acc, b => if vdB n y k then (if actB b (V k) = true ∧ ¬ leftB b = 0 then gaF rs V n y d (k + 1) (acc + goW rs (V k).toNatClampNeg b) (goB rs (V k).toNatClampNeg b) else gaF rs V n y d (k + 1) acc b) else (-12, b)
theorem gaF_succ {rs : List Rl} {V : Nat → Int32} {n : Nat} {y : Int32} {d k : Nat} {acc : Int32} {b : Nat → Int32} : gaF rs V n y (d + 1) k acc b = (if vdB n y k then (if actB b (V k) = true ∧ ¬ leftB b = 0 then gaF rs V n y d (k + 1) (acc + goW rs (V k).toNatClampNeg b) (goB rs (V k).toNatClampNeg b) else gaF rs V n y d (k + 1) acc b) else (-12, b)) := rfl
theorem k_goAll_run {rs : List Rl} {V : Nat → Int32} {n i c : Nat} {y : Int32} (hi : i < 4) (hn : n ≤ 40) (hc : c ≤ 20) {m0 : M} (h61 : m0 61 i = nI n) (hV : ∀ k, k < c → ∀ a, y = nI a → a + k < n → m0 (56 + i) (a + k) = V k) : ∀ (d k : Nat) {b : Nat → Int32} {m : M} {acc : Int32}, k + d = c → (k = 0 ∨ vdB n y (k - 1) = true) → WF b → KR m rs → KB m b → m 1 4 = b 2 → (∀ p q, p ≠ 1 → p ≠ 11 → m p q = m0 p q) → ∃ m' : M, (∃ z : (Int32 × M) ⊕ M, (∀ F, d < F → iter (fun z : Int32 × Int32 × M => k_goAll_42b (nI i) y (nI c) z.1 z.2.1 z.2.2) F (acc, nI k, m) = some z) ∧ (match z with
    | .inl r => some (r.1, r.2)
    | .inr r => some ((-12 : Int32), r)) = some ((gaF rs V n y d k acc b).1, m')) ∧ KB m' (gaF rs V n y d k acc b).2 ∧ WF (gaF rs V n y d k acc b).2 ∧ NB b (gaF rs V n y d k acc b).2 ∧ m' 1 4 = (gaF rs V n y d k acc b).2 2 ∧ (∀ p q, p ≠ 1 → p ≠ 11 → m' p q = m0 p q) := by
  intro d
  induction d with
  | zero =>
    intro k b m acc hk hp hW hR hK h14 hq
    refine ⟨m, ⟨.inl (acc, m), fun F hF => ?_, rfl⟩, hK, hW, NB.rfl, h14, hq⟩
    obtain ⟨F', rfl⟩ : ∃ F', F = F' + 1 := ⟨F - 1, by omega⟩
    show (k_goAll_42b (nI i) y (nI c) acc (nI k) m).bind _ = _
    unfold k_goAll_42b
    rw [show c = k by omega, if_pos (Int32.le_refl _)]; rfl
  | succ d ih =>
    intro k b m acc hk hp hW hR hK h14 hq
    have hkc : k < c := by omega
    have hplace := k_isItem_eq (m := m) (y := y) hi (by rw [hq 61 i (by decide) (by decide)]; exact h61) hn (show k ≤ 20 by omega) hp
    by_cases cv : vdB n y k = true
    · obtain ⟨a, a1, a2, a3⟩ := vd_iff.mp cv
      have hval : rdI m (56 + i) (y + nI k) = some (V k) := by
        rw [a2, nI_add, rdI_at (by rw [len56 hi]; omega) (by rw [len56 hi]; decide), hq (56 + i) _ (by omega) (by omega), hV k hkc a a2 a3]
      have hhead : k_goAll_42b (nI i) y (nI c) acc (nI k) m = (if b01 (actB b (V k)) = 0 then k_goAll_137 (nI i) y (nI c) acc (nI k) m else Option.bind (b_isOver m) (fun v5 => (if v5 = 0 then Option.bind (b_count m) (fun v6 => Option.bind (b_goesBy (V k) v6 m) (fun z7 => lt (wrF z7.2 1 4 ((z7.2 1 4) + z7.1)) (fun m8 => lt (acc + z7.1) (fun w9 : Int32 => k_goAll_137 (nI i) y (nI c) w9 (nI k) m8)))) else k_goAll_137 (nI i) y (nI c) acc (nI k) m))) := by
        unfold k_goAll_42b
        rw [if_neg (nI_ge hkc (by omega)), hplace, cv, Option.bind_some, b01_t, sheets_at hi, Option.bind_some, hval, Option.bind_some, b_isAct_eq hK, Option.bind_some]
      by_cases cc : actB b (V k) = true ∧ ¬ leftB b = 0
      · obtain ⟨x, hx, ex⟩ := actB_iff hW cc.1
        have hclamp : (V k).toNatClampNeg = x := by rw [ex, nI_clamp (by have := hW.manyN.2; omega)]
        have hl : 0 < leftB b := by omega
        obtain ⟨m1, f1, f2, f3, f4⟩ := b_goesBy_eq (rs := rs) (a := x) hK hW hR hx
        obtain ⟨o1, o2⟩ := f3.off
        obtain ⟨m8, hm8⟩ : ∃ m8, m8 = wrF m1 1 4 (m1 1 4 + goW rs x b) := ⟨_, rfl⟩
        have hK8 : KB m8 (goB rs x b) := by rw [hm8]; exact f2.w18 (by omega)
        have hq8 : ∀ p q, p ≠ 1 → p ≠ 11 → m8 p q = m0 p q := fun p q x1 x2 => by rw [hm8, wrF_ne x1, o1 p q x1 x2, hq p q x1 x2]
        have hR8 : KR m8 rs := by
          have e : ∀ p, p = 3 ∨ p = 26 ∨ p = 27 ∨ p = 28 ∨ p = 29 → m8 p = m p := fun p hp => funext fun q => by rw [hm8, wrF_ne (by omega), o1 p q (by omega) (by omega)]
          unfold KR at *
          rw [e 3 (by omega), e 26 (by omega), e 27 (by omega), e 28 (by omega), e 29 (by omega)]
          exact hR
        obtain ⟨m', ⟨z, z1, z2⟩, i2, i3, i4, i5, i6⟩ := ih (k + 1) (b := goB rs x b) (m := m8) (acc := acc + goW rs x b) (by omega) (Or.inr cv) (hW.go (over0 hW hl) rs hx) hR8 hK8 (by rw [hm8, wrF_at, o2, h14, go_score]) hq8
        rw [gaF_succ, if_pos cv, if_pos cc, hclamp]
        refine ⟨m', ⟨z, fun F hF => ?_, z2⟩, i2, i3, (NB_go (by have := hW.manyN.2; omega)).trans i4, i5, i6⟩
        obtain ⟨F', rfl⟩ : ∃ F', F = F' + 1 := ⟨F - 1, by omega⟩
        show (k_goAll_42b (nI i) y (nI c) acc (nI k) m).bind _ = _
        have hbody : k_goAll_42b (nI i) y (nI c) acc (nI k) m = some (.inl (acc + goW rs x b, nI (k + 1), m8)) := by
          rw [hhead, cc.1, b01_t, isOverK hK hW, if_neg cc.2, Option.bind_some, if_pos rfl, b_count_eq hK hW, Option.bind_some, ex, f1, Option.bind_some, ltE, ltE, hm8]
          unfold k_goAll_137
          rw [ltE, nI_1]
        rw [hbody]
        exact z1 F' (by omega)
      · obtain ⟨m', ⟨z, z1, z2⟩, i2, i3, i4, i5, i6⟩ := ih (k + 1) (b := b) (m := m) (acc := acc) (by omega) (Or.inr cv) hW hR hK h14 hq
        rw [gaF_succ, if_pos cv, if_neg cc]
        refine ⟨m', ⟨z, fun F hF => ?_, z2⟩, i2, i3, i4, i5, i6⟩
        obtain ⟨F', rfl⟩ : ∃ F', F = F' + 1 := ⟨F - 1, by omega⟩
        show (k_goAll_42b (nI i) y (nI c) acc (nI k) m).bind _ = _
        have hbody : k_goAll_42b (nI i) y (nI c) acc (nI k) m = some (.inl (acc, nI (k + 1), m)) := by
          have h137 : k_goAll_137 (nI i) y (nI c) acc (nI k) m = some (.inl (acc, nI (k + 1), m)) := by
            unfold k_goAll_137
            rw [ltE, nI_1]
          rw [hhead, h137]
          by_cases c1 : actB b (V k) = true
          · rw [c1, b01_t, isOverK hK hW, if_pos (show leftB b = 0 from Classical.byContradiction fun q => cc ⟨c1, q⟩), Option.bind_some, if_neg one_ne]
          · rw [Bool.eq_false_iff.mpr c1, b01_f]
        rw [hbody]
        exact z1 F' (by omega)
    · rw [gaF_succ, if_neg cv]
      refine ⟨m, ⟨.inr m, fun F hF => ?_, rfl⟩, hK, hW, NB.rfl, h14, hq⟩
      obtain ⟨F', rfl⟩ : ∃ F', F = F' + 1 := ⟨F - 1, by omega⟩
      show (k_goAll_42b (nI i) y (nI c) acc (nI k) m).bind _ = _
      unfold k_goAll_42b
      rw [if_neg (nI_ge hkc (by omega)), hplace, Bool.eq_false_iff.mpr cv, Option.bind_some, b01_f]; rfl
theorem r_goAll_run {rs : List Rl} {V : Nat → Int32} {n i c : Nat} {y : Int32} (hi : i < 4) (hn : n ≤ 40) (hc : c ≤ 20) {m0 : M} (h92 : m0 92 i = nI n) (hV : ∀ k, k < c → ∀ a, y = nI a → a + k < n → m0 93 (40 * i + (a + k)) = V k) : ∀ (d k : Nat) {b : Nat → Int32} {m : M} {acc : Int32}, k + d = c → WF b → RR b rs → m 77 = b → E76 m0 m → ∃ m' : M, (∃ z : (Int32 × M) ⊕ M, (∀ F, d < F → iter (fun z : Int32 × Int32 × M => r_goAll_41b (nI i) y (nI c) z.1 z.2.1 z.2.2) F (acc, nI k, m) = some z) ∧ (match z with
    | .inl r => some (r.1, r.2)
    | .inr r => some ((-12 : Int32), r)) = some ((gaF rs V n y d k acc b).1, m')) ∧ m' 77 = (gaF rs V n y d k acc b).2 ∧ E76 m0 m' := by
  intro d
  induction d with
  | zero =>
    intro k b m acc hk hW hR hb hq
    refine ⟨m, ⟨.inl (acc, m), fun F hF => ?_, rfl⟩, hb, hq⟩
    obtain ⟨F', rfl⟩ : ∃ F', F = F' + 1 := ⟨F - 1, by omega⟩
    show (r_goAll_41b (nI i) y (nI c) acc (nI k) m).bind _ = _
    unfold r_goAll_41b
    rw [show c = k by omega, if_pos (Int32.le_refl _)]; rfl
  | succ d ih =>
    intro k b m acc hk hW hR hb hq
    have hkc : k < c := by omega
    have hplace := r_isItem_eq (m := m) (y := y) (k := k) hi (by rw [hq 92 i (by decide) (by decide) (by omega)]; exact h92) hn (by omega)
    have h105 : ∀ (w : Int32) (mm : M), r_goAll_105 (nI i) y (nI c) (nI k) acc w mm = some (.inl (acc + w, nI (k + 1), mm)) := fun w mm => by
      unfold r_goAll_105
      rw [ltE, ltE, nI_1]
    by_cases cv : vdB n y k = true
    · obtain ⟨a, a1, a2, a3⟩ := vd_iff.mp cv
      have hval : rdI m 93 (((40 * nI i) + y) + nI k) = some (V k) := by
        rw [a2, show (40 : Int32) = nI 40 from rfl, pk_mul, nI_add, nI_add, Nat.add_assoc, rdI_at (by rw [len93]; omega) (by rw [len93]; decide), hq 93 _ (by decide) (by decide) (by omega), hV k hkc a a2 a3]
      have hhead : r_goAll_41b (nI i) y (nI c) acc (nI k) m = (if b01 (actB b (V k)) = 0 then r_goAll_104 (nI i) y (nI c) (nI k) acc m else Option.bind (r_isOver m) (fun v4 => (if v4 = 0 then Option.bind (r_goesBy (V k) m) (fun z5 => r_goAll_105 (nI i) y (nI c) (nI k) acc z5.1 z5.2) else r_goAll_104 (nI i) y (nI c) (nI k) acc m))) := by
        unfold r_goAll_41b
        rw [if_neg (nI_ge hkc (by omega)), hplace, cv, Option.bind_some, b01_t, hval, Option.bind_some, r_isAct_eq hb, Option.bind_some]
      by_cases cc : actB b (V k) = true ∧ ¬ leftB b = 0
      · obtain ⟨x, hx, ex⟩ := actB_iff hW cc.1
        have hclamp : (V k).toNatClampNeg = x := by rw [ex, nI_clamp (by have := hW.manyN.2; omega)]
        have hl : 0 < leftB b := by omega
        obtain ⟨m1, f1, f2, f3, f4⟩ := r_goesBy_of (rs := rs) (a := x) hb hW hR hx
        obtain ⟨m', ⟨z, z1, z2⟩, i2, i3⟩ := ih (k + 1) (b := goB rs x b) (m := m1) (acc := acc + goW rs x b) (by omega) (hW.go (over0 hW hl) rs hx) ((NB_go (by have := hW.manyN.2; omega)).rr hR) f2 (hq.trans f3)
        rw [gaF_succ, if_pos cv, if_pos cc, hclamp]
        refine ⟨m', ⟨z, fun F hF => ?_, z2⟩, i2, i3⟩
        obtain ⟨F', rfl⟩ : ∃ F', F = F' + 1 := ⟨F - 1, by omega⟩
        show (r_goAll_41b (nI i) y (nI c) acc (nI k) m).bind _ = _
        have hbody : r_goAll_41b (nI i) y (nI c) acc (nI k) m = some (.inl (acc + goW rs x b, nI (k + 1), m1)) := by
          rw [hhead, cc.1, b01_t, isOverR hb hW, if_neg cc.2, Option.bind_some, if_pos rfl, ex, f1, Option.bind_some, h105]
        rw [hbody]
        exact z1 F' (by omega)
      · obtain ⟨m', ⟨z, z1, z2⟩, i2, i3⟩ := ih (k + 1) (b := b) (m := m) (acc := acc) (by omega) hW hR hb hq
        rw [gaF_succ, if_pos cv, if_neg cc]
        refine ⟨m', ⟨z, fun F hF => ?_, z2⟩, i2, i3⟩
        obtain ⟨F', rfl⟩ : ∃ F', F = F' + 1 := ⟨F - 1, by omega⟩
        show (r_goAll_41b (nI i) y (nI c) acc (nI k) m).bind _ = _
        have hbody : r_goAll_41b (nI i) y (nI c) acc (nI k) m = some (.inl (acc, nI (k + 1), m)) := by
          have h104 : r_goAll_104 (nI i) y (nI c) (nI k) acc m = some (.inl (acc, nI (k + 1), m)) := by
            unfold r_goAll_104
            rw [h105, Int32.add_zero]
          rw [hhead, h104]
          by_cases c1 : actB b (V k) = true
          · rw [c1, b01_t, isOverR hb hW, if_pos (show leftB b = 0 from Classical.byContradiction fun q => cc ⟨c1, q⟩), Option.bind_some, if_neg one_ne]
          · rw [Bool.eq_false_iff.mpr c1, b01_f]
        rw [hbody]
        exact z1 F' (by omega)
    · rw [gaF_succ, if_neg cv]
      refine ⟨m, ⟨.inr m, fun F hF => ?_, rfl⟩, hb, hq⟩
      obtain ⟨F', rfl⟩ : ∃ F', F = F' + 1 := ⟨F - 1, by omega⟩
      show (r_goAll_41b (nI i) y (nI c) acc (nI k) m).bind _ = _
      unfold r_goAll_41b
      rw [if_neg (nI_ge hkc (by omega)), hplace, Bool.eq_false_iff.mpr cv, Option.bind_some, b01_f]; rfl
theorem now_cells' {m m2 : M} {b' : Nat → Int32} {rs : List Rl} (hR : RR (m 77) rs) (hKR : KR m rs) (hWR : WR (m 77)) (hKP : KP m (m 77)) (hsc : m2 1 4 = b' 2) (hW' : WF b') (hK : KB m2 b') (hb2 : m2 77 = b') (hn : NB (m 77) b') (hf : ∀ p k, sc p k = false → p ≠ 1 → p ≠ 11 → p ≠ 77 → m2 p k = m p k) : NOW m2 ∧ Ch 1 m m2 := by
  have h7 := hn 7 (by decide) (by decide) (by decide) (by decide) (fun k hk => by omega)
  have h8 := hn 8 (by decide) (by decide) (by decide) (by decide) (fun k hk => by omega)
  have hhi := hn.hi
  have hrow : ∀ p, p = 3 ∨ p = 4 ∨ (26 ≤ p ∧ p ≤ 33) → m2 p = m p := fun p hp => funext fun k => hf p k (scp (by omega)) (by omega) (by omega) (by omega)
  refine ⟨⟨rs, ?_, ?_, ?_, ?_, ?_, ?_, ?_⟩, fun p k q1 q0 => ?_⟩
  · rw [hb2]; exact hW'
  · rw [hb2]; exact hK
  · rw [hb2]; exact hsc
  · rw [hb2]
    exact ⟨h7.trans hR.1, hR.2.congr (fun r _ => ⟨hhi _ (by omega), hhi _ (by omega), hhi _ (by omega)⟩) (fun j _ => hhi _ (by omega))⟩
  · unfold KR at *
    rw [hrow 3 (by omega), hrow 26 (by omega), hrow 27 (by omega), hrow 28 (by omega), hrow 29 (by omega)]
    exact hKR
  · rw [hb2]
    refine ⟨by rw [h8]; exact hWR.1, fun r hr hr2 => ?_⟩
    rw [hhi _ (by omega)]
    exact hWR.2 r hr (by unfold repN at *; rw [h8] at hr2; exact hr2)
  · rw [hb2]
    refine ⟨by rw [hrow 4 (by omega), h8]; exact hKP.1, fun r hr hr2 => ?_⟩
    rw [hrow 30 (by omega), hrow 31 (by omega), hrow 32 (by omega), hrow 33 (by omega), hhi _ (by omega), hhi _ (by omega), hhi _ (by omega), hhi _ (by omega)]
    exact hKP.2 r hr (by unfold repN at *; rw [h8] at hr2; exact hr2)
  · have hn := ne1 q1 q0
    exact hf p k (cl_sc q0) (by omega) (by omega) (by omega)
theorem in20 {y : Int32} (h : 0 ≤ y ∧ y ≤ 20) : ∃ c, c ≤ 20 ∧ y = nI c := (in_le (v := y) (n := 20) (by decide)).mp h
theorem ok_goAll {m : M} (hI : INV m) : OK_goAll INV m := fun x y v => by
  obtain ⟨rs, h1, h2, h3, h4, h5, h6, h7⟩ := hI.1
  have hS := hI.2.2.2.1
  by_cases c1 : ¬ (0 ≤ x ∧ x ≤ 3)
  · refine ⟨-1, m, m, ?_, ?_, hI⟩
    · unfold k_goAll; rw [wi_f c1, Option.bind_some, if_pos rfl]
    · unfold r_goAll; rw [isSheet_f c1, Option.bind_some, if_pos rfl]
  have c1 := Classical.not_not.mp c1
  have c1' := c1
  obtain ⟨i, hi, rfl⟩ := sheet_in.mp c1
  by_cases c2 : ¬ (0 ≤ v ∧ v ≤ 20)
  · refine ⟨-1, m, m, ?_, ?_, hI⟩
    · unfold k_goAll; rw [wi_t c1', Option.bind_some, if_neg one_ne, wi_f c2, Option.bind_some, if_pos rfl]
    · unfold r_goAll; rw [isSheet_t c1', Option.bind_some, if_neg one_ne, in1_f c2, Option.bind_some, if_pos rfl]
  have c2 := Classical.not_not.mp c2
  have c2' := c2
  obtain ⟨c, hc, rfl⟩ := in20 c2
  have hk : k_goAll (nI i) y (nI c) m = (if m 60 i = 0 then k_goAll_42 (nI i) y (nI c) 0 0 m else some (if m 60 i = -1 then -11 else -13, m)) := by
    unfold k_goAll k_isOfSort k_refusalAs
    rw [wi_t c1', Option.bind_some, if_neg one_ne, wi_t c2', Option.bind_some, if_neg one_ne, rd4 (p := 60) (by omega) hi, Option.bind_some]
    by_cases e : m 60 i = 0
    · rw [if_pos e, if_pos e, Option.bind_some, if_neg one_ne]
    · rw [if_neg e, if_neg e, Option.bind_some, if_pos rfl, Option.bind_some]
      split <;> rfl
  have hr : ∀ mm : M, mm 91 = m 91 → r_goAll (nI i) y (nI c) mm = (if 0 ≤ m 91 i then (if m 91 i = 0 then r_goAll_41 (nI i) y (nI c) 0 0 mm else some (-13, mm)) else some (-11, mm)) := fun mm e91 => by
    unfold r_goAll r_lacks
    rw [isSheet_t c1', Option.bind_some, if_neg one_ne, in1_t c2', Option.bind_some, if_neg one_ne, rd4 (p := 91) (by omega) hi, e91, Option.bind_some, Option.bind_some]
    by_cases e : 0 ≤ m 91 i
    · rw [if_pos e, if_pos e]
      by_cases e2 : m 91 i = 0
      · rw [if_pos e2, if_pos e2, Option.bind_some, if_pos rfl]
      · rw [if_neg e2, if_neg e2, Option.bind_some, if_neg (by decide)]
    · rw [if_neg e, if_neg e, Option.bind_some, if_neg (by decide)]
  rcases hS i hi with ⟨s1, s2⟩ | ⟨t, n, a1, a2, a3, a4, a5, a6, a7⟩
  · refine ⟨-11, m, m, ?_, ?_, hI⟩
    · rw [hk, s1, if_neg (by decide), if_pos rfl]
    · rw [hr m rfl, s2, if_neg m1_lt]
  · by_cases ht : nI t = 0
    · generalize hVV : (fun k : Nat => m (56 + i) (y.toNatClampNeg + k)) = V
      have hV : ∀ k, k < c → ∀ a, y = nI a → a + k < n → m (56 + i) (a + k) = V k := fun k hk a ea hak => by
        rw [← hVV, ea]
        show _ = m (56 + i) ((nI a).toNatClampNeg + k)
        by_cases hbig : a < 2 ^ 31
        · rw [nI_clamp hbig]
        · omega
      obtain ⟨m1, ⟨z, z1, z2⟩, i2, i3, i4, i5, i6⟩ := k_goAll_run (rs := rs) (V := V) (n := n) (c := c) (y := y) hi a2 hc (m0 := m) a5 hV c 0 (m := m) (acc := 0) (by omega) (Or.inl rfl) h1 h5 h2 h3 (fun _ _ _ _ => rfl)
      have hb1 : m1 77 = m 77 := funext fun q => i6 77 q (by decide) (by decide)
      obtain ⟨m2, ⟨w, w1, w2⟩, j2, j3⟩ := r_goAll_run (rs := rs) (V := V) (n := n) (c := c) (y := y) hi a2 hc (m0 := m1) (by rw [i6 92 i (by decide) (by decide)]; exact a6) (fun k hk a ea hak => by
        rw [i6 93 _ (by decide) (by decide), ← a7 (a + k) hak]
        exact hV k hk a ea hak) c 0 (m := m1) (acc := 0) (by omega) h1 h4 hb1 E76.rfl
      obtain ⟨q1, q2⟩ := now_cells' (m := m) (m2 := m2) h4 h5 h6 h7 (by rw [j3 1 4 (by decide) (by decide) (by omega)]; exact i5) i3 (i2.cong (fun p c j hp => j3 p c (by unfold KBP at hp; omega) (by unfold KBP at hp; omega) (by unfold KBP at hp; omega)) (j3 1 7 (by decide) (by decide) (by omega))) j2 i4 (fun p k hs x1 x2 x3 => by
        have hso := sc_of hs
        rw [j3 p k (by omega) x3 (by omega), i6 p k x1 x2])
      refine ⟨(gaF rs V n y c 0 0 (m 77)).1, m1, m2, ?_, ?_, hI.c1 q2 q1⟩
      · rw [hk, a3, if_pos ht]
        unfold k_goAll_42
        have := z1 FU (by show c < 4000; omega)
        rw [nI_0] at this
        rw [this]
        exact z2
      · rw [hr m1 (funext fun q => i6 91 q (by decide) (by decide)), a4, if_pos (nI_pos' (by omega)), if_pos ht]
        unfold r_goAll_41
        have := w1 FU (by show c < 4000; omega)
        rw [nI_0] at this
        rw [this]
        exact w2
    · refine ⟨-13, m, m, ?_, ?_, hI⟩
      · rw [hk, a3, if_neg ht, if_neg (sort_ne a1)]
      · rw [hr m rfl, a4, if_pos (nI_pos' (by omega)), if_neg ht]
