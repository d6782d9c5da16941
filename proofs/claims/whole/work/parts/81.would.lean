/-! acts by a sheet, only tried -/
def wbF (rs : List Rl) (V : Nat → Int32) (n : Nat) (y : Int32) : Nat → Nat → Int32 → (Nat → Int32) → Int32
  | 0, _, acc, _ => acc
  | d + 1, k, acc, b => if vdB n y k then (if actB b (V k) = true ∧ ¬ leftB b = 0 then wbF rs V n y d (k + 1) (acc + goW rs (V k).toNatClampNeg b) (goB rs (V k).toNatClampNeg b) else -4) else -12
theorem wbF_succ {rs : List Rl} {V : Nat → Int32} {n : Nat} {y : Int32} {d k : Nat} {acc : Int32} {b : Nat → Int32} : wbF rs V n y (d + 1) k acc b = (if vdB n y k then (if actB b (V k) = true ∧ ¬ leftB b = 0 then wbF rs V n y d (k + 1) (acc + goW rs (V k).toNatClampNeg b) (goB rs (V k).toNatClampNeg b) else -4) else -12) := rfl
theorem k_would_run {rs : List Rl} {V : Nat → Int32} {n i c : Nat} {y : Int32} {a4 : Int64} (hi : i < 4) (hn : n ≤ 40) (hc : c ≤ 20) {m0 : M} (h61 : m0 61 i = nI n) (hV : ∀ k, k < c → ∀ a, y = nI a → a + k < n → m0 (56 + i) (a + k) = V k) : ∀ (d k A : Nat) {b : Nat → Int32} {m : M}, k + d = c → A ≤ 11 * k → (k = 0 ∨ vdB n y (k - 1) = true) → WF b → KR m rs → KB m b → NQ m0 m → ∃ (m' : M) (b' : Nat → Int32), (∀ F, d + 1 < F → iter (fun z : Int32 × Int32 × M => k_wouldBe_51b (nI i) y (nI c) a4 z.1 z.2.1 z.2.2) F (nI A, nI k, m) = some (wbF rs V n y d k (nI A) b, m')) ∧ KB m' b' ∧ NB b b' ∧ NQ m m' := by
  intro d
  induction d with
  | zero =>
    intro k A b m hk hA hp hW hR hK hq
    refine ⟨m, b, fun F hF => ?_, hK, NB.rfl, NQ.rfl⟩
    obtain ⟨F', rfl⟩ : ∃ F', F = F' + 1 := ⟨F - 1, by omega⟩
    show (k_wouldBe_51b (nI i) y (nI c) a4 (nI A) (nI k) m).bind _ = _
    unfold k_wouldBe_51b
    rw [show c = k by omega, if_pos (Int32.le_refl _)]; rfl
  | succ d ih =>
    intro k A b m hk hA hp hW hR hK hq
    have hkc : k < c := by omega
    have hplace := k_isItem_eq (m := m) (y := y) hi (by rw [hq 61 i (by omega) (by omega)]; exact h61) hn (show k ≤ 20 by omega) hp
    have hstop : ∀ x : Int32, x < 0 → k_wouldBe_51b (nI i) y (nI c) a4 (nI A) (nI k) m = some (.inl (x, nI (k + 1), m)) → wbF rs V n y (d + 1) k (nI A) b = x → ∃ (m' : M) (b' : Nat → Int32), (∀ F, d + 1 + 1 < F → iter (fun z : Int32 × Int32 × M => k_wouldBe_51b (nI i) y (nI c) a4 z.1 z.2.1 z.2.2) F (nI A, nI k, m) = some (wbF rs V n y (d + 1) k (nI A) b, m')) ∧ KB m' b' ∧ NB b b' ∧ NQ m m' := fun x hx e1 e2 => by
      refine ⟨m, b, fun F hF => ?_, hK, NB.rfl, NQ.rfl⟩
      obtain ⟨F', rfl⟩ : ∃ F', F = F' + 1 + 1 := ⟨F - 2, by omega⟩
      have hb2 : k_wouldBe_51b (nI i) y (nI c) a4 x (nI (k + 1)) m = some (.inr (x, m)) := by
        unfold k_wouldBe_51b
        rw [if_pos hx, ite_self]
      show (k_wouldBe_51b (nI i) y (nI c) a4 (nI A) (nI k) m).bind _ = _
      rw [e1]
      show (k_wouldBe_51b (nI i) y (nI c) a4 x (nI (k + 1)) m).bind _ = _
      rw [hb2, e2]
      rfl
    have h149 : ∀ (w : Int32) (mm : M), k_wouldBe_149 (nI i) y (nI c) a4 w (nI k) mm = some (.inl (w, nI (k + 1), mm)) := fun w mm => by
      unfold k_wouldBe_149
      rw [ltE, nI_1]
    by_cases cv : vdB n y k = true
    · obtain ⟨a, a1, a2, a3⟩ := vd_iff.mp cv
      have hval : rdI m (56 + i) (y + nI k) = some (V k) := by
        rw [a2, nI_add, rdI_at (by rw [len56 hi]; omega) (by rw [len56 hi]; decide), hq (56 + i) _ (by omega) (by omega), hV k hkc a a2 a3]
      have hhead : k_wouldBe_51b (nI i) y (nI c) a4 (nI A) (nI k) m = (if b01 (actB b (V k)) = 0 then k_wouldBe_112 (nI i) y (nI c) a4 (nI k) m else Option.bind (b_isOver m) (fun v5 => (if v5 = 0 then Option.bind (b_count m) (fun v8 => Option.bind (b_goesBy (V k) v8 m) (fun z9 => lt (nI A + z9.1) (fun w10 : Int32 => k_wouldBe_149 (nI i) y (nI c) a4 w10 (nI k) z9.2))) else k_wouldBe_112 (nI i) y (nI c) a4 (nI k) m))) := by
        unfold k_wouldBe_51b
        rw [if_neg (nI_ge hkc (by omega)), if_neg (nI_pos (by omega)), hplace, cv, Option.bind_some, b01_t, sheets_at hi, Option.bind_some, hval, Option.bind_some, b_isAct_eq hK, Option.bind_some]
        simp only [Option.bind_some, hval]
      by_cases cc : actB b (V k) = true ∧ ¬ leftB b = 0
      · obtain ⟨x, hx, ex⟩ := actB_iff hW cc.1
        have hclamp : (V k).toNatClampNeg = x := by rw [ex, nI_clamp (by have := hW.manyN.2; omega)]
        have hl : 0 < leftB b := by omega
        obtain ⟨m1, f1, f2, f3, f4⟩ := b_goesBy_eq (rs := rs) (a := x) hK hW hR hx
        obtain ⟨g1, g2⟩ := goN_eq (rs := rs) hW hx
        obtain ⟨m', b', i1, i2, i3, i4⟩ := ih (k + 1) (A + goN rs x b) (b := goB rs x b) (m := m1) (by omega) (by omega) (Or.inr cv) (hW.go (over0 hW hl) rs hx) (f3.kr hR) f2 (hq.trans f3)
        refine ⟨m', b', fun F hF => ?_, i2, (NB_go (by have := hW.manyN.2; omega)).trans i3, f3.trans i4⟩
        obtain ⟨F', rfl⟩ : ∃ F', F = F' + 1 := ⟨F - 1, by omega⟩
        show (k_wouldBe_51b (nI i) y (nI c) a4 (nI A) (nI k) m).bind _ = _
        have hbody : k_wouldBe_51b (nI i) y (nI c) a4 (nI A) (nI k) m = some (.inl (nI (A + goN rs x b), nI (k + 1), m1)) := by
          rw [hhead, cc.1, b01_t, isOverK hK hW, if_neg cc.2, Option.bind_some, if_pos rfl, b_count_eq hK hW, Option.bind_some, ex, f1, Option.bind_some, ltE, h149, g1, nI_add]
        rw [hbody, wbF_succ, if_pos cv, if_pos cc, hclamp, g1, nI_add]
        exact i1 F' (by omega)
      · refine hstop (-4) (by decide) ?_ (by rw [wbF_succ, if_pos cv, if_neg cc])
        have h112 : k_wouldBe_112 (nI i) y (nI c) a4 (nI k) m = some (.inl (-4, nI (k + 1), m)) := by
          unfold k_wouldBe_112
          rw [h149]
        rw [hhead, h112]
        by_cases c1 : actB b (V k) = true
        · rw [c1, b01_t, isOverK hK hW, if_pos (show leftB b = 0 from Classical.byContradiction fun q => cc ⟨c1, q⟩), Option.bind_some, if_neg one_ne]
        · rw [Bool.eq_false_iff.mpr c1, b01_f]
    · refine hstop (-12) (by decide) ?_ (by rw [wbF_succ, if_neg cv])
      unfold k_wouldBe_51b
      rw [if_neg (nI_ge hkc (by omega)), if_neg (nI_pos (by omega)), hplace, Bool.eq_false_iff.mpr cv, Option.bind_some, b01_f, h149]
/-- a code and a sum, as the reference keeps them apart -/
def wbC (x : Int32) : Int32 × Int32 → Prop := fun r => (r.1 = 0 ∧ r.2 = x ∧ 0 ≤ x) ∨ (r.1 = x ∧ x < 0)
theorem r_would_run {rs : List Rl} {V : Nat → Int32} {n i c : Nat} {y : Int32} (hi : i < 4) (hn : n ≤ 40) (hc : c ≤ 20) {m0 : M} (h92 : m0 92 i = nI n) (hV : ∀ k, k < c → ∀ a, y = nI a → a + k < n → m0 93 (40 * i + (a + k)) = V k) : ∀ (d k A : Nat) {b : Nat → Int32} {m : M}, k + d = c → A ≤ 11 * k → WF b → RR b rs → m 77 = b → E76 m0 m → ∃ (m' : M) (r : Int32 × Int32), (∀ F, d + 1 < F → iter (fun z : Int32 × Int32 × Int32 × M => r_wouldBe_37b (nI i) y (nI c) z.1 z.2.1 z.2.2.1 z.2.2.2) F (0, nI A, nI k, m) = some (r.1, r.2, m')) ∧ wbC (wbF rs V n y d k (nI A) b) r ∧ NB b (m' 77) ∧ E76 m m' := by
  intro d
  induction d with
  | zero =>
    intro k A b m hk hA hW hR hb hq
    refine ⟨m, (0, nI A), fun F hF => ?_, Or.inl ⟨rfl, rfl, nI_pos' (by omega)⟩, by rw [hb]; exact NB.rfl, E76.rfl⟩
    obtain ⟨F', rfl⟩ : ∃ F', F = F' + 1 := ⟨F - 1, by omega⟩
    show (r_wouldBe_37b (nI i) y (nI c) 0 (nI A) (nI k) m).bind _ = _
    unfold r_wouldBe_37b
    rw [show c = k by omega, if_pos (Int32.le_refl _)]; rfl
  | succ d ih =>
    intro k A b m hk hA hW hR hb hq
    have hkc : k < c := by omega
    have hplace := r_isItem_eq (m := m) (y := y) (k := k) hi (by rw [hq 92 i (by decide) (by decide) (by omega)]; exact h92) hn (by omega)
    have hstop : ∀ (x : Int32), x < 0 → r_wouldBe_37b (nI i) y (nI c) 0 (nI A) (nI k) m = some (.inl (x, nI A + 0, nI (k + 1), m)) → wbF rs V n y (d + 1) k (nI A) b = x → ∃ (m' : M) (r : Int32 × Int32), (∀ F, d + 1 + 1 < F → iter (fun z : Int32 × Int32 × Int32 × M => r_wouldBe_37b (nI i) y (nI c) z.1 z.2.1 z.2.2.1 z.2.2.2) F (0, nI A, nI k, m) = some (r.1, r.2, m')) ∧ wbC (wbF rs V n y (d + 1) k (nI A) b) r ∧ NB b (m' 77) ∧ E76 m m' := fun x hx e1 e2 => by
      refine ⟨m, (x, nI A + 0), fun F hF => ?_, by rw [e2]; exact Or.inr ⟨rfl, hx⟩, by rw [hb]; exact NB.rfl, E76.rfl⟩
      obtain ⟨F', rfl⟩ : ∃ F', F = F' + 1 + 1 := ⟨F - 2, by omega⟩
      have hx0 : ¬ x = 0 := fun q => by rw [q] at hx; exact absurd hx (by decide)
      have hb2 : r_wouldBe_37b (nI i) y (nI c) x (nI A + 0) (nI (k + 1)) m = some (.inr (x, nI A + 0, m)) := by
        unfold r_wouldBe_37b
        rw [if_neg hx0, ite_self]
      show (r_wouldBe_37b (nI i) y (nI c) 0 (nI A) (nI k) m).bind _ = _
      rw [e1]
      show (r_wouldBe_37b (nI i) y (nI c) x (nI A + 0) (nI (k + 1)) m).bind _ = _
      rw [hb2]
      rfl
    have h117 : ∀ (x : Int32) (v : Int32), x < 0 → r_wouldBe_117 (nI i) y (nI c) (nI A) (nI k) v x m = some (.inl (x, nI A + 0, nI (k + 1), m)) := fun x v hx => by
      have hx0 : ¬ x = 0 := fun q => by rw [q] at hx; exact absurd hx (by decide)
      unfold r_wouldBe_117 r_wouldBe_136
      rw [if_neg hx0, ltE, ltE, nI_1]
    by_cases cv : vdB n y k = true
    · obtain ⟨a, a1, a2, a3⟩ := vd_iff.mp cv
      have hval : rdI m 93 (((40 * nI i) + y) + nI k) = some (V k) := by
        rw [a2, show (40 : Int32) = nI 40 from rfl, pk_mul, nI_add, nI_add, Nat.add_assoc, rdI_at (by rw [len93]; omega) (by rw [len93]; decide), hq 93 _ (by decide) (by decide) (by omega), hV k hkc a a2 a3]
      have hhead : r_wouldBe_37b (nI i) y (nI c) 0 (nI A) (nI k) m = (if b01 (actB b (V k)) = 0 then r_wouldBe_111 (nI i) y (nI c) (nI A) (nI k) (V k) m else Option.bind (r_isOver m) (fun v3 => (if v3 = 0 then r_wouldBe_117 (nI i) y (nI c) (nI A) (nI k) (V k) 0 m else r_wouldBe_111 (nI i) y (nI c) (nI A) (nI k) (V k) m))) := by
        unfold r_wouldBe_37b
        rw [if_neg (nI_ge hkc (by omega)), if_pos rfl, hplace, cv, Option.bind_some, b01_t, hval, Option.bind_some]
        unfold r_wouldBe_77
        rw [hplace, cv, Option.bind_some, b01_t, r_isAct_eq hb, Option.bind_some]
      by_cases cc : actB b (V k) = true ∧ ¬ leftB b = 0
      · obtain ⟨x, hx, ex⟩ := actB_iff hW cc.1
        have hclamp : (V k).toNatClampNeg = x := by rw [ex, nI_clamp (by have := hW.manyN.2; omega)]
        have hl : 0 < leftB b := by omega
        obtain ⟨m1, f1, f2, f3, f4⟩ := r_goesBy_of (rs := rs) (a := x) hb hW hR hx
        obtain ⟨g1, g2⟩ := goN_eq (rs := rs) hW hx
        obtain ⟨m', r, i1, i2, i3, i4⟩ := ih (k + 1) (A + goN rs x b) (b := goB rs x b) (m := m1) (by omega) (by omega) (hW.go (over0 hW hl) rs hx) ((NB_go (by have := hW.manyN.2; omega)).rr hR) f2 (hq.trans f3)
        refine ⟨m', r, fun F hF => ?_, by rw [wbF_succ, if_pos cv, if_pos cc, hclamp, g1, nI_add]; exact i2, (NB_go (by have := hW.manyN.2; omega)).trans i3, f3.trans i4⟩
        obtain ⟨F', rfl⟩ : ∃ F', F = F' + 1 := ⟨F - 1, by omega⟩
        show (r_wouldBe_37b (nI i) y (nI c) 0 (nI A) (nI k) m).bind _ = _
        have hbody : r_wouldBe_37b (nI i) y (nI c) 0 (nI A) (nI k) m = some (.inl (0, nI (A + goN rs x b), nI (k + 1), m1)) := by
          rw [hhead, cc.1, b01_t, isOverR hb hW, if_neg cc.2, Option.bind_some, if_pos rfl]
          unfold r_wouldBe_117 r_wouldBe_136
          rw [if_pos rfl, ex, f1, Option.bind_some, ltE, ltE, g1, nI_add, nI_1]
        rw [hbody]
        exact i1 F' (by omega)
      · refine hstop (-4) (by decide) ?_ (by rw [wbF_succ, if_pos cv, if_neg cc])
        have h111 : r_wouldBe_111 (nI i) y (nI c) (nI A) (nI k) (V k) m = some (.inl (-4, nI A + 0, nI (k + 1), m)) := by
          unfold r_wouldBe_111
          exact h117 _ _ (by decide)
        rw [hhead, h111]
        by_cases c1 : actB b (V k) = true
        · rw [c1, b01_t, isOverR hb hW, if_pos (show leftB b = 0 from Classical.byContradiction fun q => cc ⟨c1, q⟩), Option.bind_some, if_neg one_ne]
        · rw [Bool.eq_false_iff.mpr c1, b01_f]
    · refine hstop (-12) (by decide) ?_ (by rw [wbF_succ, if_neg cv])
      unfold r_wouldBe_37b
      rw [if_neg (nI_ge hkc (by omega)), if_pos rfl, hplace, Bool.eq_false_iff.mpr cv, Option.bind_some, b01_f]
      unfold r_wouldBe_77
      rw [hplace, Bool.eq_false_iff.mpr cv, Option.bind_some, b01_f]
      exact h117 _ _ (by decide)
theorem ok_wouldBe {m : M} (hI : INV m) : OK_wouldBe INV m := fun x y v => by
  obtain ⟨rs, h1, h2, h3, h4, h5, h6, h7⟩ := hI.1
  have hS := hI.2.2.2.1
  by_cases c1 : ¬ (0 ≤ x ∧ x ≤ 3)
  · refine ⟨-1, m, m, ?_, ?_, hI⟩
    · unfold k_wouldBe; rw [wi_f c1, Option.bind_some, if_pos rfl]
    · unfold r_wouldBe; rw [isSheet_f c1, Option.bind_some, if_pos rfl]
  have c1 := Classical.not_not.mp c1
  have c1' := c1
  obtain ⟨i, hi, rfl⟩ := sheet_in.mp c1
  by_cases c2 : ¬ (0 ≤ v ∧ v ≤ 20)
  · refine ⟨-1, m, m, ?_, ?_, hI⟩
    · unfold k_wouldBe; rw [wi_t c1', Option.bind_some, if_neg one_ne, wi_f c2, Option.bind_some, if_pos rfl]
    · unfold r_wouldBe; rw [isSheet_t c1', Option.bind_some, if_neg one_ne, in1_f c2, Option.bind_some, if_pos rfl]
  have c2 := Classical.not_not.mp c2
  have c2' := c2
  obtain ⟨c, hc, rfl⟩ := in20 c2
  have hk : k_wouldBe (nI i) y (nI c) m = (if m 60 i = 0 then k_wouldBe_51 (nI i) y (nI c) (lN (momN (m 77))) 0 0 m else some (if m 60 i = -1 then -11 else -13, m)) := by
    unfold k_wouldBe k_isOfSort k_refusalAs
    rw [wi_t c1', Option.bind_some, if_neg one_ne, wi_t c2', Option.bind_some, if_neg one_ne, rd4 (p := 60) (by omega) hi, Option.bind_some]
    by_cases e : m 60 i = 0
    · rw [if_pos e, if_pos e, Option.bind_some, if_neg one_ne, b_moment_eq h2 h1, Option.bind_some]
    · rw [if_neg e, if_neg e, Option.bind_some, if_pos rfl, Option.bind_some]
      split <;> rfl
  have hr : ∀ mm : M, mm 91 = m 91 → r_wouldBe (nI i) y (nI c) mm = r_wouldBe_37 (nI i) y (nI c) (if 0 ≤ m 91 i then (if m 91 i = 0 then 0 else -13) else -11) 0 0 (mset mm 79 (cpT 67 (mm 77) (mm 79))) := fun mm e91 => by
    unfold r_wouldBe r_lacks
    rw [isSheet_t c1', Option.bind_some, if_neg one_ne, in1_t c2', Option.bind_some, if_neg one_ne, rd4 (p := 91) (by omega) hi, e91, Option.bind_some, Option.bind_some, r_layDown_eq]
    by_cases e : 0 ≤ m 91 i
    · rw [if_pos e, if_pos e]
      by_cases e2 : m 91 i = 0
      · rw [if_pos e2, if_pos e2]; rfl
      · rw [if_neg e2, if_neg e2]; rfl
    · rw [if_neg e, if_neg e]; rfl
  have hbad : ∀ (z : Int32), z < 0 → ∃ m2, r_wouldBe_37 (nI i) y (nI c) z 0 0 (mset m 79 (cpT 67 (m 77) (m 79))) = some (z, m2) ∧ INV m2 := fun z hz => by
    have hz0 : ¬ z = 0 := fun q => by rw [q] at hz; exact absurd hz (by decide)
    obtain ⟨m3, t1, t2, t3, t4⟩ := lay_round (m := m) rfl (m2 := mset m 79 (cpT 67 (m 77) (m 79))) E76.rfl (fun j _ => by rw [mset_ne (by decide)])
    refine ⟨m3, ?_, hI.sq t2⟩
    unfold r_wouldBe_37 r_wouldBe_145
    rw [show iter (fun w : Int32 × Int32 × Int32 × M => r_wouldBe_37b (nI i) y (nI c) w.1 w.2.1 w.2.2.1 w.2.2.2) FU (z, 0, 0, mset m 79 (cpT 67 (m 77) (m 79))) = some (z, 0, mset m 79 (cpT 67 (m 77) (m 79))) from by
      show (r_wouldBe_37b (nI i) y (nI c) z 0 0 _).bind _ = _
      unfold r_wouldBe_37b
      rw [if_neg hz0, ite_self]
      rfl, Option.bind_some, t1, Option.bind_some, if_neg hz0]
  rcases hS i hi with ⟨s1, s2⟩ | ⟨t, n, a1, a2, a3, a4, a5, a6, a7⟩
  · obtain ⟨m2, e1, e2⟩ := hbad (-11) (by decide)
    refine ⟨-11, m, m2, ?_, ?_, e2⟩
    · rw [hk, s1, if_neg (by decide), if_pos rfl]
    · rw [hr m rfl, s2, if_neg m1_lt, e1]
  · by_cases ht : nI t = 0
    · generalize hVV : (fun k : Nat => m (56 + i) (y.toNatClampNeg + k)) = V
      have hV : ∀ k, k < c → ∀ a, y = nI a → a + k < n → m (56 + i) (a + k) = V k := fun k hk a ea hak => by
        rw [← hVV, ea]
        show _ = m (56 + i) ((nI a).toNatClampNeg + k)
        rw [nI_clamp (by omega)]
      obtain ⟨m1, b1, i1, i2, i3, i4⟩ := k_would_run (rs := rs) (V := V) (n := n) (c := c) (y := y) (a4 := lN (momN (m 77))) hi a2 hc (m0 := m) a5 hV c 0 0 (m := m) (by omega) (by omega) (Or.inl rfl) h1 h5 h2 NQ.rfl
      obtain ⟨m3, t1, t2, t3, t4, t5⟩ := trial h1 h2 i2 i3 i4
      have hb3 : m3 77 = m 77 := t4.row 77 sc_77
      have hb4 : (mset m3 79 (cpT 67 (m3 77) (m3 79))) 77 = m 77 := by rw [mset_ne (by decide)]; exact hb3
      obtain ⟨m4, r, j1, j2, j3, j4⟩ := r_would_run (rs := rs) (V := V) (n := n) (c := c) (y := y) hi a2 hc (m0 := mset m3 79 (cpT 67 (m3 77) (m3 79))) (by rw [mset_ne (by decide), t4 92 i (scp (by omega))]; exact a6) (fun k hk a ea hak => by
        rw [mset_ne (by decide), t4 93 _ (scp (by omega)), ← a7 (a + k) hak]
        exact hV k hk a ea hak) c 0 0 (m := mset m3 79 (cpT 67 (m3 77) (m3 79))) (by omega) (by omega) h1 h4 hb4 E76.rfl
      obtain ⟨m5, s1, s2, s3, s4⟩ := lay_round hb3 j4 j3.hi
      refine ⟨wbF rs V n y c 0 (nI 0) (m 77), m3, m5, ?_, ?_, hI.sq (t4.trans s2)⟩
      · rw [hk, a3, if_pos ht]
        unfold k_wouldBe_51 k_wouldBe_155
        have := i1 FU (by show c + 1 < 4000; omega)
        rw [show ((0 : Int32), (0 : Int32), m) = (nI 0, nI 0, m) from rfl, this, Option.bind_some, t1]
        rfl
      · rw [hr m3 (funext fun q => t4 91 q (scp (by omega))), a4, if_pos (nI_pos' (by omega)), if_pos ht]
        unfold r_wouldBe_37 r_wouldBe_145
        have := j1 FU (by show c + 1 < 4000; omega)
        rw [show ((0 : Int32), (0 : Int32), (0 : Int32), mset m3 79 (cpT 67 (m3 77) (m3 79))) = ((0 : Int32), nI 0, nI 0, mset m3 79 (cpT 67 (m3 77) (m3 79))) from rfl, this, Option.bind_some, s1, Option.bind_some]
        rcases j2 with ⟨e1, e2, e3⟩ | ⟨e1, e2⟩
        · rw [e1, if_pos rfl, e2]
        · have hz0 : ¬ r.1 = 0 := fun q => by rw [← e1, q] at e2; exact absurd e2 (by decide)
          rw [if_neg hz0, e1]
    · obtain ⟨m2, e1, e2⟩ := hbad (-13) (by decide)
      refine ⟨-13, m, m2, ?_, ?_, e2⟩
      · rw [hk, a3, if_neg ht, if_neg (sort_ne a1)]
      · rw [hr m rfl, a4, if_pos (nI_pos' (by omega)), if_neg ht, e1]
