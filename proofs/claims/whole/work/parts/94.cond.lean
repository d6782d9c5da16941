/-! reading conditions on both sides -/
theorem lays_nots {rec : M → Option (Int32 × M)} {y : Nat} {a2 : Int32} (h1 : ¬ a2 = 0) (hy : y < 1000) : ∀ (d j F L : Nat) (m : M), j + d = y → d < F → m 76 13 = nI L → L + d ≤ 200 → ∃ m', iter (fun z => r_readsOne_41b rec (nI y) a2 z.1 z.2) F (nI j, m) = some m' ∧ m' 76 13 = nI (L + d) ∧ (∀ q, q < d → m' 83 (L + q) = nI 10015) ∧ (∀ q, ¬ (L ≤ q ∧ q < L + d) → m' 83 q = m 83 q) ∧ (∀ p k, p ≠ 83 → ¬ (p = 76 ∧ k = 13) → m' p k = m p k) := by
  intro d
  induction d with
  | zero =>
    intro j F L m e1 e2 e3 e4
    obtain ⟨F', rfl⟩ : ∃ F', F = F' + 1 := ⟨F - 1, by omega⟩
    refine ⟨m, ?_, e3, fun q hq => absurd hq (by omega), fun q _ => rfl, fun p k _ _ => rfl⟩
    show Option.bind (r_readsOne_41b rec (nI y) a2 (nI j) m) _ = _
    unfold r_readsOne_41b
    rw [if_pos (nI_le (by omega) (by omega))]
    rfl
  | succ d ih =>
    intro j F L m e1 e2 e3 e4
    obtain ⟨F', rfl⟩ : ∃ F', F = F' + 1 := ⟨F - 1, by omega⟩
    obtain ⟨m1, f1, f2, f3, f4, f5⟩ := p_lays (by omega : L < 200) e3 10015
    have hb : r_readsOne_41b rec (nI y) a2 (nI j) m = some (.inl (nI (j + 1), m1)) := by
      unfold r_readsOne_41b
      rw [if_neg (nI_ge (by omega) (by omega)), if_neg h1, f1, Option.bind_some, ltE, nI_1]
    obtain ⟨m2, g1, g2, g3, g4, g5⟩ := ih (j + 1) F' (L + 1) m1 (by omega) (by omega) f2 (by omega)
    refine ⟨m2, ?_, by rw [g2]; congr 1; omega, fun q hq => ?_, fun q hq => ?_, fun p k a b => (g5 p k a b).trans (f5 p k a b)⟩
    · show Option.bind (r_readsOne_41b rec (nI y) a2 (nI j) m) _ = _
      rw [hb]; exact g1
    · by_cases e : q = 0
      · rw [e, Nat.add_zero, g4 L (by omega), f3]; rfl
      · have := g3 (q - 1) (by omega)
        rw [show L + 1 + (q - 1) = L + q by omega] at this
        exact this
    · rw [g4 q (by omega), f4 q (by omega)]
theorem CodeAt_rep {f : Nat → Int32} {v : Nat} : ∀ {d L : Nat}, (∀ q, q < d → f (L + q) = nI v) → CodeAt f L (List.replicate d v)
  | 0, _, _ => trivial
  | d + 1, L, h => by
    rw [List.replicate_succ]
    refine ⟨by have := h 0 (by omega); rwa [Nat.add_zero] at this, CodeAt_rep (d := d) (L := L + 1) (fun q hq => ?_)⟩
    rw [show L + 1 + q = L + (q + 1) by omega]
    exact h (q + 1) (by omega)
theorem one_ok {n : Nat} {t : Nat → Nat} {N : Nat} {K : Nat → Int32} (hB : pTB n t N K) {recC : Int32 → M → Option (Int32 × M)} {recR : M → Option (Int32 × M)} {lev D : Nat} (hlev : lev ≤ 3) (hD : 1 ≤ D) (hrec : lev < 3 → pJ n t N K (lev + 1) D (recC (nI (lev + 1))) recR) : pJ n t N K lev D (t_readsOne recC (nI lev)) (r_readsOne recR) := by
  intro i Lc Lr mc mr hC hR h12 h13 hLc hLr
  have hn := hB.1.1
  have hN := hB.2.1.1
  have hi := hC.2.2.1
  obtain ⟨y, i1, m1, r1, f1, f2, f3, f4, f5, f6, f7, f8, f9⟩ := nots_loop hB (recC := recC) (recR := recR) (a2 := nI lev) (L := Lc) (N - i) i 0 FU FU mc mr (by omega) (by unfold FU; omega) (by unfold FU; omega) (Nat.zero_le _) hC hR
  have hc : t_readsOne recC (nI lev) mc = Option.bind (finC recC (nI lev) m1) (fun z => t_readsOne_91 recC (nI (y % 2)) z.1 z.2) := by
    unfold t_readsOne t_readsOne_5
    rw [show iter (fun z => t_readsOne_5b recC (nI lev) z.1 z.2.1 z.2.2) FU (0, 0, mc) = _ from f1, Option.bind_some, one38]
  have hr : r_readsOne recR mr = Option.bind (finR recR r1) (fun z => r_readsOne_38 recR (nI y) z.1 z.2) := by
    unfold r_readsOne r_readsOne_2 finR
    rw [show iter (fun z => r_readsOne_2b recR z.1 z.2) FU (0, mr) = _ from f2, Option.bind_some]
    by_cases c : r1 76 10 = 240
    · rw [if_pos c, if_pos c]
    · rw [if_neg c, if_neg c]
  have hy : y ≤ N := by omega
  rcases fin_ok hB hlev hD hrec i1 Lc Lr m1 r1 f6 f7 ((f9.k (by decide)).trans h12) ((f9.k (by decide)).trans h13) (by omega) (by omega) with ⟨m2, r2, i2, c, a1, a2, ⟨a3, a4, a5, a6, a7⟩, ⟨b1, b2, b3⟩, ⟨c1, c2, c3, c4, c5⟩⟩ | ⟨m2, r2, i2, a1, a2, a3, ⟨b1, ⟨L2, b2, b4⟩, b3⟩, ⟨c1, c2⟩⟩
  · have hi2 := b1.2.2.1
    obtain ⟨r3, g1, g2, g3, g4, g5⟩ := lays_nots (rec := recR) (y := y) (a2 := 1) one_ne (by omega) y 0 FU (Lr + c.rc.length) r2 (by omega) (by unfold FU; omega) c3 (by omega)
    have hrr : r_readsOne recR mr = some (1, r3) := by
      rw [hr, a2, Option.bind_some]
      unfold r_readsOne_38 r_readsOne_41
      rw [show iter (fun z => r_readsOne_41b recR (nI y) 1 z.1 z.2) FU (0, r2) = _ from g1, Option.bind_some, oneAnd]
    have hlen : (CD.nots y c).rc.length = c.rc.length + y := by rw [CD.rc_nots, List.length_append, List.length_replicate]
    have hR3 : pR n t N i2 r3 := lays_pR c1 g5
    have hcode : CodeAt (r3 83) Lr (CD.nots y c).rc := by
      rw [CD.rc_nots, CodeAt_append]
      exact ⟨c4.congr (fun j x1 x2 => g4 j (by omega)), CodeAt_rep g3⟩
    have hfr : fR Lr mr r3 := (f9.fR (by decide) Lr).trans (c5.trans ⟨fun p k x1 x2 => g5 p k x1 (fun q => x2 ⟨q.1, by rw [q.2]; decide⟩), fun j hj => g4 j (by omega)⟩)
    have hrest : pR n t N i2 r3 ∧ r3 76 12 = nI lev ∧ r3 76 13 = nI (Lr + (CD.nots y c).rc.length) ∧ CodeAt (r3 83) Lr (CD.nots y c).rc ∧ fR Lr mr r3 := ⟨hR3, (g5 76 12 (by decide) (by decide)).trans c2, by rw [g2, hlen]; congr 1; omega, hcode, hfr⟩
    rcases (show y % 2 = 0 ∨ y % 2 = 1 by omega) with e | e
    · have hcl : (CD.nots y c).cc = c.cc := by rw [CD.cc_nots, if_neg (by omega), List.append_nil]
      refine Or.inl ⟨m2, r3, i2, CD.nots y c, ?_, hrr, ⟨by omega, CD.ok_nots a4, a5, by rw [hcl]; omega, by rw [hlen]; omega⟩, ⟨by rw [hcl]; exact b1, by rw [hcl]; exact b2, (f8 Lc).trans b3⟩, hrest⟩
      rw [hc, a1, Option.bind_some]
      unfold t_readsOne_91
      rw [e, if_pos (show nI 0 = (0 : Int32) from rfl), oneAnd]
    · have hcl : (CD.nots y c).cc = c.cc ++ [12] := by rw [CD.cc_nots, if_pos e]
      have hll : (CD.nots y c).cc.length = c.cc.length + 1 := by rw [hcl, List.length_append]; rfl
      obtain ⟨m3, x1, x2, x3, x4⟩ := c_add b1 (by omega) 12
      refine Or.inl ⟨m3, r3, i2, CD.nots y c, ?_, hrr, ⟨by omega, CD.ok_nots a4, a5, by rw [hll]; omega, by rw [hlen]; omega⟩, ⟨by rw [hll]; exact x2, ?_, (f8 Lc).trans (b3.trans (x3.mono (by omega)))⟩, hrest⟩
      · rw [hc, a1, Option.bind_some]
        unfold t_readsOne_91
        rw [e, if_neg (show ¬ nI 1 = (0 : Int32) by decide), x1, Option.bind_some, oneAnd]
      · rw [hcl, CodeAt_append]
        exact ⟨b2.congr (fun j z1 z2 => x3.2 j (by omega)), x4, trivial⟩
  · have hrr : r_readsOne recR mr = some (0, r2) := by
      rw [hr, a2, Option.bind_some]
      unfold r_readsOne_38 r_readsOne_41
      have hz : iter (fun z => r_readsOne_41b recR (nI y) 0 z.1 z.2) FU (0, r2) = some r2 := by
        show Option.bind (r_readsOne_41b recR (nI y) 0 0 r2) _ = _
        have hb : r_readsOne_41b recR (nI y) 0 0 r2 = some (.inr r2) := by
          unfold r_readsOne_41b
          by_cases c : nI y ≤ 0
          · rw [if_pos c]
          · rw [if_neg c, if_pos rfl]
        rw [hb]
        rfl
      rw [hz, Option.bind_some, zeroAnd]
    rcases (show y % 2 = 0 ∨ y % 2 = 1 by omega) with e | e
    · refine Or.inr ⟨m2, r2, i2, ?_, hrr, a3, ⟨b1, ⟨L2, b2, b4⟩, (f8 0).trans b3⟩, ⟨c1, (f9.fR (by decide) 0).trans c2⟩⟩
      rw [hc, a1, Option.bind_some]
      unfold t_readsOne_91
      rw [e, if_pos (show nI 0 = (0 : Int32) from rfl), zeroAnd]
    · obtain ⟨m3, L3, x1, x2, x3, x4, x5⟩ := c_addX b2 b4 12
      refine Or.inr ⟨m3, r2, i2, ?_, hrr, a3, ⟨x5.trans b1, ⟨L3, x2, x3⟩, (f8 0).trans (b3.trans x4)⟩, ⟨c1, (f9.fR (by decide) 0).trans c2⟩⟩
      rw [hc, a1, Option.bind_some]
      unfold t_readsOne_91
      rw [e, if_neg (show ¬ nI 1 = (0 : Int32) by decide), x1, Option.bind_some, zeroAnd]
/-! chains: and, or -/
def chB (f : M → Option (Int32 × M)) (tc sc : Int32) (a3 : Int32) (m : M) : Option ((Int32 × M) ⊕ ((M) ⊕ ((M)))) :=
  (if (200 : Int32) ≤ a3 then some (.inr (.inl m)) else Option.bind (t_takes tc m) (fun z1 => (if z1.1 = 0 then some (.inr (.inl z1.2)) else Option.bind (f z1.2) (fun z2 => (if z2.1 = 0 then some (.inr (.inr z2.2)) else Option.bind (u_addStep sc z2.2) (fun m3 => lt (a3 + (1 : Int32)) (fun w4 : Int32 => some (.inl (w4, m3)))))))))
def chC (f : M → Option (Int32 × M)) (tc sc : Int32) (m : M) : Option (Int32 × M) :=
  Option.bind (f m) (fun z1 => (if z1.1 = 0 then some ((0 : Int32), z1.2) else Option.bind (iter (fun z => chB f tc sc z.1 z.2) FU (0, z1.2)) (fun r => (match r with
  | .inl r => some ((1 : Int32), r)
  | .inr r => some ((0 : Int32), r)))))
def chD (g : M → Option (Int32 × M)) (tr sr : Int32) (a1 : Int32) (m : M) : Option ((Int32 × M) ⊕ ((Int32 × M))) :=
  (if a1 = 0 then some (.inr (a1, m)) else Option.bind (r_takes tr m) (fun z1 => (if z1.1 = 0 then some (.inr (a1, z1.2)) else Option.bind (g z1.2) (fun z2 => (if z2.1 = 0 then some (.inl (z2.1, z2.2)) else Option.bind (r_lays sr z2.2) (fun m3 => some (.inl (z2.1, m3))))))))
def chR (g : M → Option (Int32 × M)) (tr sr : Int32) (m : M) : Option (Int32 × M) :=
  Option.bind (g m) (fun z1 => Option.bind (iter (fun z => chD g tr sr z.1 z.2) FU (z1.1, z1.2)) (fun r => some ((r.1 &&& 1), r.2)))
theorem all_ch (rec : Int32 → M → Option (Int32 × M)) (a2 : Int32) : t_readsAll rec a2 = chC (t_readsOne rec a2) 11 11 := rfl
theorem cond_ch (rec : Int32 → M → Option (Int32 × M)) (a2 : Int32) : t_readsCond rec a2 = chC (t_readsAll rec a2) 10 10 := rfl
theorem rall_ch (rec : M → Option (Int32 × M)) : r_readsAll rec = chR (r_readsOne rec) 11 10013 := rfl
theorem rcond_ch (rec : M → Option (Int32 × M)) : r_readsCondition rec = chR (r_readsAll rec) 12 10014 := rfl
