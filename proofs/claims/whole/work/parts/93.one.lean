/-! reading one condition on both sides: the word not, brackets, a comparison -/
theorem nots_loop {n : Nat} {t : Nat → Nat} {N : Nat} {K : Nat → Int32} (hB : pTB n t N K) {recC : Int32 → M → Option (Int32 × M)} {recR : M → Option (Int32 × M)} {a2 : Int32} {L : Nat} : ∀ (d i x F1 F2 : Nat) (mc mr : M), i + d = N → d < F1 → d < F2 → x ≤ i → pC K N i L mc → pR n t N i mr → ∃ y i' mc' mr', iter (fun z => t_readsOne_5b recC a2 z.1 z.2.1 z.2.2) F1 (nI (x % 2), nI x, mc) = some (nI (y % 2), mc') ∧ iter (fun z => r_readsOne_2b recR z.1 z.2) F2 (nI x, mr) = some (nI y, mr') ∧ x ≤ y ∧ i' = i + (y - x) ∧ i' ≤ N ∧ pC K N i' L mc' ∧ pR n t N i' mr' ∧ (∀ L', fC L' mc mc') ∧ Fl [8, 9, 10, 11] mr mr' := by
  have hn := hB.1.1
  have hN := hB.2.1.1
  intro d
  induction d with
  | zero =>
    intro i x F1 F2 mc mr h1 h2 h3 hx hC hR
    obtain ⟨F1', rfl⟩ : ∃ F', F1 = F' + 1 := ⟨F1 - 1, by omega⟩
    obtain ⟨F2', rfl⟩ : ∃ F', F2 = F' + 1 := ⟨F2 - 1, by omega⟩
    have hb1 : t_readsOne_5b recC a2 (nI (x % 2)) (nI x) mc = some (.inr (nI (x % 2), mc)) := by
      unfold t_readsOne_5b
      by_cases c : (200 : Int32) ≤ nI x
      · rw [if_pos c]
      · rw [if_neg c]
        rcases c_takes hB hC (a := 12) (by decide) with ⟨_, q, _⟩ | ⟨_, q⟩
        · omega
        · rw [q, Option.bind_some, if_pos rfl]
    have hb2 : r_readsOne_2b recR (nI x) mr = some (.inr (nI x, mr)) := by
      unfold r_readsOne_2b
      rcases p_takes hB hR (a := 10) (by decide) with ⟨_, q, _⟩ | ⟨_, q⟩
      · omega
      · rw [q, Option.bind_some, if_pos rfl]
    refine ⟨x, i, mc, mr, ?_, ?_, Nat.le_refl _, by omega, by omega, hC, hR, fun _ => fC.rfl, Fl.rfl⟩
    · show Option.bind (t_readsOne_5b recC a2 (nI (x % 2)) (nI x) mc) _ = _
      rw [hb1]; rfl
    · show Option.bind (r_readsOne_2b recR (nI x) mr) _ = _
      rw [hb2]; rfl
  | succ d ih =>
    intro i x F1 F2 mc mr h1 h2 h3 hx hC hR
    obtain ⟨F1', rfl⟩ : ∃ F', F1 = F' + 1 := ⟨F1 - 1, by omega⟩
    obtain ⟨F2', rfl⟩ : ∃ F', F2 = F' + 1 := ⟨F2 - 1, by omega⟩
    have hk := tk_name (pTK hB hR) (x := 12) (by decide)
    rw [show nI (sw 12) = (10 : Int32) from rfl, show nI 12 = (12 : Int32) from rfl] at hk
    have hg : ¬ (200 : Int32) ≤ nI x := nI_ge (b := 200) (by omega) (by decide)
    rcases c_takes hB hC (a := 12) (by decide) with ⟨q1, q2, m1, q3, q4, q5⟩ | ⟨q1, q2⟩
    · rcases p_takes hB hR (a := 10) (by decide) with ⟨g1, g2, m2, g3, g4, g5⟩ | ⟨g1, g2⟩
      · have hb1 : t_readsOne_5b recC a2 (nI (x % 2)) (nI x) mc = some (.inl (nI ((x + 1) % 2), nI (x + 1), m1)) := by
          unfold t_readsOne_5b t_readsOne_31
          rw [if_neg hg, q3, Option.bind_some, if_neg one_ne, ltE, ltE, nI_1]
          rcases (show x % 2 = 0 ∨ x % 2 = 1 by omega) with e | e
          · rw [e, show (x + 1) % 2 = 1 by omega, if_pos (show nI 0 = (0 : Int32) from rfl)]; rfl
          · rw [e, show (x + 1) % 2 = 0 by omega, if_neg (show ¬ nI 1 = (0 : Int32) by decide)]; rfl
        have hb2 : r_readsOne_2b recR (nI x) mr = some (.inl (nI (x + 1), m2)) := by
          unfold r_readsOne_2b
          rw [g3, Option.bind_some, if_neg one_ne, ltE, nI_1]
        obtain ⟨y, i', mc', mr', f1, f2, f3, f4, f5, f6, f7, f8, f9⟩ := ih (i + 1) (x + 1) F1' F2' m1 m2 (by omega) (by omega) (by omega) (by omega) q4 g4
        refine ⟨y, i', mc', mr', ?_, ?_, by omega, by omega, f5, f6, f7, fun L' => (q5 L').trans (f8 L'), g5.trans f9⟩
        · show Option.bind (t_readsOne_5b recC a2 (nI (x % 2)) (nI x) mc) _ = _
          rw [hb1]; exact f1
        · show Option.bind (r_readsOne_2b recR (nI x) mr) _ = _
          rw [hb2]; exact f2
      · exact absurd (hk.mp q1) g1
    · rcases p_takes hB hR (a := 10) (by decide) with ⟨g1, _⟩ | ⟨g1, g2⟩
      · exact absurd (hk.mpr g1) q1
      · have hb1 : t_readsOne_5b recC a2 (nI (x % 2)) (nI x) mc = some (.inr (nI (x % 2), mc)) := by
          unfold t_readsOne_5b
          rw [if_neg hg, q2, Option.bind_some, if_pos rfl]
        have hb2 : r_readsOne_2b recR (nI x) mr = some (.inr (nI x, mr)) := by
          unfold r_readsOne_2b
          rw [g2, Option.bind_some, if_pos rfl]
        refine ⟨x, i, mc, mr, ?_, ?_, Nat.le_refl _, by omega, by omega, hC, hR, fun _ => fC.rfl, Fl.rfl⟩
        · show Option.bind (t_readsOne_5b recC a2 (nI (x % 2)) (nI x) mc) _ = _
          rw [hb1]; rfl
        · show Option.bind (r_readsOne_2b recR (nI x) mr) _ = _
          rw [hb2]; rfl
def finC (rec : Int32 → M → Option (Int32 × M)) (a2 : Int32) (m : M) : Option (Int32 × M) :=
  if (3 : Int32) ≤ a2 then t_readsComparison m else Option.bind (t_takes (10021 : Int32) m) (fun z1 => (if z1.1 = 0 then t_readsComparison z1.2 else Option.bind (rec (a2 + (1 : Int32)) z1.2) (fun z2 => (if z2.1 = 0 then some ((0 : Int32), z2.2) else Option.bind (t_takes (10022 : Int32) z2.2) (fun z3 => (if z3.1 = 0 then some ((0 : Int32), z3.2) else some ((1 : Int32), z3.2)))))))
def finR (rec : M → Option (Int32 × M)) (m : M) : Option (Int32 × M) := if (m 76 10) = (240 : Int32) then r_readsWithin rec m else r_readsLike m
theorem one38 (rec : Int32 → M → Option (Int32 × M)) (a2 a3 : Int32) (m : M) : t_readsOne_38 rec a2 a3 m = Option.bind (finC rec a2 m) (fun z => t_readsOne_91 rec a3 z.1 z.2) := by
  unfold t_readsOne_38 finC
  by_cases c : (3 : Int32) ≤ a2
  · rw [if_pos c, if_pos c]; rfl
  · rw [if_neg c, if_neg c]
    cases t_takes (10021 : Int32) m with
    | none => rfl
    | some z1 =>
      rw [Option.bind_some, Option.bind_some]
      by_cases c1 : z1.1 = 0
      · rw [if_pos c1, if_pos c1]; rfl
      · rw [if_neg c1, if_neg c1]
        cases rec (a2 + 1) z1.2 with
        | none => rfl
        | some z2 =>
          rw [Option.bind_some, Option.bind_some]
          by_cases c2 : z2.1 = 0
          · rw [if_pos c2, if_pos c2]; rfl
          · rw [if_neg c2, if_neg c2]
            cases t_takes (10022 : Int32) z2.2 with
            | none => rfl
            | some z3 =>
              rw [Option.bind_some, Option.bind_some]
              by_cases c3 : z3.1 = 0
              · rw [if_pos c3, if_pos c3]; rfl
              · rw [if_neg c3, if_neg c3]; rfl
theorem pJ.mono {n : Nat} {t : Nat → Nat} {N : Nat} {K : Nat → Int32} {lev D D2 : Nat} {f g : M → Option (Int32 × M)} (h : pJ n t N K lev D f g) (hD : D ≤ D2) : pJ n t N K lev D2 f g := fun i Lc Lr mc mr h1 h2 h3 h4 h5 h6 => by
  rcases h i Lc Lr mc mr h1 h2 h3 h4 h5 h6 with ⟨mc', mr', i', c, q1, q2, ⟨g1, g2, g3, g4⟩, q4, q5⟩ | q
  · exact Or.inl ⟨mc', mr', i', c, q1, q2, ⟨g1, g2, Nat.le_trans g3 hD, g4⟩, q4, q5⟩
  · exact Or.inr q
theorem fin_ok {n : Nat} {t : Nat → Nat} {N : Nat} {K : Nat → Int32} (hB : pTB n t N K) {recC : Int32 → M → Option (Int32 × M)} {recR : M → Option (Int32 × M)} {lev D : Nat} (hlev : lev ≤ 3) (hD : 1 ≤ D) (hrec : lev < 3 → pJ n t N K (lev + 1) D (recC (nI (lev + 1))) recR) : pJ n t N K lev D (finC recC (nI lev)) (finR recR) := by
  intro i Lc Lr mc mr hC hR h12 h13 hLc hLr
  have hn := hB.1.1
  have hN := hB.2.1.1
  have hk := tk_sign (pTK hB hR) (x := 3) (by decide)
  rw [show nI (200 + sgn 3) = (240 : Int32) from rfl, show nI (10018 + 3) = (10021 : Int32) from rfl] at hk
  have hcmp := (cmp_ok hB lev).mono hD i Lc Lr mc mr hC hR h12 h13 hLc hLr
  by_cases hl : lev < 3
  · have hf : ∀ m, finC recC (nI lev) m = Option.bind (t_takes (10021 : Int32) m) (fun z1 => (if z1.1 = 0 then t_readsComparison z1.2 else Option.bind (recC (nI (lev + 1)) z1.2) (fun z2 => (if z2.1 = 0 then some ((0 : Int32), z2.2) else Option.bind (t_takes (10022 : Int32) z2.2) (fun z3 => (if z3.1 = 0 then some ((0 : Int32), z3.2) else some ((1 : Int32), z3.2))))))) := fun m => by
      unfold finC
      rw [if_neg (show ¬ (3 : Int32) ≤ nI lev from nI_ge (b := 3) hl (by decide)), nI_1]
    rcases c_takes hB hC (a := 10021) (by decide) with ⟨q1, q2, m1, q3, q4, q5⟩ | ⟨q1, q2⟩
    · have hr := hk.mp q1
      obtain ⟨r1, hr1⟩ : ∃ r1, r1 = wrF mr 76 12 (nI (lev + 1)) := ⟨_, rfl⟩
      have k1 : Fl [12] mr r1 := by rw [hr1]; exact Fl_w (by simp)
      have hRr1 : pR n t N i r1 := hR.fr (fun k hk => k1.k (by revert hk; simp; omega)) (k1.p (by decide)) (k1.p (by decide))
      obtain ⟨r2, e1, e2, e3⟩ := p_next hB hRr1 q2
      have g12 : r2 76 12 = nI (lev + 1) := by rw [e3.k (by decide), hr1, wrF_at]
      have g13 : r2 76 13 = nI Lr := by rw [e3.k (by decide), k1.k (by decide), h13]
      have f02 : ∀ L, fR L mr r2 := fun L => (k1.fR (by decide) L).trans (e3.fR (by decide) L)
      have hw : finR recR mr = Option.bind (recR r2) (fun z3 => (if z3.1 = 0 then some ((0 : Int32), z3.2) else Option.bind (r_takes (241 : Int32) z3.2) (fun z4 => (if z4.1 = 0 then some ((0 : Int32), z4.2) else lt (wrF z4.2 76 12 ((z4.2 76 12) - (1 : Int32))) (fun m5 => some ((1 : Int32), m5)))))) := by
        unfold finR
        rw [if_pos hr]
        unfold r_readsWithin
        rw [h12, if_neg (show ¬ nI lev = (3 : Int32) from fun q => by have := (nI_eq (b := 3) (by omega) (by decide)).mp q; omega), ltE, nI_1, ← hr1, e1, Option.bind_some]
      rcases hrec hl (i + 1) Lc Lr m1 r2 q4 e2 g12 g13 (by omega) (by omega) with ⟨m3, r3, i3, c, a1, a2, ⟨a3, a4, a5, a6, a7⟩, ⟨b1, b2, b3⟩, ⟨c1, c2, c3, c4, c5⟩⟩ | ⟨m3, r3, i3, a1, a2, a3, ⟨b1, b2, b3⟩, ⟨c1, c2⟩⟩
      · have hk2 := tk_sign (pTK hB c1) (x := 4) (by decide)
        rw [show nI (200 + sgn 4) = (241 : Int32) from rfl, show nI (10018 + 4) = (10022 : Int32) from rfl] at hk2
        rcases c_takes hB b1 (a := 10022) (by decide) with ⟨x1, x2, m4, x3, x4, x5⟩ | ⟨x1, x2⟩
        · rcases p_takes hB c1 (a := 241) (by decide) with ⟨y1, y2, r4, y3, y4, y5⟩ | ⟨y1, _⟩
          · obtain ⟨r5, hr5⟩ : ∃ r5, r5 = wrF r4 76 12 (nI lev) := ⟨_, rfl⟩
            have k5 : Fl [12] r4 r5 := by rw [hr5]; exact Fl_w (by simp)
            refine Or.inl ⟨m4, r5, i3 + 1, c, ?_, ?_, ⟨by omega, a4, a5, by omega, by omega⟩, ⟨x4, ?_, ?_⟩, ⟨?_, ?_, ?_, ?_, ?_⟩⟩
            · rw [hf, q3, Option.bind_some, if_neg one_ne, a1, Option.bind_some, if_neg one_ne, x3, Option.bind_some, if_neg one_ne]
            · rw [hw, a2, Option.bind_some, if_neg one_ne, y3, Option.bind_some, if_neg one_ne, ltE]
              show some (1, wrF r4 76 12 (r4 76 12 - 1)) = _
              rw [y5.k (by decide), c2, nI_pred, ← hr5]
            · exact b2.congr (fun j _ hj => (x5 (Lc + c.cc.length)).2 j (by omega))
            · exact (q5 Lc).trans (b3.trans (x5 Lc))
            · exact y4.fr (fun k hk => k5.k (by revert hk; simp; omega)) (k5.p (by decide)) (k5.p (by decide))
            · rw [hr5, wrF_at]
            · rw [k5.k (by decide), y5.k (by decide), c3]
            · exact c4.congr (fun j _ hj => by rw [k5.p (by decide), y5.p (by decide)])
            · exact (f02 Lr).trans (c5.trans ((y5.fR (by decide) Lr).trans (k5.fR (by decide) Lr)))
          · exact absurd (hk2.mp x1) y1
        · rcases p_takes hB c1 (a := 241) (by decide) with ⟨y1, _⟩ | ⟨y1, y2⟩
          · exact absurd (hk2.mpr y1) x1
          · refine Or.inr ⟨m3, r3, i3, ?_, ?_, b1.2.2.1, ⟨b1.2.1, ⟨_, b1.2.2.2.2, b1.2.2.2.1⟩, (q5 0).trans (b3.mono (Nat.zero_le _))⟩, ⟨c1.2.1, (f02 0).trans (c5.mono (Nat.zero_le _))⟩⟩
            · rw [hf, q3, Option.bind_some, if_neg one_ne, a1, Option.bind_some, if_neg one_ne, x2, Option.bind_some, if_pos rfl]
            · rw [hw, a2, Option.bind_some, if_neg one_ne, y2, Option.bind_some, if_pos rfl]
      · refine Or.inr ⟨m3, r3, i3, ?_, ?_, a3, ⟨b1, b2, (q5 0).trans b3⟩, ⟨c1, (f02 0).trans c2⟩⟩
        · rw [hf, q3, Option.bind_some, if_neg one_ne, a1, Option.bind_some, if_pos rfl]
        · rw [hw, a2, Option.bind_some, if_pos rfl]
    · have e1 : finC recC (nI lev) mc = t_readsComparison mc := by rw [hf, q2, Option.bind_some, if_pos rfl]
      have e2 : finR recR mr = r_readsLike mr := if_neg (fun q => q1 (hk.mpr q))
      unfold jOK jNO at hcmp ⊢
      rw [e1, e2]
      exact hcmp
  · have el : lev = 3 := by omega
    have e1 : finC recC (nI lev) mc = t_readsComparison mc := if_pos (by rw [el]; decide)
    by_cases c : mr 76 10 = 240
    · have q1 := hk.mpr c
      refine Or.inr ⟨mc, mr, i, ?_, ?_, hC.2.2.1, ⟨hC.2.1, ⟨Lc, hC.2.2.2.2, hC.2.2.2.1⟩, fC.rfl⟩, ⟨hR.2.1, fR.rfl⟩⟩
      · rw [e1]
        unfold t_readsComparison
        rcases c_next hB hC (a := 13) (b := 10017) (by decide) with ⟨x1, x2, _⟩ | ⟨x1, x2⟩
        · rw [q1] at x2
          exact absurd x2 (by decide)
        · rw [x2, Option.bind_some, if_pos rfl]
      · unfold finR
        rw [if_pos c]
        unfold r_readsWithin
        rw [h12, el, if_pos (by decide)]
    · have e2 : finR recR mr = r_readsLike mr := if_neg c
      unfold jOK jNO at hcmp ⊢
      rw [e1, e2]
      exact hcmp
