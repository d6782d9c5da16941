/-! chains of conditions on both sides, and conditions in brackets -/
theorem chain_loop {n : Nat} {t : Nat → Nat} {N : Nat} {K : Nat → Int32} (hB : pTB n t N K) {f g : M → Option (Int32 × M)} {lev D : Nat} {tc tr : Int32} {s1 s2 : Nat} {comb : CD → CD → CD} (hf : pJ n t N K lev D f g) (htk : ∀ c r v, TKx c r v → (c = tc ↔ r = tr)) (htc : 0 ≤ tc) (htr : ¬ tr = -1) (hcc : ∀ a b : CD, (comb a b).cc = a.cc ++ (b.cc ++ [s1])) (hrc : ∀ a b : CD, (comb a b).rc = a.rc ++ (b.rc ++ [s2])) (hdep : ∀ a b : CD, (comb a b).dep = max a.dep (b.dep + 1)) (hok : ∀ a b : CD, a.ok → b.ok → (comb a b).ok) {i0 Lc Lr : Nat} (hLc : Lc ≤ i0) (hLr : Lr ≤ i0) : ∀ (d i x F1 F2 : Nat) (acc : CD) (mc mr : M), N < i + d → d < F1 → d < F2 → x ≤ i → i0 < i → acc.ok → acc.dep ≤ D + 1 → acc.cc.length + i0 ≤ i → acc.rc.length + i0 ≤ i → pC K N i (Lc + acc.cc.length) mc → CodeAt (mc 45) Lc acc.cc → pR n t N i mr → mr 76 12 = nI lev → mr 76 13 = nI (Lr + acc.rc.length) → CodeAt (mr 83) Lr acc.rc →
    (∃ mc' mr' i' c, iter (fun z => chB f tc (nI s1) z.1 z.2) F1 (nI x, mc) = some (.inl mc') ∧ iter (fun z => chD g tr (nI s2) z.1 z.2) F2 (1, mr) = some (1, mr') ∧ (i ≤ i' ∧ CD.ok c ∧ c.dep ≤ D + 1 ∧ c.cc.length + i0 ≤ i' ∧ c.rc.length + i0 ≤ i') ∧ (pC K N i' (Lc + c.cc.length) mc' ∧ CodeAt (mc' 45) Lc c.cc ∧ fC Lc mc mc') ∧ (pR n t N i' mr' ∧ mr' 76 12 = nI lev ∧ mr' 76 13 = nI (Lr + c.rc.length) ∧ CodeAt (mr' 83) Lr c.rc ∧ fR Lr mr mr')) ∨
    (∃ mc' mr' i', iter (fun z => chB f tc (nI s1) z.1 z.2) F1 (nI x, mc) = some (.inr mc') ∧ iter (fun z => chD g tr (nI s2) z.1 z.2) F2 (1, mr) = some (0, mr') ∧ i' ≤ N ∧ (mc' 7 4 = nI i' ∧ (∃ L, L ≤ 200 ∧ mc' 8 5 = nI L) ∧ fC 0 mc mc') ∧ (mr' 76 9 = nI (wSt n t i') ∧ fR 0 mr mr')) := by
  have hn := hB.1.1
  have hN := hB.2.1.1
  intro d
  induction d with
  | zero =>
    intro i x F1 F2 acc mc mr e1 e2 e3 e4 e5 e6 e7 e8 e9 hC
    have := hC.2.2.1
    omega
  | succ d ih =>
    intro i x F1 F2 acc mc mr e1 e2 e3 e4 e5 e6 e7 e8 e9 hC hcode hR h12 h13 hrcode
    have hi := hC.2.2.1
    obtain ⟨F1', rfl⟩ : ∃ F', F1 = F' + 1 := ⟨F1 - 1, by omega⟩
    obtain ⟨F2', rfl⟩ : ∃ F', F2 = F' + 1 := ⟨F2 - 1, by omega⟩
    have hk := htk _ _ _ (pTK hB hR)
    have hd : ∀ m, chD g tr (nI s2) 1 m = Option.bind (r_takes tr m) (fun z1 => (if z1.1 = 0 then some (.inr (1, z1.2)) else Option.bind (g z1.2) (fun z2 => (if z2.1 = 0 then some (.inl (z2.1, z2.2)) else Option.bind (r_lays (nI s2) z2.2) (fun m3 => some (.inl (z2.1, m3))))))) := fun m => if_neg one_ne
    rcases c_takes hB hC htc with ⟨q1, q2, m1, q3, q4, q5⟩ | ⟨q1, q2⟩
    · have hb : ∀ m, chB f tc (nI s1) (nI x) m = Option.bind (t_takes tc m) (fun z1 => (if z1.1 = 0 then some (.inr (.inl z1.2)) else Option.bind (f z1.2) (fun z2 => (if z2.1 = 0 then some (.inr (.inr z2.2)) else Option.bind (u_addStep (nI s1) z2.2) (fun m3 => lt (nI x + (1 : Int32)) (fun w4 : Int32 => some (.inl (w4, m3)))))))) := fun m => if_neg (show ¬ (200 : Int32) ≤ nI x from nI_ge (b := 200) (by omega) (by decide))
      rcases p_takes hB hR htr with ⟨g1, g2, r1, g3, g4, g5⟩ | ⟨g1, _⟩
      · rcases hf (i + 1) (Lc + acc.cc.length) (Lr + acc.rc.length) m1 r1 q4 g4 ((g5.k (by decide)).trans h12) ((g5.k (by decide)).trans h13) (by omega) (by omega) with ⟨m2, r2, i2, c, a1, a2, ⟨a3, a4, a5, a6, a7⟩, ⟨b1, b2, b3⟩, ⟨c1, c2, c3, c4, c5⟩⟩ | ⟨m2, r2, i2, a1, a2, a3, ⟨b1, b2, b3⟩, ⟨c1, c2⟩⟩
        · have hi2 := b1.2.2.1
          obtain ⟨m3, x1, x2, x3, x4⟩ := c_add b1 (by omega) (nI s1)
          obtain ⟨r3, y1, y2, y3, y4, y5⟩ := p_lays (by omega : Lr + acc.rc.length + c.rc.length < 200) c3 (nI s2)
          have lcc : (comb acc c).cc.length = acc.cc.length + (c.cc.length + 1) := by rw [hcc, List.length_append, List.length_append]; rfl
          have lrc : (comb acc c).rc.length = acc.rc.length + (c.rc.length + 1) := by rw [hrc, List.length_append, List.length_append]; rfl
          have fc : fC Lc mc m3 := (q5 Lc).trans ((b3.mono (by omega)).trans (x3.mono (by omega)))
          have fr : fR Lr mr r3 := (g5.fR (by decide) Lr).trans ((c5.mono (by omega)).trans ((lays_fR y4 y5).mono (by omega)))
          have hbb : chB f tc (nI s1) (nI x) mc = some (.inl (nI (x + 1), m3)) := by
            rw [hb, q3, Option.bind_some, if_neg one_ne, a1, Option.bind_some, if_neg one_ne, x1, Option.bind_some, ltE, nI_1]
          have hdd : chD g tr (nI s2) 1 mr = some (.inl (1, r3)) := by
            rw [hd, g3, Option.bind_some, if_neg one_ne, a2, Option.bind_some, if_neg one_ne, y1, Option.bind_some]
          have hih := ih i2 (x + 1) F1' F2' (comb acc c) m3 r3 (by omega) (by omega) (by omega) (by omega) (by omega) (hok _ _ e6 a4) (by rw [hdep]; omega) (by rw [lcc]; omega) (by rw [lrc]; omega) (by rw [lcc, show Lc + (acc.cc.length + (c.cc.length + 1)) = Lc + acc.cc.length + c.cc.length + 1 by omega]; exact x2) (by
            rw [hcc, CodeAt_append, CodeAt_append]
            refine ⟨hcode.congr (fun j z1 z2 => ?_), b2.congr (fun j z1 z2 => x3.2 j (by omega)), x4, trivial⟩
            rw [x3.2 j (by omega), b3.2 j (by omega), (q5 (j + 1)).2 j (by omega)]) (lays_pR c1 y5) ((y5 76 12 (by decide) (by decide)).trans c2) (by rw [y2, lrc]; congr 1; omega) (by
            rw [hrc, CodeAt_append, CodeAt_append]
            refine ⟨hrcode.congr (fun j z1 z2 => ?_), c4.congr (fun j z1 z2 => y4 j (by omega)), y3, trivial⟩
            rw [y4 j (by omega), c5.2 j (by omega), g5.p (by decide)])
          have hi1 : iter (fun z => chB f tc (nI s1) z.1 z.2) (F1' + 1) (nI x, mc) = iter (fun z => chB f tc (nI s1) z.1 z.2) F1' (nI (x + 1), m3) := by
            show Option.bind (chB f tc (nI s1) (nI x) mc) _ = _
            rw [hbb]; rfl
          have hi2' : iter (fun z => chD g tr (nI s2) z.1 z.2) (F2' + 1) (1, mr) = iter (fun z => chD g tr (nI s2) z.1 z.2) F2' (1, r3) := by
            show Option.bind (chD g tr (nI s2) 1 mr) _ = _
            rw [hdd]; rfl
          rw [hi1, hi2']
          rcases hih with ⟨mc', mr', i', c', w1, w2, ⟨w3, w4⟩, ⟨w5, w6, w7⟩, ⟨w8, w9, w10, w11, w12⟩⟩ | ⟨mc', mr', i', w1, w2, w3, ⟨w4, w5, w6⟩, ⟨w7, w8⟩⟩
          · exact Or.inl ⟨mc', mr', i', c', w1, w2, ⟨by omega, w4⟩, ⟨w5, w6, fc.trans w7⟩, ⟨w8, w9, w10, w11, fr.trans w12⟩⟩
          · exact Or.inr ⟨mc', mr', i', w1, w2, w3, ⟨w4, w5, (fc.mono (Nat.zero_le _)).trans w6⟩, ⟨w7, (fr.mono (Nat.zero_le _)).trans w8⟩⟩
        · have hbb : chB f tc (nI s1) (nI x) mc = some (.inr (.inr m2)) := by
            rw [hb, q3, Option.bind_some, if_neg one_ne, a1, Option.bind_some, if_pos rfl]
          have hdd : chD g tr (nI s2) 1 mr = some (.inl (0, r2)) := by
            rw [hd, g3, Option.bind_some, if_neg one_ne, a2, Option.bind_some, if_pos rfl]
          obtain ⟨F2'', rfl⟩ : ∃ F', F2' = F' + 1 := ⟨F2' - 1, by omega⟩
          have hz : iter (fun z => chD g tr (nI s2) z.1 z.2) (F2'' + 1) (0, r2) = some (0, r2) := by
            show Option.bind (chD g tr (nI s2) 0 r2) _ = _
            rw [show chD g tr (nI s2) 0 r2 = some (.inr (0, r2)) from if_pos rfl]
            rfl
          refine Or.inr ⟨m2, r2, i2, ?_, ?_, a3, ⟨b1, b2, (q5 0).trans b3⟩, ⟨c1, (g5.fR (by decide) 0).trans c2⟩⟩
          · show Option.bind (chB f tc (nI s1) (nI x) mc) _ = _
            rw [hbb]; rfl
          · show Option.bind (chD g tr (nI s2) 1 mr) _ = _
            rw [hdd]
            exact hz
      · exact absurd (hk.mp q1) g1
    · rcases p_takes hB hR htr with ⟨g1, _⟩ | ⟨g1, g2⟩
      · exact absurd (hk.mpr g1) q1
      · have hbb : chB f tc (nI s1) (nI x) mc = some (.inr (.inl mc)) := by
          unfold chB
          by_cases c : (200 : Int32) ≤ nI x
          · rw [if_pos c]
          · rw [if_neg c, q2, Option.bind_some, if_pos rfl]
        have hdd : chD g tr (nI s2) 1 mr = some (.inr (1, mr)) := by
          rw [hd, g2, Option.bind_some, if_pos rfl]
        refine Or.inl ⟨mc, mr, i, acc, ?_, ?_, ⟨Nat.le_refl _, e6, e7, e8, e9⟩, ⟨hC, hcode, fC.rfl⟩, ⟨hR, h12, h13, hrcode, fR.rfl⟩⟩
        · show Option.bind (chB f tc (nI s1) (nI x) mc) _ = _
          rw [hbb]; rfl
        · show Option.bind (chD g tr (nI s2) 1 mr) _ = _
          rw [hdd]; rfl
theorem chain_ok {n : Nat} {t : Nat → Nat} {N : Nat} {K : Nat → Int32} (hB : pTB n t N K) {f g : M → Option (Int32 × M)} {lev D : Nat} {tc tr : Int32} {s1 s2 : Nat} {comb : CD → CD → CD} (hf : pJ n t N K lev D f g) (htk : ∀ c r v, TKx c r v → (c = tc ↔ r = tr)) (htc : 0 ≤ tc) (htr : ¬ tr = -1) (hcc : ∀ a b : CD, (comb a b).cc = a.cc ++ (b.cc ++ [s1])) (hrc : ∀ a b : CD, (comb a b).rc = a.rc ++ (b.rc ++ [s2])) (hdep : ∀ a b : CD, (comb a b).dep = max a.dep (b.dep + 1)) (hok : ∀ a b : CD, a.ok → b.ok → (comb a b).ok) : pJ n t N K lev (D + 1) (chC f tc (nI s1)) (chR g tr (nI s2)) := by
  intro i Lc Lr mc mr hC hR h12 h13 hLc hLr
  have hn := hB.1.1
  have hN := hB.2.1.1
  unfold jOK jNO
  rcases hf i Lc Lr mc mr hC hR h12 h13 hLc hLr with ⟨m1, r1, i1, c, a1, a2, ⟨a3, a4, a5, a6, a7⟩, ⟨b1, b2, b3⟩, ⟨c1, c2, c3, c4, c5⟩⟩ | ⟨m1, r1, i1, a1, a2, a3, ⟨b1, b2, b3⟩, ⟨c1, c2⟩⟩
  · have hi1 := b1.2.2.1
    have hl := chain_loop hB hf htk htc htr hcc hrc hdep hok hLc hLr (N + 1) i1 0 FU FU c m1 r1 (by omega) (by unfold FU; omega) (by unfold FU; omega) (Nat.zero_le _) a3 a4 (by omega) a6 a7 b1 b2 c1 c2 c3 c4
    have e1 : chC f tc (nI s1) mc = Option.bind (iter (fun z => chB f tc (nI s1) z.1 z.2) FU (nI 0, m1)) (fun r => (match r with
  | .inl r => some ((1 : Int32), r)
  | .inr r => some ((0 : Int32), r))) := by
      unfold chC
      rw [a1, Option.bind_some, if_neg one_ne]
      rfl
    have e2 : chR g tr (nI s2) mr = Option.bind (iter (fun z => chD g tr (nI s2) z.1 z.2) FU (1, r1)) (fun r => some ((r.1 &&& 1), r.2)) := by
      unfold chR
      rw [a2, Option.bind_some]
    rw [e1, e2]
    rcases hl with ⟨mc', mr', i', c', w1, w2, ⟨w3, w4⟩, ⟨w5, w6, w7⟩, ⟨w8, w9, w10, w11, w12⟩⟩ | ⟨mc', mr', i', w1, w2, w3, ⟨w4, w5, w6⟩, ⟨w7, w8⟩⟩
    · refine Or.inl ⟨mc', mr', i', c', ?_, ?_, ⟨by omega, w4⟩, ⟨w5, w6, b3.trans w7⟩, ⟨w8, w9, w10, w11, c5.trans w12⟩⟩
      · rw [w1]; rfl
      · rw [w2, Option.bind_some, oneAnd]
    · refine Or.inr ⟨mc', mr', i', ?_, ?_, w3, ⟨w4, w5, (b3.mono (Nat.zero_le _)).trans w6⟩, ⟨w7, (c5.mono (Nat.zero_le _)).trans w8⟩⟩
      · rw [w1]; rfl
      · rw [w2, Option.bind_some, zeroAnd]
  · refine Or.inr ⟨m1, r1, i1, ?_, ?_, a3, ⟨b1, b2, b3⟩, ⟨c1, c2⟩⟩
    · unfold chC
      rw [a1, Option.bind_some, if_pos rfl]
    · unfold chR
      rw [a2, Option.bind_some]
      have hz : iter (fun z => chD g tr (nI s2) z.1 z.2) FU (0, r1) = some (0, r1) := by
        show Option.bind (chD g tr (nI s2) 0 r1) _ = _
        rw [show chD g tr (nI s2) 0 r1 = some (.inr (0, r1)) from if_pos rfl]
        rfl
      rw [hz, Option.bind_some, zeroAnd]
theorem cond_step {n : Nat} {t : Nat → Nat} {N : Nat} {K : Nat → Int32} (hB : pTB n t N K) {recC : Int32 → M → Option (Int32 × M)} {recR : M → Option (Int32 × M)} {lev D : Nat} (hlev : lev ≤ 3) (hD : 1 ≤ D) (hrec : lev < 3 → pJ n t N K (lev + 1) D (recC (nI (lev + 1))) recR) : pJ n t N K lev (D + 2) (t_readsCond recC (nI lev)) (r_readsCondition recR) := by
  have h1 := one_ok hB hlev hD hrec
  have h2 : pJ n t N K lev (D + 1) (t_readsAll recC (nI lev)) (r_readsAll recR) := by
    rw [all_ch, rall_ch]
    exact chain_ok hB (s1 := 11) (s2 := 10013) (comb := CD.and) h1 (fun c r v h => tk_name h (x := 11) (by decide)) (by decide) (by decide) (fun a b => CD.cc_and) (fun a b => CD.rc_and) (fun a b => CD.dep_and) (fun a b x y => CD.ok_and x y)
  rw [cond_ch, rcond_ch]
  exact chain_ok hB (s1 := 10) (s2 := 10014) (comb := CD.or) h2 (fun c r v h => tk_name h (x := 10) (by decide)) (by decide) (by decide) (fun a b => CD.cc_or) (fun a b => CD.rc_or) (fun a b => CD.dep_or) (fun a b x y => CD.ok_or x y)
theorem cond_ok {n : Nat} {t : Nat → Nat} {N : Nat} {K : Nat → Int32} (hB : pTB n t N K) : pJ n t N K 0 9 (t_readsCond_d 6 (nI 0)) (r_readsCondition_d 6) := by
  have h3 : pJ n t N K 3 3 (t_readsCond_d 3 (nI 3)) (r_readsCondition_d 3) := cond_step hB (recC := t_readsCond_d 2) (recR := r_readsCondition_d 2) (lev := 3) (D := 1) (by decide) (by decide) (fun h => absurd h (by decide))
  have h2 : pJ n t N K 2 5 (t_readsCond_d 4 (nI 2)) (r_readsCondition_d 4) := cond_step hB (recC := t_readsCond_d 3) (recR := r_readsCondition_d 3) (lev := 2) (D := 3) (by decide) (by decide) (fun _ => h3)
  have h1 : pJ n t N K 1 7 (t_readsCond_d 5 (nI 1)) (r_readsCondition_d 5) := cond_step hB (recC := t_readsCond_d 4) (recR := r_readsCondition_d 4) (lev := 1) (D := 5) (by decide) (by decide) (fun _ => h2)
  exact cond_step hB (recC := t_readsCond_d 5) (recR := r_readsCondition_d 5) (lev := 0) (D := 7) (by decide) (by decide) (fun _ => h1)
