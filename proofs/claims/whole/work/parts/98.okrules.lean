/-! all rules: the loops of both sides, and what both lay down -/
theorem tk_end {c r v : Int32} (h : TKx c r v) : c = -2 ↔ r = -1 := by
  rcases h with (⟨k, hk, rfl, rfl⟩ | ⟨y, hy, rfl, rfl, _⟩ | ⟨j, hj, rfl, rfl⟩ | ⟨rfl, y, h1, h2, rfl, h4⟩) | ⟨rfl, rfl⟩
  · have := sw_lt hk
    exact ⟨fun q => absurd q.symm (m2_ne (by omega)), fun q => absurd q.symm (m1_ne (by omega))⟩
  · exact ⟨fun q => absurd q.symm (m2_ne (by omega)), fun q => absurd q (by decide)⟩
  · have := sgn_hi j hj
    exact ⟨fun q => absurd q.symm (m2_ne (by omega)), fun q => absurd q.symm (m1_ne (by omega))⟩
  · exact ⟨fun q => absurd q (by decide), fun q => absurd q.symm (m1_ne (by omega))⟩
  · exact ⟨fun _ => rfl, fun _ => rfl⟩
theorem rules_loop {n : Nat} {t : Nat → Nat} {N : Nat} {K : Nat → Int32} (hB : pTB n t N K) : ∀ (d i F1 F2 : Nat) (rs : List Rl) (mc mr : M), N < i + d → d < F1 → d < F2 → gC K N i rs mc → gR n t N i rs mr → (rs.flatMap Rl.cc).length ≤ i → (rs.flatMap Rl.rc).length ≤ i →
    (∃ mc' mr' i' rs', iter (fun z => t_readInto_15b z.1 z.2) F1 (nI rs.length, mc) = some (.inl mc') ∧ iter (fun z => r_rules_18b z.1 z.2.1 z.2.2) F2 (nI rs.length, 1, mr) = some (nI rs'.length, 1, mr') ∧ gC K N i' rs' mc' ∧ gR n t N i' rs' mr' ∧ frC mc mc' ∧ frR mr mr') ∨
    (∃ mc' mr' i' a, iter (fun z => t_readInto_15b z.1 z.2) F1 (nI rs.length, mc) = some (.inr mc') ∧ iter (fun z => r_rules_18b z.1 z.2.1 z.2.2) F2 (nI rs.length, 1, mr) = some (a, 0, mr') ∧ i' ≤ N ∧ mc' 7 4 = nI i' ∧ frC mc mc' ∧ mr' 76 9 = nI (wSt n t i') ∧ frR mr mr') := by
  have hn := hB.1.1
  have hN := hB.2.1.1
  intro d
  induction d with
  | zero =>
    intro i F1 F2 rs mc mr e1 e2 e3 hC
    have := hC.1.2.2.1
    omega
  | succ d ih =>
    intro i F1 F2 rs mc mr e1 e2 e3 hC hR hlc hlr
    have hi := hC.1.2.2.1
    have h8 : rs.length ≤ 8 := hC.2.2.1
    obtain ⟨F1', rfl⟩ : ∃ F', F1 = F' + 1 := ⟨F1 - 1, by omega⟩
    obtain ⟨F2', rfl⟩ : ∃ F', F2 = F' + 1 := ⟨F2 - 1, by omega⟩
    have hrd : rdI mc 47 (mc 7 4) = some (K i) := by rw [hC.1.2.1, rdI_at (by rw [len47]; omega) (by rw [len47]; decide), hC.1.1]
    have hend := tk_end (pTK hB hR.1)
    have hz : ∀ (F : Nat) (a : Int32) (m : M), iter (fun z => r_rules_18b z.1 z.2.1 z.2.2) (F + 1) (a, 0, m) = some (a, 0, m) := fun F a m => by
      show Option.bind (r_rules_18b a 0 m) _ = _
      rw [show r_rules_18b a 0 m = some (.inr (a, 0, m)) from if_pos rfl]
      rfl
    by_cases c : K i = -2
    · refine Or.inl ⟨mc, mr, i, rs, ?_, ?_, hC, hR, fun _ _ _ => rfl, fun _ _ _ => rfl⟩
      · show Option.bind (t_readInto_15b (nI rs.length) mc) _ = _
        rw [show t_readInto_15b (nI rs.length) mc = some (.inr (.inl mc)) by unfold t_readInto_15b; rw [hrd, Option.bind_some, if_pos c]]
        rfl
      · show Option.bind (r_rules_18b (nI rs.length) 1 mr) _ = _
        rw [show r_rules_18b (nI rs.length) 1 mr = some (.inr (nI rs.length, 1, mr)) by unfold r_rules_18b; rw [if_neg one_ne, if_pos (hend.mp c)]]
        rfl
    · have hd : r_rules_18b (nI rs.length) 1 mr = Option.bind (r_readsRule (nI rs.length) mr) (fun z1 => some (.inl (nI (rs.length + 1), z1.1, z1.2))) := by
        unfold r_rules_18b
        rw [if_neg one_ne, if_neg (fun q => c (hend.mpr q))]
        cases r_readsRule (nI rs.length) mr with
        | none => rfl
        | some z => rw [Option.bind_some, Option.bind_some, ltE, nI_1]
      by_cases c8 : rs.length = 8
      · obtain ⟨F2'', rfl⟩ : ∃ F', F2' = F' + 1 := ⟨F2' - 1, by omega⟩
        refine Or.inr ⟨mc, mr, i, nI (rs.length + 1), ?_, ?_, hi, hC.1.2.1, fun _ _ _ => rfl, hR.1.2.1, fun _ _ _ => rfl⟩
        · show Option.bind (t_readInto_15b (nI rs.length) mc) _ = _
          rw [show t_readInto_15b (nI rs.length) mc = some (.inr (.inr mc)) by unfold t_readInto_15b; rw [hrd, Option.bind_some, if_neg c, c8, if_pos (by decide)]]
          rfl
        · show Option.bind (r_rules_18b (nI rs.length) 1 mr) _ = _
          rw [hd, show r_readsRule (nI rs.length) mr = some (0, mr) by unfold r_readsRule; rw [c8, if_pos (by decide)], Option.bind_some]
          exact hz F2'' (nI (rs.length + 1)) mr
      · have hl : rs.length < 8 := by omega
        have hb : t_readInto_15b (nI rs.length) mc = Option.bind (t_reads mc) (fun z2 => (if z2.1 = 0 then some (.inr (.inr z2.2)) else some (.inl (nI (rs.length + 1), z2.2)))) := by
          unfold t_readInto_15b
          rw [hrd, Option.bind_some, if_neg c, if_neg (show ¬ (8 : Int32) ≤ nI rs.length from nI_ge (b := 8) hl (by decide)), ]
          cases t_reads mc with
          | none => rfl
          | some z => rw [Option.bind_some, Option.bind_some, ltE, nI_1]
        rcases rule_ok hB hl hC hR hlc hlr with ⟨m1, r1, i1, x, a1, a2, a3, a4, a5, a6, a7, a8, a9⟩ | ⟨m1, r1, i1, a1, a2, a3, a4, a5, a6, a7⟩
        · have hlen : (rs ++ [x]).length = rs.length + 1 := by rw [List.length_append]; rfl
          have hih := ih i1 F1' F2' (rs ++ [x]) m1 r1 (by omega) (by omega) (by omega) a4 a5 a6 a7
          rw [hlen] at hih
          have h1 : iter (fun z => t_readInto_15b z.1 z.2) (F1' + 1) (nI rs.length, mc) = iter (fun z => t_readInto_15b z.1 z.2) F1' (nI (rs.length + 1), m1) := by
            show Option.bind (t_readInto_15b (nI rs.length) mc) _ = _
            rw [hb, a1]; rfl
          have h2 : iter (fun z => r_rules_18b z.1 z.2.1 z.2.2) (F2' + 1) (nI rs.length, 1, mr) = iter (fun z => r_rules_18b z.1 z.2.1 z.2.2) F2' (nI (rs.length + 1), 1, r1) := by
            show Option.bind (r_rules_18b (nI rs.length) 1 mr) _ = _
            rw [hd, a2]; rfl
          rw [h1, h2]
          rcases hih with ⟨mc', mr', i', rs', w1, w2, w3, w4, w5, w6⟩ | ⟨mc', mr', i', a, w1, w2, w3, w4, w5, w6, w7⟩
          · exact Or.inl ⟨mc', mr', i', rs', w1, w2, w3, w4, a8.trans w5, a9.trans w6⟩
          · exact Or.inr ⟨mc', mr', i', a, w1, w2, w3, w4, a8.trans w5, w6, a9.trans w7⟩
        · obtain ⟨F2'', rfl⟩ : ∃ F', F2' = F' + 1 := ⟨F2' - 1, by omega⟩
          refine Or.inr ⟨m1, r1, i1, nI (rs.length + 1), ?_, ?_, a3, a4, a5, a6, a7⟩
          · show Option.bind (t_readInto_15b (nI rs.length) mc) _ = _
            rw [hb, a1]; rfl
          · show Option.bind (r_rules_18b (nI rs.length) 1 mr) _ = _
            rw [hd, a2, Option.bind_some]
            exact hz F2'' (nI (rs.length + 1)) r1
/-- cells from a place into the row -/
theorem lay_loop {body : Int32 → M → Option ((Int32 × M) ⊕ M)} {s B T : Nat} {R : M → Prop} (hs : s ≠ 77) (hT : T ≤ len s) (hT2 : B + T ≤ 315) (hls : len s < 1000) (hR : ∀ m f, R m → R (mset m 77 f)) (hb : ∀ j m, R m → j ≤ T → body (nI j) m = (if nI T ≤ nI j then some (.inr m) else Option.bind (rdI m s (nI j)) (fun v1 => Option.bind (wrI m 77 (nI B + nI j) v1) (fun m2 => lt (nI j + (1 : Int32)) (fun w3 : Int32 => some (.inl (w3, m2))))))) : ∀ (d j F : Nat) (m : M), R m → j + d = T → d < F → ∃ m', iter (fun z => body z.1 z.2) F (nI j, m) = some m' ∧ (∀ p, p ≠ 77 → m' p = m p) ∧ (∀ q, j ≤ q → q < T → m' 77 (B + q) = m s q) ∧ (∀ q, ¬ (B + j ≤ q ∧ q < B + T) → m' 77 q = m 77 q) := by
  intro d
  induction d with
  | zero =>
    intro j F m hRm h1 h2
    obtain ⟨F', rfl⟩ : ∃ F', F = F' + 1 := ⟨F - 1, by omega⟩
    refine ⟨m, ?_, fun _ _ => rfl, fun q x1 x2 => by omega, fun _ _ => rfl⟩
    show Option.bind (body (nI j) m) _ = _
    rw [hb j m hRm (by omega), if_pos (nI_le (by omega) (by omega))]
    rfl
  | succ d ih =>
    intro j F m hRm h1 h2
    obtain ⟨F', rfl⟩ : ∃ F', F = F' + 1 := ⟨F - 1, by omega⟩
    obtain ⟨m1, hm1⟩ : ∃ m1, m1 = mset m 77 (upd (m 77) (B + j) (m s j)) := ⟨_, rfl⟩
    have hbb : body (nI j) m = some (.inl (nI (j + 1), m1)) := by
      rw [hb j m hRm (by omega), if_neg (nI_ge (by omega) (by omega)), rdI_at (by omega) (by omega), Option.bind_some, nI_add, wr77 (by omega), Option.bind_some, ltE, nI_1, hm1]
    obtain ⟨m2, f1, f2, f3, f4⟩ := ih (j + 1) F' m1 (by rw [hm1]; exact hR _ _ hRm) (by omega) (by omega)
    refine ⟨m2, ?_, fun p hp => by rw [f2 p hp, hm1, mset_ne hp], fun q x1 x2 => ?_, fun q hq => ?_⟩
    · show Option.bind (body (nI j) m) _ = _
      rw [hbb]; exact f1
    · by_cases e : q = j
      · subst e
        rw [f4 _ (by omega), hm1, mset_same, upd_at]
      · rw [f3 q (by omega) x2, hm1, mset_ne hs]
    · rw [f4 q (by omega), hm1, mset_same, upd_off (by omega)]
theorem r_rules_42_ok {m : M} {q L : Nat} (hq : q ≤ 8) (hL : L ≤ 200) (h13 : m 76 13 = nI L) : ∃ m', r_rules_42 (nI q) 1 m = some (nI q, m') ∧ m' 76 6 = 0 ∧ (∀ p k, p ≠ 77 → ¬ (p = 76 ∧ k = 6) → m' p k = m p k) ∧ m' 77 7 = nI q ∧ (∀ j, j < 3 * q → m' 77 (91 + j) = m 84 j) ∧ (∀ j, j < L → m' 77 (115 + j) = m 83 j) ∧ (∀ j, j < 91 → j ≠ 7 → m' 77 j = m 77 j) := by
  obtain ⟨m1, hm1⟩ : ∃ m1, m1 = mset (wrF m 76 6 0) 77 (upd ((wrF m 76 6 0) 77) 7 (nI q)) := ⟨_, rfl⟩
  have h1 : r_rules_42 (nI q) 1 m = r_rules_69 (nI q) 0 m1 := by
    unfold r_rules_42
    rw [ltE, if_neg one_ne, show (7 : Int32) = nI 7 from rfl, wr77 (by decide), Option.bind_some, hm1]
  obtain ⟨m2, f1, f2, f3, f4⟩ := lay_loop (body := fun j m => r_rules_69b (nI q) j m) (s := 84) (B := 91) (T := 3 * q) (R := fun _ => True) (by decide) (by rw [len84]; omega) (by omega) (by rw [len84]; decide) (fun _ _ _ => trivial) (fun j m _ _ => by
    show r_rules_69b (nI q) (nI j) m = _
    unfold r_rules_69b
    rw [n3, pk_mul]
    rfl) (3 * q) 0 FU m1 trivial (by omega) (by unfold FU; omega)
  have e13 : m2 76 13 = nI L := by rw [f2 76 (by decide), hm1, mset_ne (by decide), wrF_off (by decide), h13]
  obtain ⟨m3, g1, g2, g3, g4⟩ := lay_loop (body := fun j m => r_rules_99b (nI q) j m) (s := 83) (B := 115) (T := L) (R := fun m => m 76 13 = nI L) (by decide) (by rw [len83]; omega) (by omega) (by rw [len83]; decide) (fun m f h => by rw [mset_ne (by decide)]; exact h) (fun j m h _ => by
    show r_rules_99b (nI q) (nI j) m = _
    unfold r_rules_99b
    rw [h]
    rfl) L 0 FU m2 e13 (by omega) (by unfold FU; omega)
  have hrow : ∀ p, p ≠ 77 → m3 p = m1 p := fun p hp => (g2 p hp).trans (f2 p hp)
  refine ⟨m3, ?_, ?_, fun p k x1 x2 => ?_, ?_, fun j hj => ?_, fun j hj => ?_, fun j hj hj7 => ?_⟩
  · rw [h1]
    unfold r_rules_69
    rw [show iter (fun z => r_rules_69b (nI q) z.1 z.2) FU (0, m1) = _ from f1, Option.bind_some]
    unfold r_rules_99
    rw [show iter (fun z => r_rules_99b (nI q) z.1 z.2) FU (0, m2) = _ from g1, Option.bind_some]
  · rw [hrow 76 (by decide), hm1, mset_ne (by decide), wrF_at]
  · rw [hrow p x1, hm1, mset_ne x1]
    by_cases e : p = 76
    · subst e; rw [wrF_off (fun z => x2 ⟨rfl, z⟩)]
    · rw [wrF_ne e]
  · rw [g4 7 (by omega), f4 7 (by omega), hm1, mset_same, upd_at]
  · rw [g4 _ (by omega), f3 j (Nat.zero_le _) hj, hm1, mset_ne (by decide), wrF_ne (by decide)]
  · rw [g3 j (Nat.zero_le _) hj, f2 83 (by decide), hm1, mset_ne (by decide), wrF_ne (by decide)]
  · rw [g4 j (by omega), f4 j (by omega), hm1, mset_same, upd_off hj7, wrF_ne (by decide)]
