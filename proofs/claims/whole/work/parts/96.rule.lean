/-! reading a rule on both sides -/
theorem RulesAt.snoc {g : Rl → List Nat} {kd wl en st kd' wl' en' st' : Nat → Int32} {rs : List Rl} {x : Rl} (h : RulesAt g kd wl en st rs) (hl : rs.length < 8) (hx : x.ok) (hlen : (rs.flatMap g).length + (g x).length ≤ 200) (h1 : ∀ r, r < rs.length → kd' r = kd r ∧ wl' r = wl r ∧ en' r = en r) (h2 : kd' rs.length = nI x.kind) (h3 : wl' rs.length = nI x.will) (h4 : en' rs.length = nI ((rs.flatMap g).length + (g x).length)) (h5 : ∀ j, j < (rs.flatMap g).length → st' j = st j) (h6 : CodeAt st' (rs.flatMap g).length (g x)) : RulesAt g kd' wl' en' st' (rs ++ [x]) := by
  have hfm : (rs ++ [x]).flatMap g = rs.flatMap g ++ g x := by rw [List.flatMap_append]; simp
  refine ⟨by rw [List.length_append]; show rs.length + 1 ≤ 8; omega, by rw [hfm, List.length_append]; exact hlen, fun r y hr => ?_, ?_⟩
  · by_cases c : r < rs.length
    · rw [List.getElem?_append_left c] at hr
      obtain ⟨a1, a2, a3, a4⟩ := h.2.2.1 r y hr
      obtain ⟨b1, b2, b3⟩ := h1 r c
      refine ⟨b1.trans a1, b2.trans a2, ?_, a4⟩
      rw [b3, a3]
      unfold off
      rw [List.take_append_of_le_length (by omega)]
    · have e : r = rs.length := by
        rcases Nat.lt_or_ge rs.length r with q | q
        · rw [List.getElem?_eq_none (by rw [List.length_append]; show rs.length + 1 ≤ r; omega)] at hr
          cases hr
        · omega
      subst e
      rw [List.getElem?_append_right (Nat.le_refl _), Nat.sub_self] at hr
      have e2 : x = y := by simpa using hr
      subst e2
      refine ⟨h2, h3, ?_, hx⟩
      rw [h4]
      unfold off
      rw [List.take_of_length_le (by rw [List.length_append]; show rs.length + 1 ≤ _; omega), hfm, List.length_append]
  · rw [hfm, CodeAt_append]
    refine ⟨h.2.2.2.congr (fun j _ hj => h5 j (by omega)), ?_⟩
    rw [Nat.zero_add]
    exact h6
/-- the end of a rule: what is moved, and the sign -/
theorem act_ok {n : Nat} {t : Nat → Nat} {N : Nat} {K : Nat → Int32} (hB : pTB n t N K) {i L L' q : Nat} {kd : Int32} {mc mr : M} (hC : pC K N i L mc) (hR : pR n t N i mr) (hq : q < 8) (h80 : mc 8 0 = nI q) (h13 : mr 76 13 = nI L') : (∃ w mc' mr', w ≤ 2 ∧ t_reads_34 kd mc = some (1, mc') ∧ r_readsRule_59 (nI q) mr = some (1, mr') ∧ (pC K N (i + 2) L mc' ∧ mc' 8 0 = nI (q + 1) ∧ mc' 42 = upd (mc 42) q kd ∧ mc' 43 = upd (mc 43) q (nI w) ∧ mc' 44 = upd (mc 44) q (nI L) ∧ (∀ p k, p ≠ 42 → p ≠ 43 → p ≠ 44 → ¬ (p = 7 ∧ k = 4) → ¬ (p = 8 ∧ k = 0) → mc' p k = mc p k)) ∧ (pR n t N (i + 2) mr' ∧ mr' 84 = upd (upd (mr 84) (3 * q + 1) (nI w)) (3 * q + 2) (nI L') ∧ (∀ p k, p ≠ 84 → ¬ (p = 76 ∧ k ∈ [8, 9, 10, 11]) → mr' p k = mr p k))) ∨ (∃ mc' mr' i', t_reads_34 kd mc = some (0, mc') ∧ r_readsRule_59 (nI q) mr = some (0, mr') ∧ i' ≤ N ∧ (mc' 7 4 = nI i' ∧ ∀ p k, ¬ (p = 7 ∧ k = 4) → mc' p k = mc p k) ∧ (mr' 76 9 = nI (wSt n t i') ∧ ∀ p k, p ≠ 84 → ¬ (p = 76 ∧ k ∈ [8, 9, 10, 11]) → mr' p k = mr p k)) := by
  have hn := hB.1.1
  have hN := hB.2.1.1
  have hi := hC.2.2.1
  have hw : ∀ {a : Int32} {p m1 m2}, m1 = wrF m2 7 4 a → ¬ (p = 7) → m1 p = m2 p := fun e q => by rw [e, wrF_ne q]
  obtain ⟨k1, k2⟩ := tk_range (pTK hB hR) (a := 6) (b := 8) (by decide) (by decide)
  rw [show nI 6 = (6 : Int32) from rfl, show nI 8 = (8 : Int32) from rfl] at k1 k2
  have h74 : ∀ {m m1 : M}, (∀ L', fC L' m m1) → m1 8 5 = m 8 5 → ∀ p k, ¬ (p = 7 ∧ k = 4) → m1 p k = m p k := fun {m m1} hf h85 p k h => by
    by_cases c : p = 45
    · subst c; exact (hf (k + 1)).2 k (by omega)
    · by_cases c2 : p = 8 ∧ k = 5
      · rw [c2.1, c2.2]; exact h85
      · exact (hf 0).1 p k c h c2
  unfold t_reads_34 r_readsRule_59
  rcases c_next hB hC (a := 6) (b := 8) (by decide) with ⟨a1, a2, a3, m1, a4, a5, a6⟩ | ⟨a1, a2⟩
  · obtain ⟨k, hk, hk2⟩ := (in_le (v := K i) (n := 8) (by decide)).mp ⟨Int32.le_trans (by decide) a1, a2⟩
    have hk6 : 6 ≤ k := (nI_leI (a := 6) (by decide) (by omega)).mp (by rw [← hk2]; exact a1)
    have hr := k2 ⟨a1, a2⟩
    have f1 := h74 a6 (a5.2.2.2.1.trans hC.2.2.2.1.symm)
    rw [a4, Option.bind_some, if_neg (show ¬ K i = -1 by rw [hk2]; exact fun q => m1_ne (by omega) q.symm), in1_t (k1.mp ⟨a1, a2⟩), Option.bind_some, if_neg one_ne]
    obtain ⟨r1, hr1⟩ : ∃ r1, r1 = mset mr 84 (upd (upd (mr 84) (3 * q + 1) (nI (k - 6))) (3 * q + 2) (nI L')) := ⟨_, rfl⟩
    have g1 : ∀ p k, p ≠ 84 → r1 p k = mr p k := fun p k h => by rw [hr1, mset_ne h]
    have hR1 : pR n t N i r1 := hR.fr (fun k _ => g1 76 k (by decide)) (funext fun k => g1 81 k (by decide)) (funext fun k => g1 82 k (by decide))
    obtain ⟨r2, e1, e2, e3⟩ := p_next hB hR1 a3
    have hrun : ∀ kk : M → Option (Int32 × M), Option.bind (wrI mr 84 ((3 : Int32) * nI q + 1) (mr 76 10 - 6)) (fun m2 => Option.bind (wrI m2 84 ((3 : Int32) * nI q + 2) (m2 76 13)) (fun m3 => Option.bind (r_next m3) kk)) = kk r2 := fun kk => by
      rw [n3, pk_mul, nI_1, show nI (3 * q) + 2 = nI (3 * q + 2) from nI_add _ 2, wrI_at (by rw [len84]; omega) (by rw [len84]; decide), Option.bind_some, wrI_at (by rw [len84]; omega) (by rw [len84]; decide), Option.bind_some, mset_same, mset_ne (by decide : (76 : Nat) ≠ 84), h13, hr, hk2, show (6 : Int32) = nI 6 from rfl, pk_sub hk6, mset_mset, ← hr1, e1, Option.bind_some]
    rw [hrun]
    have hs := tk_sign (pTK hB e2) (x := 5) (by decide)
    rw [show nI (200 + sgn 5) = (259 : Int32) from rfl, show nI (10018 + 5) = (10023 : Int32) from rfl] at hs
    have e4 : ∀ p k, p ≠ 84 → ¬ (p = 76 ∧ k ∈ [8, 9, 10, 11]) → r2 p k = mr p k := fun p k x1 x2 => (e3 p k x2).trans (g1 p k x1)
    rcases c_takes hB a5 (a := 10023) (by decide) with ⟨b1, b2, m2, b3, b4, b5⟩ | ⟨b1, b2⟩
    · rcases p_takes hB e2 (a := 259) (by decide) with ⟨d1, d2, r3, d3, d4, d5⟩ | ⟨d1, _⟩
      · have f2 := h74 b5 (b4.2.2.2.1.trans a5.2.2.2.1.symm)
        have f12 : ∀ p k, ¬ (p = 7 ∧ k = 4) → m2 p k = mc p k := fun p k h => (f2 p k h).trans (f1 p k h)
        have x80 : m2 8 0 = nI q := (f12 8 0 (by decide)).trans h80
        have x85 : m2 8 5 = nI L := b4.2.2.2.1
        obtain ⟨m3, hm3⟩ : ∃ m3, m3 = wrF (mset (mset (mset m2 42 (upd (m2 42) q kd)) 43 (upd (m2 43) q (nI (k - 6)))) 44 (upd (m2 44) q (nI L))) 8 0 (nI (q + 1)) := ⟨_, rfl⟩
        have hadd : u_add kd (K i - 6) m2 = some m3 := by
          have y1 : ∀ A, (mset m2 42 A) 8 = m2 8 := fun A => mset_ne (by decide)
          have y2 : ∀ A, (mset m2 42 A) 43 = m2 43 := fun A => mset_ne (by decide)
          have y3 : ∀ A B, (mset (mset m2 42 A) 43 B) 8 = m2 8 := fun A B => by rw [mset_ne (by decide), mset_ne (by decide)]
          have y4 : ∀ A B, (mset (mset m2 42 A) 43 B) 44 = m2 44 := fun A B => by rw [mset_ne (by decide), mset_ne (by decide)]
          have y5 : ∀ A B C, (mset (mset (mset m2 42 A) 43 B) 44 C) 8 = m2 8 := fun A B C => by rw [mset_ne (by decide), mset_ne (by decide), mset_ne (by decide)]
          unfold u_add
          rw [x80, if_neg (show ¬ (8 : Int32) ≤ nI q from nI_ge (b := 8) hq (by decide)), wrI_at (by rw [len42]; exact hq) (by rw [len42]; decide), Option.bind_some, y1, x80, wrI_at (by rw [len43]; exact hq) (by rw [len43]; decide), Option.bind_some, y2, y3, x80, x85, wrI_at (by rw [len44]; exact hq) (by rw [len44]; decide), Option.bind_some, ltE, y4, y5, x80, nI_1, hk2, show (6 : Int32) = nI 6 from rfl, pk_sub hk6, hm3]
        have h3 : ∀ p k, p ≠ 42 → p ≠ 43 → p ≠ 44 → ¬ (p = 8 ∧ k = 0) → m3 p k = m2 p k := fun p k x1 x2 x3 x4 => by
          rw [hm3]
          by_cases e : p = 8
          · subst e; rw [wrF_off (fun z => x4 ⟨rfl, z⟩), mset_ne x3, mset_ne x2, mset_ne x1]
          · rw [wrF_ne e, mset_ne x3, mset_ne x2, mset_ne x1]
        have hrow : ∀ p, p ≠ 7 → m2 p = mc p := fun p hp => funext fun k => f12 p k (fun z => hp z.1)
        refine Or.inl ⟨k - 6, m3, r3, by omega, ?_, ?_, ⟨⟨(funext fun j => h3 47 j (by decide) (by decide) (by decide) (by omega)).trans b4.1, (h3 7 4 (by decide) (by decide) (by decide) (by decide)).trans b4.2.1, b4.2.2.1, (h3 8 5 (by decide) (by decide) (by decide) (by decide)).trans b4.2.2.2.1, b4.2.2.2.2⟩, ?_, ?_, ?_, ?_, fun p k x1 x2 x3 x4 x5 => (h3 p k x1 x2 x3 x5).trans (f12 p k x4)⟩, ⟨d4, ?_, fun p k x1 x2 => (d5 p k x2).trans (e4 p k x1 x2)⟩⟩
        · rw [b3, Option.bind_some, if_neg one_ne, hadd, Option.bind_some]
        · show Option.bind (r_takes 259 r2) _ = _
          rw [d3, Option.bind_some, oneAnd]
        · rw [hm3, wrF_at]
        · rw [hm3, wrF_ne (by decide), mset_ne (by decide), mset_ne (by decide), mset_same, hrow 42 (by decide)]
        · rw [hm3, wrF_ne (by decide), mset_ne (by decide), mset_same, hrow 43 (by decide)]
        · rw [hm3, wrF_ne (by decide), mset_same, hrow 44 (by decide)]
        · rw [d5.p (by decide), e3.p (by decide), hr1, mset_same]
      · exact absurd (hs.mp b1) d1
    · rcases p_takes hB e2 (a := 259) (by decide) with ⟨d1, _⟩ | ⟨d1, d2⟩
      · exact absurd (hs.mpr d1) b1
      · refine Or.inr ⟨m1, r2, i + 1, ?_, ?_, by omega, ⟨a5.2.1, f1⟩, ⟨e2.2.1, e4⟩⟩
        · rw [b2, Option.bind_some, if_pos rfl]
        · show Option.bind (r_takes 259 r2) _ = _
          rw [d2, Option.bind_some, zeroAnd]
  · rw [a2, Option.bind_some, if_pos rfl, in1_f (fun q => a1 (k1.mpr q)), Option.bind_some, if_pos rfl]
    exact Or.inr ⟨mc, mr, i, rfl, rfl, hi, ⟨hC.2.1, fun p k _ => rfl⟩, ⟨hR.2.1, fun p k _ _ => rfl⟩⟩
