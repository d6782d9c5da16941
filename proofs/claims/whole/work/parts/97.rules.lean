/-! reading all rules on both sides -/
def gC (K : Nat → Int32) (N i : Nat) (rs : List Rl) (m : M) : Prop := pC K N i (rs.flatMap Rl.cc).length m ∧ m 8 0 = nI rs.length ∧ RulesAt Rl.cc (m 42) (m 43) (m 44) (m 45) rs
def gR (n : Nat) (t : Nat → Nat) (N i : Nat) (rs : List Rl) (m : M) : Prop := pR n t N i m ∧ m 76 13 = nI (rs.flatMap Rl.rc).length ∧ RulesAt Rl.rc (fun r => m 84 (3 * r)) (fun r => m 84 (3 * r + 1)) (fun r => m 84 (3 * r + 2)) (m 83) rs
def frC (m m' : M) : Prop := ∀ p k, ¬ (p = 42 ∨ p = 43 ∨ p = 44 ∨ p = 45 ∨ (p = 7 ∧ k = 4) ∨ p = 8) → m' p k = m p k
def frR (m m' : M) : Prop := ∀ p k, ¬ (p = 83 ∨ p = 84 ∨ (p = 76 ∧ k ∈ [8, 9, 10, 11, 12, 13])) → m' p k = m p k
theorem frC.trans {m m1 m2 : M} (h : frC m m1) (h2 : frC m1 m2) : frC m m2 := fun p k a => (h2 p k a).trans (h p k a)
theorem frR.trans {m m1 m2 : M} (h : frR m m1) (h2 : frR m1 m2) : frR m m2 := fun p k a => (h2 p k a).trans (h p k a)
theorem fC.fr {L : Nat} {m m1 : M} (h : fC L m m1) : frC m m1 := fun p k a => h.1 p k (fun e => a (by omega)) (fun e => a (by omega)) (fun e => a (by omega))
theorem fR.fr {L : Nat} {m m1 : M} (h : fR L m m1) : frR m m1 := fun p k a => h.1 p k (fun e => a (Or.inl e)) (fun e => a (Or.inr (Or.inr e)))
def oC (o : Option CD) : List Nat := match o with
  | none => []
  | some c => c.cc
def oR (o : Option CD) : List Nat := match o with
  | none => []
  | some c => c.rc
theorem Rl.cc_o (k w : Nat) (o : Option CD) : (Rl.mk k w o).cc = oC o := by cases o <;> rfl
theorem Rl.rc_o (k w : Nat) (o : Option CD) : (Rl.mk k w o).rc = oR o := by cases o <;> rfl
theorem tail_ok {n : Nat} {t : Nat → Nat} {N : Nat} {K : Nat → Int32} (hB : pTB n t N K) {i iS k : Nat} {rs : List Rl} {o : Option CD} {mc mr mS q1 qS : M} (hk : k ≤ 5) (hl : rs.length < 8) (hgC : gC K N i rs mc) (hgR : gR n t N i rs mr) (hq1 : q1 = mset mr 84 (upd (mr 84) (3 * rs.length) (nI k))) (hi : i < iS) (hC : pC K N iS ((rs.flatMap Rl.cc).length + (oC o).length) mS) (hcode : CodeAt (mS 45) (rs.flatMap Rl.cc).length (oC o)) (hf : fC (rs.flatMap Rl.cc).length mc mS) (hR : pR n t N iS qS) (h13 : qS 76 13 = nI ((rs.flatMap Rl.rc).length + (oR o).length)) (hrcode : CodeAt (qS 83) (rs.flatMap Rl.rc).length (oR o)) (hfr : fR (rs.flatMap Rl.rc).length q1 qS) (ho : ∀ c, o = some c → c.ok ∧ c.dep ≤ 9) (hlc : (rs.flatMap Rl.cc).length + (oC o).length ≤ iS) (hlr : (rs.flatMap Rl.rc).length + (oR o).length ≤ iS) :
    (∃ mc' mr' i' x, t_reads_34 (nI k) mS = some (1, mc') ∧ r_readsRule_59 (nI rs.length) qS = some (1, mr') ∧ i < i' ∧ gC K N i' (rs ++ [x]) mc' ∧ gR n t N i' (rs ++ [x]) mr' ∧ ((rs ++ [x]).flatMap Rl.cc).length ≤ i' ∧ ((rs ++ [x]).flatMap Rl.rc).length ≤ i' ∧ frC mc mc' ∧ frR mr mr') ∨ (∃ mc' mr' i', t_reads_34 (nI k) mS = some (0, mc') ∧ r_readsRule_59 (nI rs.length) qS = some (0, mr') ∧ i' ≤ N ∧ mc' 7 4 = nI i' ∧ frC mc mc' ∧ mr' 76 9 = nI (wSt n t i') ∧ frR mr mr') := by
  have hn := hB.1.1
  have hN := hB.2.1.1
  have hq1R : frR mr q1 := fun p j a => by rw [hq1, mset_ne (fun e => a (Or.inr (Or.inl e)))]
  rcases act_ok hB (kd := nI k) hC hR hl ((hf.1 8 0 (by decide) (by decide) (by decide)).trans hgC.2.1) h13 with ⟨w, mc', mr', hw, a1, a2, ⟨b1, b2, b3, b4, b5, b6⟩, ⟨c1, c2, c3⟩⟩ | ⟨mc', mr', i', a1, a2, a3, ⟨b1, b2⟩, ⟨c1, c2⟩⟩
  · have hiN := b1.2.2.1
    have hfmC : (rs ++ [Rl.mk k w o]).flatMap Rl.cc = rs.flatMap Rl.cc ++ oC o := by rw [List.flatMap_append]; simp [Rl.cc_o]
    have hfmR : (rs ++ [Rl.mk k w o]).flatMap Rl.rc = rs.flatMap Rl.rc ++ oR o := by rw [List.flatMap_append]; simp [Rl.rc_o]
    have hlen : (rs ++ [Rl.mk k w o]).length = rs.length + 1 := by rw [List.length_append]; rfl
    have hok : (Rl.mk k w o).ok := ⟨hk, hw, ho⟩
    have r42 : mS 42 = mc 42 := funext fun j => hf.1 42 j (by decide) (by omega) (by omega)
    have r43 : mS 43 = mc 43 := funext fun j => hf.1 43 j (by decide) (by omega) (by omega)
    have r44 : mS 44 = mc 44 := funext fun j => hf.1 44 j (by decide) (by omega) (by omega)
    have r45 : mc' 45 = mS 45 := funext fun j => b6 45 j (by decide) (by decide) (by decide) (by omega) (by omega)
    have r83 : mr' 83 = qS 83 := funext fun j => c3 83 j (by decide) (by omega)
    have r84 : qS 84 = upd (mr 84) (3 * rs.length) (nI k) := by
      rw [show qS 84 = q1 84 from funext fun j => hfr.1 84 j (by decide) (by omega), hq1, mset_same]
    have x84 : mr' 84 = upd (upd (upd (mr 84) (3 * rs.length) (nI k)) (3 * rs.length + 1) (nI w)) (3 * rs.length + 2) (nI ((rs.flatMap Rl.rc).length + (oR o).length)) := by rw [c2, r84]
    refine Or.inl ⟨mc', mr', iS + 2, Rl.mk k w o, a1, a2, by omega, ⟨by rw [hfmC, List.length_append]; exact b1, by rw [hlen]; exact b2, ?_⟩, ⟨c1, ?_, ?_⟩, by rw [hfmC, List.length_append]; omega, by rw [hfmR, List.length_append]; omega, ?_, ?_⟩
    · refine hgC.2.2.snoc hl hok (by rw [Rl.cc_o]; omega) (fun r hr => ?_) ?_ ?_ ?_ (fun j hj => ?_) ?_
      · rw [b3, b4, b5, upd_off (by omega), upd_off (by omega), upd_off (by omega), r42, r43, r44]
        exact ⟨rfl, rfl, rfl⟩
      · rw [b3, upd_at]; rfl
      · rw [b4, upd_at]; rfl
      · rw [b5, upd_at, Rl.cc_o]
      · rw [r45]; exact hf.2 j hj
      · rw [r45, Rl.cc_o]; exact hcode
    · rw [c3 76 13 (by decide) (by decide), h13, hfmR, List.length_append]
    · refine hgR.2.2.snoc hl hok (by rw [Rl.rc_o]; omega) (fun r hr => ?_) ?_ ?_ ?_ (fun j hj => ?_) ?_
      · show mr' 84 (3 * r) = mr 84 (3 * r) ∧ mr' 84 (3 * r + 1) = mr 84 (3 * r + 1) ∧ mr' 84 (3 * r + 2) = mr 84 (3 * r + 2)
        rw [x84]
        refine ⟨?_, ?_, ?_⟩
        · rw [upd_off (by omega), upd_off (by omega), upd_off (by omega)]
        · rw [upd_off (by omega), upd_off (by omega), upd_off (by omega)]
        · rw [upd_off (by omega), upd_off (by omega), upd_off (by omega)]
      · show mr' 84 (3 * rs.length) = nI k
        rw [x84, upd_off (by omega), upd_off (by omega), upd_at]
      · show mr' 84 (3 * rs.length + 1) = nI w
        rw [x84, upd_off (by omega), upd_at]
      · show mr' 84 (3 * rs.length + 2) = _
        rw [x84, upd_at, Rl.rc_o]
      · rw [r83, hfr.2 j hj, hq1, mset_ne (by decide)]
      · rw [r83, Rl.rc_o]; exact hrcode
    · exact hf.fr.trans (fun p j a => b6 p j (by omega) (by omega) (by omega) (by omega) (by omega))
    · exact hq1R.trans (hfr.fr.trans (fun p j a => c3 p j (fun e => a (Or.inr (Or.inl e))) (fun e => a (Or.inr (Or.inr ⟨e.1, by have := e.2; revert this; simp; omega⟩)))))
  · refine Or.inr ⟨mc', mr', i', a1, a2, a3, b1, hf.fr.trans (fun p j a => b2 p j (by omega)), c1, hq1R.trans (hfr.fr.trans (fun p j a => c2 p j (fun e => a (Or.inr (Or.inl e))) (fun e => a (Or.inr (Or.inr ⟨e.1, by have := e.2; revert this; simp; omega⟩)))))⟩
theorem rule_ok {n : Nat} {t : Nat → Nat} {N : Nat} {K : Nat → Int32} (hB : pTB n t N K) {i : Nat} {rs : List Rl} {mc mr : M} (hl : rs.length < 8) (hgC : gC K N i rs mc) (hgR : gR n t N i rs mr) (hlc : (rs.flatMap Rl.cc).length ≤ i) (hlr : (rs.flatMap Rl.rc).length ≤ i) :
    (∃ mc' mr' i' x, t_reads mc = some (1, mc') ∧ r_readsRule (nI rs.length) mr = some (1, mr') ∧ i < i' ∧ gC K N i' (rs ++ [x]) mc' ∧ gR n t N i' (rs ++ [x]) mr' ∧ ((rs ++ [x]).flatMap Rl.cc).length ≤ i' ∧ ((rs ++ [x]).flatMap Rl.rc).length ≤ i' ∧ frC mc mc' ∧ frR mr mr') ∨ (∃ mc' mr' i', t_reads mc = some (0, mc') ∧ r_readsRule (nI rs.length) mr = some (0, mr') ∧ i' ≤ N ∧ mc' 7 4 = nI i' ∧ frC mc mc' ∧ mr' 76 9 = nI (wSt n t i') ∧ frR mr mr') := by
  have hn := hB.1.1
  have hN := hB.2.1.1
  have hi := hgC.1.2.2.1
  obtain ⟨k1, k2⟩ := tk_range (pTK hB hgR.1) (a := 0) (b := 5) (by decide) (by decide)
  rw [show nI 0 = (0 : Int32) from rfl, show nI 5 = (5 : Int32) from rfl] at k1 k2
  unfold t_reads r_readsRule
  rw [if_neg (show ¬ nI rs.length = (8 : Int32) from fun q => by have := (nI_eq (b := 8) (by omega) (by decide)).mp q; omega)]
  rcases c_next hB hgC.1 (a := 0) (b := 5) (by decide) with ⟨a1, a2, a3, m1, a4, a5, a6⟩ | ⟨a1, a2⟩
  · obtain ⟨k, hk, hk2⟩ := (in_le (v := K i) (n := 5) (by decide)).mp ⟨a1, a2⟩
    have hr := k2 ⟨a1, a2⟩
    obtain ⟨q1, hq1⟩ : ∃ q1, q1 = mset mr 84 (upd (mr 84) (3 * rs.length) (nI k)) := ⟨_, rfl⟩
    have g1 : ∀ p k, p ≠ 84 → q1 p k = mr p k := fun p k h => by rw [hq1, mset_ne h]
    have hR1 : pR n t N i q1 := hgR.1.fr (fun k _ => g1 76 k (by decide)) (funext fun k => g1 81 k (by decide)) (funext fun k => g1 82 k (by decide))
    obtain ⟨q2, e1, e2, e3⟩ := p_next hB hR1 a3
    obtain ⟨q3, hq3⟩ : ∃ q3, q3 = wrF q2 76 12 0 := ⟨_, rfl⟩
    have k3 : Fl [12] q2 q3 := by rw [hq3]; exact Fl_w (by simp)
    have hR3 : pR n t N (i + 1) q3 := e2.fr (fun k hk => k3.k (by revert hk; simp; omega)) (k3.p (by decide)) (k3.p (by decide))
    have f13 : ∀ L, fR L q1 q3 := fun L => (e3.fR (by decide) L).trans (k3.fR (by decide) L)
    have h13 : q3 76 13 = nI (rs.flatMap Rl.rc).length := by rw [k3.k (by decide), e3.k (by decide), g1 76 13 (by decide)]; exact hgR.2.1
    have h12 : q3 76 12 = nI 0 := by rw [hq3, wrF_at]; rfl
    rw [a4, Option.bind_some, if_neg (show ¬ K i = -1 by rw [hk2]; exact fun q => m1_ne (by omega) q.symm), in1_t (k1.mp ⟨a1, a2⟩), Option.bind_some, if_neg one_ne]
    have hrun : ∀ kk : M → Option (Int32 × M), Option.bind (wrI mr 84 ((3 : Int32) * nI rs.length) (mr 76 10)) (fun m2 => Option.bind (r_next m2) (fun m3 => lt (wrF m3 76 12 (0 : Int32)) kk)) = kk q3 := fun kk => by
      rw [n3, pk_mul, wrI_at (by rw [len84]; omega) (by rw [len84]; decide), Option.bind_some, hr, hk2, ← hq1, e1, Option.bind_some, ltE, ← hq3]
    rw [hrun]
    have hif := tk_name (pTK hB hR3) (x := 9) (by decide)
    rw [show nI (sw 9) = (9 : Int32) from rfl, show nI 9 = (9 : Int32) from rfl] at hif
    rw [hk2]
    rcases c_takes hB a5 (a := 9) (by decide) with ⟨b1, b2, m2, b3, b4, b5⟩ | ⟨b1, b2⟩
    · rcases p_takes hB hR3 (a := 9) (by decide) with ⟨d1, d2, q4, d3, d4, d5⟩ | ⟨d1, _⟩
      · rw [show Option.bind (t_takes 9 m1) _ = _ from by rw [b3, Option.bind_some, if_neg one_ne], show Option.bind (r_takes 9 q3) _ = _ from by rw [d3, Option.bind_some, if_neg one_ne]]
        show (∃ mc' mr' i' x, Option.bind (t_readsCond_d 6 (nI 0) m2) (fun z3 => (if z3.1 = 0 then some ((0 : Int32), z3.2) else t_reads_34 (nI k) z3.2)) = _ ∧ Option.bind (r_readsCondition_d 6 q4) (fun z6 => (if z6.1 = 0 then some ((0 : Int32), z6.2) else r_readsRule_59 (nI rs.length) z6.2)) = _ ∧ _) ∨ (∃ mc' mr' i', Option.bind (t_readsCond_d 6 (nI 0) m2) (fun z3 => (if z3.1 = 0 then some ((0 : Int32), z3.2) else t_reads_34 (nI k) z3.2)) = _ ∧ Option.bind (r_readsCondition_d 6 q4) (fun z6 => (if z6.1 = 0 then some ((0 : Int32), z6.2) else r_readsRule_59 (nI rs.length) z6.2)) = _ ∧ _)
        rcases cond_ok hB (i + 1 + 1) _ _ m2 q4 b4 d4 ((d5.k (by decide)).trans h12) ((d5.k (by decide)).trans h13) (by omega) (by omega) with ⟨m3, q5, i3, c, x1, x2, ⟨x3, x4, x5, x6, x7⟩, ⟨y1, y2, y3⟩, ⟨z1, z2, z3, z4, z5⟩⟩ | ⟨m3, q5, i3, x1, x2, x3, ⟨y1, y2, y3⟩, ⟨z1, z2⟩⟩
        · rw [x1, Option.bind_some, if_neg one_ne, x2, Option.bind_some, if_neg one_ne]
          exact tail_ok hB hk hl hgC hgR hq1 (by omega) (o := some c) y1 y2 ((a6 _).trans ((b5 _).trans y3)) z1 z3 z4 ((f13 _).trans ((d5.fR (by decide) _).trans z5)) (fun c' e => by cases e; exact ⟨x4, x5⟩) (by show _ + c.cc.length ≤ _; omega) (by show _ + c.rc.length ≤ _; omega)
        · rw [x1, Option.bind_some, if_pos rfl, x2, Option.bind_some, if_pos rfl]
          have hq1R : frR mr q1 := fun p j a => g1 p j (fun e => a (Or.inr (Or.inl e)))
          exact Or.inr ⟨m3, q5, i3, rfl, rfl, x3, y1, (a6 0).fr.trans ((b5 0).fr.trans y3.fr), z1, hq1R.trans ((f13 0).fr.trans ((d5.fR (by decide) 0).fr.trans z2.fr))⟩
      · exact absurd (hif.mp b1) d1
    · rcases p_takes hB hR3 (a := 9) (by decide) with ⟨d1, _⟩ | ⟨d1, d2⟩
      · exact absurd (hif.mpr d1) b1
      · rw [show Option.bind (t_takes 9 m1) _ = _ from by rw [b2, Option.bind_some, if_pos rfl], show Option.bind (r_takes 9 q3) _ = _ from by rw [d2, Option.bind_some, if_pos rfl]]
        exact tail_ok hB hk hl hgC hgR hq1 (by omega) (o := none) a5 trivial (a6 _) hR3 h13 trivial (f13 _) (fun c' e => by cases e) (by show _ + 0 ≤ _; omega) (by show _ + 0 ≤ _; omega)
  · rw [a2, Option.bind_some, if_pos rfl, in1_f (fun q => a1 (k1.mpr q)), Option.bind_some, if_pos rfl]
    exact Or.inr ⟨mc, mr, i, rfl, rfl, hi, hgC.1.2.1, fun p k _ => rfl, hgR.1.2.1, fun p k _ => rfl⟩
