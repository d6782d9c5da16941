/-! with how many votes, on which bench: what the rest would be worth -/
def bestF (rs : List Rl) (b : Nat → Int32) (c : Nat) : Nat → Int32 × Int32
  | 0 => (-1, 0)
  | n + 1 => if restW rs (leftB b) (upd b c (nI n)) ≤ (bestF rs b c n).1 then bestF rs b c n else (restW rs (leftB b) (upd b c (nI n)), nI n)
theorem upd_upd {f : Nat → Int32} {k : Nat} {x y : Int32} : upd (upd f k x) k y = upd f k y := by
  funext j
  by_cases h : j = k
  · subst h; rw [upd_at, upd_at]
  · rw [upd_off h, upd_off h, upd_off h]
theorem left_upd {b : Nat → Int32} {c : Nat} {v : Int32} (h : 2 ≤ c) : leftB (upd b c v) = leftB b := left_eq (upd_off (by omega)) (upd_off (by omega))
theorem RR_upd {b : Nat → Int32} {c : Nat} {v : Int32} {rs : List Rl} (hR : RR b rs) (h : c ≠ 7) (h2 : c < 91) : RR (upd b c v) rs :=
  ⟨(upd_off (Ne.symm h)).trans hR.1, hR.2.congr (fun r _ => ⟨upd_off (by omega), upd_off (by omega), upd_off (by omega)⟩) (fun j _ => upd_off (by omega))⟩
/-- all but the night's cells and one more -/
def NP (p k : Nat) (m m' : M) : Prop := ∀ q j, ¬ (q = 1 ∧ (j = 0 ∨ j = 2 ∨ j = 3 ∨ j = 7 ∨ j = 8)) → ¬ (q = 11 ∧ j < 6) → ¬ (q = p ∧ j = k) → m' q j = m q j
theorem NQ.NP {p k : Nat} {m m' : M} (h : NQ m m') : NP p k m m' := fun q j a b _ => h q j a b
theorem NP.rfl {p k : Nat} {m : M} : NP p k m m := fun _ _ _ _ _ => Eq.refl _
theorem NP.trans {p k : Nat} {m m1 m2 : M} (h1 : NP p k m m1) (h2 : NP p k m1 m2) : NP p k m m2 := fun q j a b c => (h2 q j a b c).trans (h1 q j a b c)
theorem NP_wr {p k : Nat} {m : M} {v : Int32} : NP p k m (mset m p (upd (m p) k v)) := fun q j _ _ c => by
  by_cases e : q = p
  · subst e
    rw [mset_same, upd_off (fun h => c ⟨Eq.refl _, h⟩)]
  · rw [mset_ne e]
theorem NP.kr {p k : Nat} {m m' : M} {rs : List Rl} (h : NP p k m m') (hR : KR m rs) (hp : p = 11 ∨ p = 13) : KR m' rs := by
  have e : ∀ q, (q = 3 ∨ q = 26 ∨ q = 27 ∨ q = 28 ∨ q = 29) → m' q = m q := fun q hq => funext fun j => h q j (by omega) (by omega) (by omega)
  unfold KR at *
  rw [e 3 (by omega), e 26 (by omega), e 27 (by omega), e 28 (by omega), e 29 (by omega)]
  exact hR
theorem NP.SQ {p k c : Nat} {m m' : M} {b : Nat → Int32} (h : NP p k m m') (h0 : KB m b) (h1 : KB m' b) (hp : KBP p k c) : SQ m m' := by
  intro q j hs
  by_cases e1 : q = 1 ∧ (j = 0 ∨ j = 2 ∨ j = 3 ∨ j = 7 ∨ j = 8)
  · obtain ⟨rfl, e⟩ := e1
    rcases e with rfl | rfl | rfl | rfl | rfl
    · rw [h1.f0, h0.f0]
    · rw [h1.f2, h0.f2]
    · rw [h1.f3, h0.f3]
    · rw [h1.f7, h0.f7]
    · exact absurd hs (by decide)
  · by_cases e2 : q = 11 ∧ j < 6
    · obtain ⟨rfl, e⟩ := e2
      rw [h1.votes e, h0.votes e]
    · by_cases e3 : q = p ∧ j = k
      · obtain ⟨rfl, rfl⟩ := e3
        rw [(KB_iff.mp h1).1 _ _ _ hp, (KB_iff.mp h0).1 _ _ _ hp]
      · exact h q j e1 e2 e3
theorem k_bestOf_48_eq {p : Nat} {k top : Int32} {a4 : Int64} {was most by_ i : Int32} {a10 a11 : Int32} {m : M} : k_bestOf_48 p k top a4 was most by_ i a10 a11 m = Option.bind (b_worthOfRest_8 a10 a11 m) (fun r => Option.bind (b_goBackTo a4 r.2) (fun m4 => (if r.1 ≤ most then k_bestOf_95 p k top a4 was most by_ i m4 else k_bestOf_95 p k top a4 was r.1 i i m4))) := by
  unfold k_bestOf_48 b_worthOfRest_8
  have e : (fun z : Int32 × Int32 × M => k_bestOf_48b p k top a4 was most by_ i z.1 z.2.1 z.2.2) = (fun z : Int32 × Int32 × M => b_worthOfRest_8b z.1 z.2.1 z.2.2) := rfl
  rw [e]
  cases iter (fun z : Int32 × Int32 × M => b_worthOfRest_8b z.1 z.2.1 z.2.2) FU (a10, a11, m) <;> rfl
theorem k_bestOf_eq {m : M} {b : Nat → Int32} {rs : List Rl} {p k c top : Nat} (hW : WF b) (hK : KB m b) (hR : KR m rs) (hp : p = 11 ∨ p = 13) (hk : k < 6) (hc : KBP p k c) (htop : top ≤ 9) (hWc : ∀ i, i ≤ top → WF (upd b c (nI i))) (hback : ∀ i, i ≤ top → ∀ (m2 : M) (b2 : Nat → Int32), KB m2 b2 → NB (upd b c (nI i)) b2 → ∃ (x : Int32) (m3 : M), b_goBackTo (lN (momN b)) m2 = some m3 ∧ KB m3 (upd b c x) ∧ NQ m2 m3) : ∃ m1, k_bestOf p (nI k) (nI top) m = some ((bestF rs b c (top + 1)).2, m1) ∧ SQ m m1 := by
  have hlen : len p = 6 := by rcases hp with rfl | rfl <;> decide
  have hc2 : 37 ≤ c := by unfold KBP at hc; omega
  have key : ∀ (d i : Nat) (mi : M) (x : Int32), i + d = top + 1 → KB mi (upd b c x) → NP p k m mi → ∃ (m' : M) (x' : Int32), (∀ F, d < F → iter (fun z : Int32 × Int32 × Int32 × M => k_bestOf_23b p (nI k) (nI top) (lN (momN b)) (b c) z.1 z.2.1 z.2.2.1 z.2.2.2) F ((bestF rs b c i).1, (bestF rs b c i).2, nI i, mi) = some ((bestF rs b c (top + 1)).2, m')) ∧ KB m' (upd b c x') ∧ NP p k m m' := by
    intro d
    induction d with
    | zero =>
      intro i mi x hi hKi hq
      refine ⟨mi, x, fun F hF => ?_, hKi, hq⟩
      obtain ⟨F', rfl⟩ : ∃ F', F = F' + 1 := ⟨F - 1, by omega⟩
      show (k_bestOf_23b p (nI k) (nI top) (lN (momN b)) (b c) (bestF rs b c i).1 (bestF rs b c i).2 (nI i) mi).bind _ = _
      unfold k_bestOf_23b
      have : i = top + 1 := by omega
      subst this
      rw [if_pos ((nI_ltI (by omega) (by omega)).mpr (by omega))]; rfl
    | succ d ih =>
      intro i mi x hi hKi hq
      have hit : i ≤ top := by omega
      have hW1 := hWc i hit
      have hK1 : KB (mset mi p (upd (mi p) k (nI i))) (upd b c (nI i)) := by
        have := hKi.wr (v := nI i) hc
        rw [upd_upd] at this
        exact this
      have hR1 : KR (mset mi p (upd (mi p) k (nI i))) rs := (hq.trans NP_wr).kr hR hp
      have hl : leftB (upd b c (nI i)) = leftB b := left_upd (by omega)
      obtain ⟨m2, g1, g2, g3, g4⟩ := b_rest_run (rs := rs) (leftB b) (acc := 0) hW1 hR1 hK1 (by omega)
      obtain ⟨w1, w2⟩ := WF.rest (rs := rs) (leftB b) hW1 (by omega)
      obtain ⟨x', m3, t1, t2, t3⟩ := hback i hit m2 _ g2 w2
      obtain ⟨m', x'', i1, i2, i3⟩ := ih (i + 1) m3 x' (by omega) t2 ((hq.trans NP_wr).trans (g3.NP.trans t3.NP))
      refine ⟨m', x'', fun F hF => ?_, i2, i3⟩
      obtain ⟨F', rfl⟩ : ∃ F', F = F' + 1 := ⟨F - 1, by omega⟩
      show (k_bestOf_23b p (nI k) (nI top) (lN (momN b)) (b c) (bestF rs b c i).1 (bestF rs b c i).2 (nI i) mi).bind _ = _
      unfold k_bestOf_23b
      rw [if_neg (fun h => by have := (nI_ltI (by omega) (by omega)).mp h; omega), wrI_at (by rw [hlen]; exact hk) (by rw [hlen]; decide)]
      simp only [Option.bind_some]
      rw [nights16 hK1 hW1, hl]
      simp only [Option.bind_some]
      rw [k_bestOf_48_eq]
      unfold b_worthOfRest_8
      rw [g1 FU (by have := hW.left16; show leftB b < 4000; omega), Int32.zero_add]
      simp only [Option.bind_some]
      rw [t1]
      simp only [Option.bind_some]
      unfold k_bestOf_95
      rw [ltE, ltE, nI_1]
      have hs : bestF rs b c (i + 1) = if restW rs (leftB b) (upd b c (nI i)) ≤ (bestF rs b c i).1 then bestF rs b c i else (restW rs (leftB b) (upd b c (nI i)), nI i) := rfl
      have i1' := i1 F' (by omega)
      by_cases e : restW rs (leftB b) (upd b c (nI i)) ≤ (bestF rs b c i).1
      · rw [if_pos e] at hs ⊢
        rw [hs] at i1'
        exact i1'
      · rw [if_neg e] at hs ⊢
        rw [hs] at i1'
        exact i1'
  obtain ⟨m', x', i1, i2, i3⟩ := key (top + 1) 0 m (b c) (by omega) (by rw [upd_self]; exact hK) NP.rfl
  unfold k_bestOf k_bestOf_23
  rw [b_moment_eq hK hW, rdI_at (by rw [hlen]; exact hk) (by rw [hlen]; decide), (KB_iff.mp hK).1 _ _ _ hc]
  simp only [Option.bind_some]
  have := i1 FU (by show top + 1 < 4000; omega)
  rw [nI_0] at this
  rw [show ((-1 : Int32), (0 : Int32), (0 : Int32), m) = ((bestF rs b c 0).1, (bestF rs b c 0).2, (0 : Int32), m) from rfl, this]
  simp only [Option.bind_some]
  rw [wrI_at (by rw [hlen]; exact hk) (by rw [hlen]; decide)]
  have hKe : KB (mset m' p (upd (m' p) k (b c))) b := by
    have := i2.wr (v := b c) hc
    rw [upd_upd, upd_self] at this
    exact this
  exact ⟨_, rfl, (i3.trans NP_wr).SQ hK hKe hc⟩
def votesV (rs : List Rl) (b : Nat → Int32) (y : Int32) : Int32 := if memB b y = true then (bestF rs b (37 + 5 * y.toNatClampNeg + 1) (9 + 1)).2 else -1
def seatV (rs : List Rl) (b : Nat → Int32) (y : Int32) : Int32 := if memB b y = true then (bestF rs b (37 + 5 * y.toNatClampNeg + 3) (5 + 1)).2 else -1
theorem k_votesFor_eq {m : M} {b : Nat → Int32} {rs : List Rl} (hW : WF b) (hK : KB m b) (hR : KR m rs) (y : Int32) : ∃ m1, k_votesFor y m = some (votesV rs b y, m1) ∧ SQ m m1 := by
  unfold k_votesFor votesV
  rw [b_isMember_eq hK, Option.bind_some]
  by_cases h : memB b y = true
  · obtain ⟨k, hk1, hk, rfl⟩ := hW.mem h
    rw [h, if_neg (by decide), if_pos rfl, nI_clamp (by omega)]
    obtain ⟨m1, g1, g2⟩ := k_bestOf_eq (rs := rs) (p := 11) (k := k) (c := 37 + 5 * k + 1) (top := 9) hW hK hR (by omega) hk (by unfold KBP; omega) (by decide) (fun i hi => WF_upd hW (m1 := fun _ _ _ => bd_nI hi)) (fun i hi m2 b2 hK2 hn => by
      have hn0 : NB b (upd b (37 + 5 * k + 1) (nI i)) := fun j _ _ _ _ hj => upd_off (hj k hk).1
      obtain ⟨m3, t1, t2, t3, t4⟩ := b_goBackTo_eq hW hK2 (hn0.trans hn)
      exact ⟨b (37 + 5 * k + 1), m3, t1, by rw [upd_self]; exact t2, t3⟩)
    rw [show (9 : Int32) = nI 9 from rfl, g1]
    simp only [Option.bind_some]
    exact ⟨m1, rfl, g2⟩
  · rw [if_neg h, Bool.eq_false_iff.mpr h, if_pos (show b01 false = 0 from rfl)]
    exact ⟨m, rfl, SQ.rfl⟩
theorem mom_seat {b : Nat → Int32} {k : Nat} {v : Int32} (hk : k < 6) : momN (upd b (37 + 5 * k + 3) v) = momN b := by
  have h0 : ∀ j, j < 6 → vN (upd b (37 + 5 * k + 3) v) j = vN b j := fun j hj => by unfold vN; rw [upd_off (by omega)]
  have h1 : heardN (upd b (37 + 5 * k + 3) v) = heardN b := heardN_off (fun j hj => by omega)
  unfold momN momP momP momP momP momP momP momP mom0
  rw [h0 0 (by decide), h0 1 (by decide), h0 2 (by decide), h0 3 (by decide), h0 4 (by decide), h0 5 (by decide), h1]
  unfold fundN lightN nightB
  rw [upd_off (by omega), upd_off (by omega), upd_off (by omega)]
theorem k_benchFor_eq {m : M} {b : Nat → Int32} {rs : List Rl} (hW : WF b) (hK : KB m b) (hR : KR m rs) (y : Int32) : ∃ m1, k_benchFor y m = some (seatV rs b y, m1) ∧ SQ m m1 := by
  unfold k_benchFor seatV
  rw [b_isMember_eq hK, Option.bind_some]
  by_cases h : memB b y = true
  · obtain ⟨k, hk1, hk, rfl⟩ := hW.mem h
    rw [h, if_neg (by decide), if_pos rfl, nI_clamp (by omega)]
    have hWc : ∀ i, i ≤ 5 → WF (upd b (37 + 5 * k + 3) (nI i)) := fun i hi => WF_upd hW (m3 := fun _ _ _ => bd_nI hi)
    obtain ⟨m1, g1, g2⟩ := k_bestOf_eq (rs := rs) (p := 13) (k := k) (c := 37 + 5 * k + 3) (top := 5) hW hK hR (by omega) hk (by unfold KBP; omega) (by decide) hWc (fun i hi m2 b2 hK2 hn => by
      obtain ⟨m3, t1, t2, t3, t4⟩ := b_goBackTo_eq (hWc i hi) hK2 hn
      rw [mom_seat hk] at t1
      exact ⟨nI i, m3, t1, t2, t3⟩)
    rw [show (5 : Int32) = nI 5 from rfl, g1]
    simp only [Option.bind_some]
    exact ⟨m1, rfl, g2⟩
  · rw [if_neg h, Bool.eq_false_iff.mpr h, if_pos (show b01 false = 0 from rfl)]
    exact ⟨m, rfl, SQ.rfl⟩
/-- laid back to what stands aside -/
theorem lay_to {m : M} {b : Nat → Int32} (h79 : ∀ j, j < 67 → m 79 j = b j) (h : ∀ j, 67 ≤ j → m 77 j = b j) : r_layBack m = some (mset m 77 b) := by
  rw [r_layBack_eq, cpT_back h79 h]
theorem E76.r79 {m m' : M} (h : E76 m m') : m' 79 = m 79 := funext fun k => h 79 k (by decide) (by decide) (fun q => by omega)
theorem r_bestFor_eq {m : M} {b : Nat → Int32} {rs : List Rl} {k f top : Nat} (hW : WF b) (hR : RR b rs) (hb : m 77 = b) (hk : k < 6) (hf : f = 1 ∨ f = 3) (htop : top ≤ 9) (hkm : k < manyB b) (hWc : ∀ i, i ≤ top → WF (upd b (37 + 5 * k + f) (nI i))) : ∃ m1, r_bestFor (nI k) (nI f) (nI top) m = some ((bestF rs b (37 + 5 * k + f) (top + 1)).2, m1) ∧ SQ m m1 := by
  generalize hc : 37 + 5 * k + f = c at *
  have hm0 : ∃ m0, m0 = mset m 79 (cpT 67 (m 77) (m 79)) := ⟨_, rfl⟩
  obtain ⟨m0, hm0⟩ := hm0
  have h79 : ∀ j, j < 67 → m0 79 j = b j := fun j hj => by rw [hm0, mset_same]; unfold cpT; rw [if_pos hj, hb]
  have h77 : m0 77 = b := by rw [hm0, mset_ne (by decide)]; exact hb
  have key : ∀ (d i : Nat) (mi : M), i + d = top + 1 → mi 77 = b → E76 m0 mi → ∃ m', (∀ F, d < F → iter (fun z : Int32 × Int32 × Int32 × M => r_bestFor_23b (nI k) (nI f) (nI top) z.1 z.2.1 z.2.2.1 z.2.2.2) F ((bestF rs b c i).2, (bestF rs b c i).1, nI i, mi) = some ((bestF rs b c (top + 1)).2, m')) ∧ m' 77 = b ∧ E76 m0 m' := by
    intro d
    induction d with
    | zero =>
      intro i mi hi hbi hq
      refine ⟨mi, fun F hF => ?_, hbi, hq⟩
      obtain ⟨F', rfl⟩ : ∃ F', F = F' + 1 := ⟨F - 1, by omega⟩
      show (r_bestFor_23b (nI k) (nI f) (nI top) (bestF rs b c i).2 (bestF rs b c i).1 (nI i) mi).bind _ = _
      unfold r_bestFor_23b
      have : i = top + 1 := by omega
      subst this
      rw [if_pos ((nI_ltI (by omega) (by omega)).mpr (by omega))]; rfl
    | succ d ih =>
      intro i mi hi hbi hq
      have hit : i ≤ top := by omega
      have hW1 := hWc i hit
      have hR1 : RR (upd b c (nI i)) rs := RR_upd hR (by omega) (by omega)
      have hl : leftB (upd b c (nI i)) = leftB b := left_upd (by omega)
      obtain ⟨m2, g1, g2, g3, g4⟩ := r_restOf_eq (rs := rs) (n := 16) (by decide) (m := mset mi 77 (upd b c (nI i))) hW1 hR1 mset_same
      rw [hl, min16 hW] at g1 g2
      obtain ⟨w1, w2⟩ := WF.rest (rs := rs) (leftB b) hW1 (by omega)
      have hq2 : E76 m0 m2 := (hq.trans E76_77).trans g3
      have hhi : ∀ j, 67 ≤ j → m2 77 j = b j := fun j hj => by rw [g2, w2.hi j hj, upd_off (by omega)]
      have hlay := lay_to (b := b) (m := m2) (by rw [hq2.r79]; exact h79) hhi
      obtain ⟨m', i1, i2, i3⟩ := ih (i + 1) (mset m2 77 b) (by omega) mset_same (hq2.trans E76_77)
      refine ⟨m', fun F hF => ?_, i2, i3⟩
      obtain ⟨F', rfl⟩ : ∃ F', F = F' + 1 := ⟨F - 1, by omega⟩
      show (r_bestFor_23b (nI k) (nI f) (nI top) (bestF rs b c i).2 (bestF rs b c i).1 (nI i) mi).bind _ = _
      unfold r_bestFor_23b
      rw [if_neg (fun h => by have := (nI_ltI (by omega) (by omega)).mp h; omega), r_puts_at hk (by omega), hbi, hc]
      simp only [Option.bind_some]
      rw [show (16 : Int32) = nI 16 from rfl, g1]
      simp only [Option.bind_some]
      unfold r_bestFor_59 r_bestFor_75
      rw [hlay]
      simp only [Option.bind_some]
      rw [ltE, nI_1]
      have hs : bestF rs b c (i + 1) = if restW rs (leftB b) (upd b c (nI i)) ≤ (bestF rs b c i).1 then bestF rs b c i else (restW rs (leftB b) (upd b c (nI i)), nI i) := rfl
      have i1' := i1 F' (by omega)
      by_cases e : restW rs (leftB b) (upd b c (nI i)) ≤ (bestF rs b c i).1
      · rw [if_pos e] at hs
        rw [hs] at i1'
        rw [if_pos e, if_pos e]
        exact i1'
      · rw [if_neg e] at hs
        rw [hs] at i1'
        rw [if_neg e, if_neg e]
        exact i1'
  obtain ⟨m', i1, i2, i3⟩ := key (top + 1) 0 m0 (by omega) h77 E76.rfl
  unfold r_bestFor r_bestFor_23
  rw [r_isMember_eq hb, hW.memK hkm, Option.bind_some, if_neg (by decide), r_layDown_eq, ← hm0]
  simp only [Option.bind_some]
  have := i1 FU (by show top + 1 < 4000; omega)
  rw [nI_0] at this
  rw [show ((0 : Int32), (-1 : Int32), (0 : Int32), m0) = ((bestF rs b c 0).2, (bestF rs b c 0).1, (0 : Int32), m0) from rfl, this]
  refine ⟨m', rfl, EQ77.SQ ((show EQ77 m m0 by rw [hm0]; exact EQ77_sc sc_79).trans i3.EQ) (by rw [i2, hb])⟩
theorem r_votesFor_eq {m : M} {b : Nat → Int32} {rs : List Rl} (hW : WF b) (hR : RR b rs) (hb : m 77 = b) (y : Int32) : ∃ m1, r_votesFor y m = some (votesV rs b y, m1) ∧ SQ m m1 := by
  unfold r_votesFor votesV
  by_cases h : memB b y = true
  · obtain ⟨k, hk1, hk, rfl⟩ := hW.mem h
    obtain ⟨m1, g1, g2⟩ := r_bestFor_eq (rs := rs) (k := k) (f := 1) (top := 9) hW hR hb hk (by omega) (by decide) hk1 (fun i hi => WF_upd hW (m1 := fun _ _ _ => bd_nI hi))
    rw [if_pos h, nI_clamp (by omega), show (9 : Int32) = nI 9 from rfl, show (1 : Int32) = nI 1 from rfl, g1]
    simp only [Option.bind_some]
    exact ⟨m1, rfl, g2⟩
  · unfold r_bestFor
    rw [if_neg h, r_isMember_eq hb, Bool.eq_false_iff.mpr h, Option.bind_some, if_pos (show b01 false = 0 from rfl)]
    exact ⟨m, rfl, SQ.rfl⟩
theorem r_benchFor_eq {m : M} {b : Nat → Int32} {rs : List Rl} (hW : WF b) (hR : RR b rs) (hb : m 77 = b) (y : Int32) : ∃ m1, r_benchFor y m = some (seatV rs b y, m1) ∧ SQ m m1 := by
  unfold r_benchFor seatV
  by_cases h : memB b y = true
  · obtain ⟨k, hk1, hk, rfl⟩ := hW.mem h
    obtain ⟨m1, g1, g2⟩ := r_bestFor_eq (rs := rs) (k := k) (f := 3) (top := 5) hW hR hb hk (by omega) (by decide) hk1 (fun i hi => WF_upd hW (m3 := fun _ _ _ => bd_nI hi))
    rw [if_pos h, nI_clamp (by omega), show (5 : Int32) = nI 5 from rfl, show (3 : Int32) = nI 3 from rfl, g1]
    simp only [Option.bind_some]
    exact ⟨m1, rfl, g2⟩
  · unfold r_bestFor
    rw [if_neg h, r_isMember_eq hb, Bool.eq_false_iff.mpr h, Option.bind_some, if_pos (show b01 false = 0 from rfl)]
    exact ⟨m, rfl, SQ.rfl⟩
