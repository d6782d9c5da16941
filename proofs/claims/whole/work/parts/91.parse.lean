/-! reading rules on both sides: states, steps -/
def pTB (n : Nat) (t : Nat → Nat) (N : Nat) (K : Nat → Int32) : Prop := TXT n t ∧ (N ≤ n ∧ wSt n t N = n ∧ K N = -2) ∧ ∀ i, i < N → wSt n t i < n ∧ CTk n t (wSt n t i) (K i)
def pC (K : Nat → Int32) (N i L : Nat) (m : M) : Prop := m 47 = K ∧ m 7 4 = nI i ∧ i ≤ N ∧ m 8 5 = nI L ∧ L ≤ 200
def pR (n : Nat) (t : Nat → Nat) (N i : Nat) (m : M) : Prop := RTp n t m ∧ m 76 9 = nI (wSt n t i) ∧ ((i = N ∧ m 76 10 = -1) ∨ (i < N ∧ m 76 8 = nI (wEn n t (wSt n t i)) ∧ RTk n t (wSt n t i) (m 76 10) (m 76 11)))
def TKx (c r v : Int32) : Prop := TK c r v ∨ (c = -2 ∧ r = -1)
theorem pTK {n : Nat} {t : Nat → Nat} {N : Nat} {K : Nat → Int32} {i : Nat} {m : M} (hB : pTB n t N K) (hR : pR n t N i m) : TKx (K i) (m 76 10) (m 76 11) := by
  rcases hR.2.2 with ⟨h1, h2⟩ | ⟨h1, h2, h3⟩
  · rw [h1]; exact Or.inr ⟨hB.2.1.2.2, h2⟩
  · exact Or.inl (TK_of hB.1 (hB.2.2 i h1).1 (hB.2.2 i h1).2 h3)
def fC (L : Nat) (m m' : M) : Prop := (∀ p k, p ≠ 45 → ¬ (p = 7 ∧ k = 4) → ¬ (p = 8 ∧ k = 5) → m' p k = m p k) ∧ ∀ j, j < L → m' 45 j = m 45 j
theorem fC.rfl {L : Nat} {m : M} : fC L m m := ⟨fun _ _ _ _ _ => Eq.refl _, fun _ _ => Eq.refl _⟩
theorem fC.trans {L : Nat} {m m1 m2 : M} (h : fC L m m1) (h2 : fC L m1 m2) : fC L m m2 := ⟨fun p k a b c => (h2.1 p k a b c).trans (h.1 p k a b c), fun j hj => (h2.2 j hj).trans (h.2 j hj)⟩
theorem fC.mono {L L2 : Nat} {m m1 : M} (h : fC L m m1) (hl : L2 ≤ L) : fC L2 m m1 := ⟨h.1, fun j hj => h.2 j (by omega)⟩
def fR (L : Nat) (m m' : M) : Prop := (∀ p k, p ≠ 83 → ¬ (p = 76 ∧ k ∈ [8, 9, 10, 11, 12, 13]) → m' p k = m p k) ∧ ∀ j, j < L → m' 83 j = m 83 j
theorem fR.rfl {L : Nat} {m : M} : fR L m m := ⟨fun _ _ _ _ => Eq.refl _, fun _ _ => Eq.refl _⟩
theorem fR.trans {L : Nat} {m m1 m2 : M} (h : fR L m m1) (h2 : fR L m1 m2) : fR L m m2 := ⟨fun p k a b => (h2.1 p k a b).trans (h.1 p k a b), fun j hj => (h2.2 j hj).trans (h.2 j hj)⟩
theorem fR.mono {L L2 : Nat} {m m1 : M} (h : fR L m m1) (hl : L2 ≤ L) : fR L2 m m1 := ⟨h.1, fun j hj => h.2 j (by omega)⟩
theorem Fl.fR {l : List Nat} {m m1 : M} (h : Fl l m m1) (hl : ∀ k, k ∈ l → k ∈ [8, 9, 10, 11, 12, 13]) (L : Nat) : fR L m m1 := ⟨fun p k _ b => h p k (fun q => b ⟨q.1, hl k q.2⟩), fun j _ => by rw [h.p (by decide)]⟩
theorem pR.fr {n : Nat} {t : Nat → Nat} {N i : Nat} {m m1 : M} (h : pR n t N i m) (hk : ∀ k, k ∈ [6, 8, 9, 10, 11] → m1 76 k = m 76 k) (h1 : m1 81 = m 81) (h2 : m1 82 = m 82) : pR n t N i m1 := by
  refine ⟨⟨(hk 6 (by decide)).trans h.1.1, fun j hj => by rw [h1]; exact h.1.2.1 j hj, h2.trans h.1.2.2⟩, (hk 9 (by decide)).trans h.2.1, ?_⟩
  rw [hk 10 (by decide), hk 11 (by decide), hk 8 (by decide)]
  exact h.2.2
theorem pC.fr {K : Nat → Int32} {N i L i' L' : Nat} {m m1 : M} (h : pC K N i L m) (hf : fC 0 m m1) (h7 : m1 7 4 = nI i') (hi : i' ≤ N) (h8 : m1 8 5 = nI L') (hL : L' ≤ 200) : pC K N i' L' m1 := ⟨(funext fun k => hf.1 47 k (by decide) (by omega) (by omega)).trans h.1, h7, hi, h8, hL⟩
theorem c_next {n : Nat} {t : Nat → Nat} {N : Nat} {K : Nat → Int32} {i L : Nat} {m : M} (hB : pTB n t N K) (hC : pC K N i L m) {a b : Int32} (ha : 0 ≤ a) : (a ≤ K i ∧ K i ≤ b ∧ i < N ∧ ∃ m1, t_next a b m = some (K i, m1) ∧ pC K N (i + 1) L m1 ∧ ∀ L', fC L' m m1) ∨ (¬ (a ≤ K i ∧ K i ≤ b) ∧ t_next a b m = some (-1, m)) := by
  have hn := hB.1.1
  have hN := hB.2.1.1
  have hi := hC.2.2.1
  have hrd : rdI m 47 (m 7 4) = some (K i) := by rw [hC.2.1, rdI_at (by rw [len47]; omega) (by rw [len47]; decide), hC.1]
  unfold t_next
  rw [hrd, Option.bind_some]
  by_cases c1 : K i < a
  · rw [if_pos c1]
    exact Or.inr ⟨fun q => absurd c1 (Int32.not_lt.mpr q.1), rfl⟩
  · rw [if_neg c1]
    by_cases c2 : K i ≤ b
    · have hlt : i < N := by
        rcases Nat.lt_or_ge i N with h | h
        · exact h
        · have e : i = N := by omega
          rw [e, hB.2.1.2.2] at c1
          exact absurd (Int32.lt_of_lt_of_le (by decide : (-2 : Int32) < 0) ha) c1
      rw [if_pos c2, ltE]
      have hf : ∀ L', fC L' m (wrF m 7 4 (m 7 4 + 1)) := fun L' => ⟨fun p k a b c => by
        by_cases e : p = 7
        · subst e; rw [wrF_off (fun q => b ⟨rfl, q⟩)]
        · rw [wrF_ne e], fun j _ => by rw [wrF_ne (by decide)]⟩
      exact Or.inl ⟨Int32.not_lt.mp c1, c2, hlt, _, rfl, hC.fr (hf 0) (by rw [wrF_at, hC.2.1, nI_1]) (by omega) (by rw [wrF_ne (by decide)]; exact hC.2.2.2.1) hC.2.2.2.2, hf⟩
    · rw [if_neg c2]
      exact Or.inr ⟨fun q => c2 q.2, rfl⟩
theorem c_takes {n : Nat} {t : Nat → Nat} {N : Nat} {K : Nat → Int32} {i L : Nat} {m : M} (hB : pTB n t N K) (hC : pC K N i L m) {a : Int32} (ha : 0 ≤ a) : (K i = a ∧ i < N ∧ ∃ m1, t_takes a m = some (1, m1) ∧ pC K N (i + 1) L m1 ∧ ∀ L', fC L' m m1) ∨ (¬ K i = a ∧ t_takes a m = some (0, m)) := by
  unfold t_takes
  rcases c_next hB hC (b := a) ha with ⟨h1, h2, h3, m1, h4, h5, h6⟩ | ⟨h1, h2⟩
  · have e : K i = a := Int32.le_antisymm h2 h1
    rw [h4, Option.bind_some, if_neg (show ¬ K i = -1 from fun q => absurd (show (0 : Int32) ≤ -1 by rw [← q, e]; exact ha) (by decide))]
    exact Or.inl ⟨e, h3, m1, rfl, h5, h6⟩
  · rw [h2, Option.bind_some, if_pos rfl]
    exact Or.inr ⟨fun q => h1 ⟨Int32.le_of_eq q.symm, Int32.le_of_eq q⟩, rfl⟩
theorem c_add {K : Nat → Int32} {N i L : Nat} {m : M} (hC : pC K N i L m) (hL : L < 200) (s : Int32) : ∃ m1, u_addStep s m = some m1 ∧ pC K N i (L + 1) m1 ∧ fC L m m1 ∧ m1 45 L = s := by
  obtain ⟨m1, hm1⟩ : ∃ m1, m1 = wrF (mset m 45 (upd (m 45) L s)) 8 5 (nI (L + 1)) := ⟨_, rfl⟩
  have hf : fC L m m1 := ⟨fun p k a b c => by
    rw [hm1]
    by_cases e : p = 8
    · subst e; rw [wrF_off (fun q => c ⟨rfl, q⟩), mset_ne a]
    · rw [wrF_ne e, mset_ne a], fun j hj => by rw [hm1, wrF_ne (by decide), mset_same, upd_off (by omega)]⟩
  refine ⟨m1, ?_, hC.fr (hf.mono (Nat.zero_le _)) ?_ hC.2.2.1 ?_ (by omega), hf, ?_⟩
  · unfold u_addStep
    rw [hC.2.2.2.1, if_neg (show ¬ (200 : Int32) ≤ nI L from nI_ge (b := 200) hL (by decide)), wrI_at (by rw [len45]; exact hL) (by rw [len45]; decide), Option.bind_some, ltE, mset_ne (by decide), hC.2.2.2.1, nI_1, hm1]
  · rw [hm1, wrF_ne (by decide), mset_ne (by decide)]; exact hC.2.1
  · rw [hm1, wrF_at]
  · rw [hm1, wrF_ne (by decide), mset_same, upd_at]
theorem c_addX {m : M} {L : Nat} (hL : L ≤ 200) (h8 : m 8 5 = nI L) (s : Int32) : ∃ m1 L', u_addStep s m = some m1 ∧ L' ≤ 200 ∧ m1 8 5 = nI L' ∧ fC 0 m m1 ∧ m1 7 4 = m 7 4 := by
  unfold u_addStep
  rw [h8]
  by_cases c : L < 200
  · rw [if_neg (show ¬ (200 : Int32) ≤ nI L from nI_ge (b := 200) c (by decide)), wrI_at (by rw [len45]; exact c) (by rw [len45]; decide), Option.bind_some, ltE, mset_ne (by decide), h8, nI_1]
    refine ⟨_, L + 1, rfl, by omega, wrF_at, ⟨fun p k a b d => ?_, fun j hj => absurd hj (by omega)⟩, by rw [wrF_ne (by decide), mset_ne (by decide)]⟩
    by_cases e : p = 8
    · subst e; rw [wrF_off (fun q => d ⟨rfl, q⟩), mset_ne a]
    · rw [wrF_ne e, mset_ne a]
  · rw [if_pos (show (200 : Int32) ≤ nI L from nI_le (a := 200) (by omega) (by omega))]
    exact ⟨m, L, rfl, hL, h8, fC.rfl, rfl⟩
theorem p_next {n : Nat} {t : Nat → Nat} {N : Nat} {K : Nat → Int32} {i : Nat} {m : M} (hB : pTB n t N K) (hR : pR n t N i m) (hi : i < N) : ∃ m1, r_next m = some m1 ∧ pR n t N (i + 1) m1 ∧ Fl [8, 9, 10, 11] m m1 := by
  have h8 : m 76 8 = nI (wEn n t (wSt n t i)) := by
    rcases hR.2.2 with ⟨h1, h2⟩ | ⟨h1, h2, h3⟩
    · omega
    · exact h2
  obtain ⟨e1, e2, _⟩ := wEn_spec (t := t) (hB.2.2 i hi).1
  obtain ⟨m1, f1, f2, f3, f4⟩ := r_next_eq hB.1 hR.1 e2 h8
  refine ⟨m1, f1, ⟨hR.1.fk f2 (by decide), f3, ?_⟩, f2⟩
  have hw : wSt n t (i + 1) = wNx n t (wEn n t (wSt n t i)) := rfl
  rw [← hw] at f4
  rcases f4 with ⟨g1, g2, g3⟩ | ⟨g1, g2, g3⟩
  · refine Or.inl ⟨?_, g3⟩
    rcases Nat.lt_or_ge (i + 1) N with h | h
    · have := (hB.2.2 _ h).1; omega
    · omega
  · refine Or.inr ⟨?_, g2, g3⟩
    rcases Nat.lt_or_ge (i + 1) N with h | h
    · exact h
    · have e : i + 1 = N := by omega
      rw [e, hB.2.1.2.1] at g1
      omega
theorem p_takes {n : Nat} {t : Nat → Nat} {N : Nat} {K : Nat → Int32} {i : Nat} {m : M} (hB : pTB n t N K) (hR : pR n t N i m) {a : Int32} (ha : ¬ a = -1) : (m 76 10 = a ∧ i < N ∧ ∃ m1, r_takes a m = some (1, m1) ∧ pR n t N (i + 1) m1 ∧ Fl [8, 9, 10, 11] m m1) ∨ (¬ m 76 10 = a ∧ r_takes a m = some (0, m)) := by
  unfold r_takes r_takes_13
  by_cases c : m 76 10 = a
  · have hi : i < N := by
      rcases hR.2.2 with ⟨h1, h2⟩ | ⟨h1, h2, h3⟩
      · exact absurd (c.symm.trans h2) ha
      · exact h1
    obtain ⟨m1, f1, f2, f3⟩ := p_next hB hR hi
    rw [if_pos c, if_neg one_ne, f1]
    exact Or.inl ⟨c, hi, m1, congrArg some (congrArg (fun q => (q, m1)) (by decide)), f2, f3⟩
  · rw [if_neg c, if_pos rfl]
    exact Or.inr ⟨c, congrArg some (congrArg (fun q => (q, m)) (by decide))⟩
theorem p_lays {m : M} {L : Nat} (hL : L < 200) (h13 : m 76 13 = nI L) (v : Int32) : ∃ m1, r_lays v m = some m1 ∧ m1 76 13 = nI (L + 1) ∧ m1 83 L = v ∧ (∀ j, j ≠ L → m1 83 j = m 83 j) ∧ (∀ p k, p ≠ 83 → ¬ (p = 76 ∧ k = 13) → m1 p k = m p k) := by
  unfold r_lays
  rw [h13, wrI_at (by rw [len83]; exact hL) (by rw [len83]; decide), Option.bind_some, ltE, mset_ne (by decide), h13, nI_1]
  refine ⟨_, rfl, wrF_at, by rw [wrF_ne (by decide), mset_same, upd_at], fun j hj => by rw [wrF_ne (by decide), mset_same, upd_off hj], fun p k a b => ?_⟩
  by_cases e : p = 76
  · subst e; rw [wrF_off (fun q => b ⟨rfl, q⟩), mset_ne a]
  · rw [wrF_ne e, mset_ne a]
theorem lays_fR {m m1 : M} {L : Nat} (h : ∀ j, j ≠ L → m1 83 j = m 83 j) (h2 : ∀ p k, p ≠ 83 → ¬ (p = 76 ∧ k = 13) → m1 p k = m p k) : fR L m m1 := ⟨fun p k a b => h2 p k a (fun q => b ⟨q.1, by rw [q.2]; decide⟩), fun j hj => h j (by omega)⟩
theorem lays_pR {n : Nat} {t : Nat → Nat} {N i : Nat} {m m1 : M} (hR : pR n t N i m) (h2 : ∀ p k, p ≠ 83 → ¬ (p = 76 ∧ k = 13) → m1 p k = m p k) : pR n t N i m1 := hR.fr (fun k hk => h2 76 k (by decide) (fun q => by rw [q.2] at hk; revert hk; decide)) (funext fun k => h2 81 k (by decide) (by omega)) (funext fun k => h2 82 k (by decide) (by omega))
/-! how tests of words agree -/
theorem m1_ne {n : Nat} (h : n < 2 ^ 31) : ¬ (-1 : Int32) = nI n := fun q => absurd (nI_pos' h) (by rw [← q]; decide)
theorem m2_ne {n : Nat} (h : n < 2 ^ 31) : ¬ (-2 : Int32) = nI n := fun q => absurd (nI_pos' h) (by rw [← q]; decide)
theorem sw_inj {a b : Nat} : sw a = sw b ↔ a = b := ⟨fun h => by rw [← sw_sw a, h, sw_sw], fun h => by rw [h]⟩
theorem sgn_inj : ∀ i, i < 6 → ∀ j, j < 6 → (sgn i = sgn j ↔ i = j) := by decide
theorem sgn_hi : ∀ i, i < 6 → 40 ≤ sgn i ∧ sgn i ≤ 62 := by decide
theorem tk_name {c r v : Int32} (h : TKx c r v) {x : Nat} (hx : x < 18) : c = nI x ↔ r = nI (sw x) := by
  have hs := sw_lt hx
  rcases h with (⟨k, hk, rfl, rfl⟩ | ⟨y, hy, rfl, rfl, _⟩ | ⟨j, hj, rfl, rfl⟩ | ⟨rfl, y, h1, h2, rfl, h4⟩) | ⟨rfl, rfl⟩
  · have := sw_lt hk
    rw [nI_eq (by omega) (by omega), nI_eq (by omega) (by omega), sw_inj]
  · rw [nI_eq (by omega) (by omega), show (100 : Int32) = nI 100 from rfl, nI_eq (by omega) (by omega)]
    omega
  · rw [nI_eq (by omega) (by omega), nI_eq (by have := sgn_hi j hj; omega) (by omega)]
    omega
  · rw [nI_eq (by omega) (by omega)]
    exact ⟨fun q => absurd q (m1_ne (by omega)), fun q => by omega⟩
  · exact ⟨fun q => absurd q (m2_ne (by omega)), fun q => absurd q (m1_ne (by omega))⟩
theorem tk_sign {c r v : Int32} (h : TKx c r v) {x : Nat} (hx : x < 6) : c = nI (10018 + x) ↔ r = nI (200 + sgn x) := by
  have hs := sgn_hi x hx
  rcases h with (⟨k, hk, rfl, rfl⟩ | ⟨y, hy, rfl, rfl, _⟩ | ⟨j, hj, rfl, rfl⟩ | ⟨rfl, y, h1, h2, rfl, h4⟩) | ⟨rfl, rfl⟩
  · have := sw_lt hk
    rw [nI_eq (by omega) (by omega), nI_eq (by omega) (by omega)]
    omega
  · rw [nI_eq (by omega) (by omega), show (100 : Int32) = nI 100 from rfl, nI_eq (by omega) (by omega)]
    omega
  · have := sgn_hi j hj
    rw [nI_eq (by omega) (by omega), nI_eq (by omega) (by omega)]
    have := sgn_inj j hj x hx
    omega
  · rw [nI_eq (by omega) (by omega)]
    exact ⟨fun q => absurd q (m1_ne (by omega)), fun q => absurd q (h4 x hx)⟩
  · exact ⟨fun q => absurd q (m2_ne (by omega)), fun q => absurd q (m1_ne (by omega))⟩
/-- a name in a range that both count alike -/
theorem tk_range {c r v : Int32} (h : TKx c r v) {a b : Nat} (hb : b ≤ 8) (hab : a ≤ b) : ((nI a ≤ c ∧ c ≤ nI b) ↔ (nI a ≤ r ∧ r ≤ nI b)) ∧ (nI a ≤ c ∧ c ≤ nI b → r = c) := by
  have hx := hab
  · rcases h with (⟨k, hk, rfl, rfl⟩ | ⟨y, hy, rfl, rfl, _⟩ | ⟨j, hj, rfl, rfl⟩ | ⟨rfl, y, h1, h2, rfl, h4⟩) | ⟨rfl, rfl⟩
    · have := sw_lt hk
      rw [nI_leI (by omega) (by omega), nI_leI (by omega) (by omega), nI_leI (by omega) (by omega), nI_leI (by omega) (by omega)]
      have e : sw k = k ∨ (8 < k ∧ 8 < sw k) := by unfold sw; split <;> (try split) <;> omega
      refine ⟨by omega, fun q => ?_⟩
      rcases e with e | e
      · rw [e]
      · omega
    · rw [show (100 : Int32) = nI 100 from rfl, nI_leI (by omega) (by omega), nI_leI (by omega) (by omega), nI_leI (by omega) (by omega), nI_leI (by omega) (by omega)]
      exact ⟨by omega, fun q => by omega⟩
    · have := sgn_hi j hj
      rw [nI_leI (by omega) (by omega), nI_leI (by omega) (by omega), nI_leI (by omega) (by omega), nI_leI (by omega) (by omega)]
      exact ⟨by omega, fun q => by omega⟩
    · rw [nI_leI (a := a) (b := y) (by omega) (by omega), nI_leI (a := y) (b := b) (by omega) (by omega)]
      have hz : ¬ nI a ≤ (-1 : Int32) := fun q => absurd (Int32.le_trans (nI_pos' (by omega)) q) (by decide)
      exact ⟨⟨fun q => absurd q.1 hz, fun q => by omega⟩, fun q => absurd q.1 hz⟩
    · have hz : ¬ nI a ≤ (-1 : Int32) := fun q => absurd (Int32.le_trans (nI_pos' (by omega)) q) (by decide)
      have hz2 : ¬ nI a ≤ (-2 : Int32) := fun q => absurd (Int32.le_trans (nI_pos' (by omega)) q) (by decide)
      exact ⟨⟨fun q => absurd q.1 hz2, fun q => absurd q.1 hz⟩, fun q => absurd q.1 hz2⟩
