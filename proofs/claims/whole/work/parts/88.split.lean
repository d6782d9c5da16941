/-! the class cuts the text -/
theorem bg_first {n : Nat} {t : Nat → Nat} : (∀ q, 0 ≤ q → q < wSt n t 0 → ¬ bg t q) ∧ (wSt n t 0 < n → bg t (wSt n t 0)) := by
  obtain ⟨h1, h2, h3, h4⟩ := wNx_spec (t := t) (Nat.zero_le n)
  refine ⟨fun q _ hq hb => hb.1 (so_0.mpr (h3 q (Nat.zero_le _) hq)), fun h => ⟨fun q => h4 h (so_0.mp q), ?_⟩⟩
  by_cases c : wSt n t 0 = 0
  · exact Or.inr (Or.inl c)
  · refine Or.inr (Or.inr (fun q => ?_))
    have e : so (t (wSt n t 0 - 1)) = 0 := so_0.mpr (h3 _ (Nat.zero_le _) (by show _ < wSt n t 0; omega))
    rw [e] at q
    exact h4 h (so_0.mp q.symm)
theorem bg_after {n : Nat} {t : Nat → Nat} {s : Nat} (hs : s < n) : (∀ q, s + 1 ≤ q → q < wNx n t (wEn n t s) → ¬ bg t q) ∧ (wNx n t (wEn n t s) < n → bg t (wNx n t (wEn n t s))) := by
  obtain ⟨e1, e2, e3, e4, e5⟩ := wEn_spec (t := t) hs
  obtain ⟨h1, h2, h3, h4⟩ := wNx_spec (t := t) e2
  refine ⟨fun q hq1 hq2 hb => ?_, fun h => ⟨fun q => h4 h (so_0.mp q), ?_⟩⟩
  · by_cases c : q < wEn n t s
    · have a1 := e3 q (by omega) c
      have a2 := e3 (q - 1) (by omega) (by omega)
      rcases hb.2 with g | g | g
      · have := e5 (a1.symm.trans g); omega
      · omega
      · exact g (a2.trans a1.symm)
    · exact hb.1 (so_0.mpr (h3 q (by omega) hq2))
  · by_cases c : wNx n t (wEn n t s) = wEn n t s
    · rw [c]
      have a2 := e3 (wEn n t s - 1) (by omega) (by omega)
      by_cases c3 : so (t s) = 3
      · by_cases c4 : so (t (wEn n t s)) = 3
        · exact Or.inl c4
        · exact Or.inr (Or.inr (fun q => c4 (q.symm.trans (a2.trans c3))))
      · exact Or.inr (Or.inr (fun q => e4 c3 (by omega) (q.symm.trans a2)))
    · have e : so (t (wNx n t (wEn n t s) - 1)) = 0 := so_0.mpr (h3 _ (by omega) (by omega))
      refine Or.inr (Or.inr (fun q => ?_))
      rw [e] at q
      exact h4 h (so_0.mp q.symm)
def SPI (n : Nat) (t : Nat → Nat) (m0 : M) (a p : Nat) (m : M) : Prop := (p ≤ n ∧ a ≤ p ∧ p ≤ wSt n t a ∧ wSt n t a ≤ n) ∧ (∀ q, p ≤ q → q < wSt n t a → ¬ bg t q) ∧ (wSt n t a < n → bg t (wSt n t a)) ∧ (∀ i, i < a → wSt n t i < n ∧ CTk n t (wSt n t i) (m 47 i) ∧ m 48 i = nI (wSt n t i)) ∧ (∀ p', p' ≠ 47 → p' ≠ 48 → m p' = m0 p')
theorem split_loop {n : Nat} {t : Nat → Nat} {m0 : M} (hT : TXT n t) (hm : CTp n t m0) : ∀ (d a p F : Nat) (m : M), p + d = n → d < F → SPI n t m0 a p m → ∃ N m', iter (fun z => t_split_4b z.1 z.2.1 z.2.2) F (nI a, nI p, m) = some (nI N, m') ∧ SPI n t m0 N n m' := by
  have hn := hT.1
  intro d
  induction d with
  | zero =>
    intro a p F m h1 h2 hS
    obtain ⟨F', rfl⟩ : ∃ F', F = F' + 1 := ⟨F - 1, by omega⟩
    have e : p = n := by omega
    subst e
    refine ⟨a, m, ?_, hS⟩
    show Option.bind (t_split_4b (nI a) (nI p) m) _ = _
    unfold t_split_4b
    rw [hS.2.2.2.2 7 (by decide) (by decide), hm.1, if_pos (nI_le (Nat.le_refl _) (by omega))]
    rfl
  | succ d ih =>
    intro a p F m h1 h2 hS
    obtain ⟨F', rfl⟩ : ∃ F', F = F' + 1 := ⟨F - 1, by omega⟩
    obtain ⟨⟨s1, s2, s3, s4⟩, s5, s6, s7, s8⟩ := hS
    have hmm : CTp n t m := ⟨by rw [s8 7 (by decide) (by decide)]; exact hm.1, fun j hj => by rw [s8 46 (by decide) (by decide)]; exact hm.2 j hj⟩
    have hp : p < n := by omega
    by_cases c : bg t p
    · have hw : wSt n t a = p := by
        by_cases e : p < wSt n t a
        · exact absurd c (s5 p (Nat.le_refl _) e)
        · omega
      obtain ⟨v, g1, g2⟩ := t_tokenAt_eq hT hmm hp c.1
      obtain ⟨m1, hm1⟩ : ∃ m1, m1 = mset (mset m 47 (upd (m 47) a v)) 48 (upd (m 48) a (nI p)) := ⟨_, rfl⟩
      have hb : t_split_4b (nI a) (nI p) m = some (.inl (nI (a + 1), nI (p + 1), m1)) := by
        unfold t_split_4b
        rw [hmm.1, if_neg (nI_ge hp (by omega)), t_beginsAt_t hT hmm hp c, Option.bind_some, if_neg one_ne, g1, Option.bind_some, wrI_at (by rw [len47]; omega) (by rw [len47]; decide), Option.bind_some, wrI_at (by rw [len48]; omega) (by rw [len48]; decide), Option.bind_some, ltE, nI_1, mset_ne (by decide), hm1]
        unfold t_split_41
        rw [ltE, nI_1]
      have hS1 : SPI n t m0 (a + 1) (p + 1) m1 := by
        obtain ⟨b1, b2⟩ := bg_after (t := t) hp
        obtain ⟨e1, e2, _⟩ := wEn_spec (t := t) hp
        obtain ⟨h1', h2', _⟩ := wNx_spec (t := t) e2
        have hx : wSt n t (a + 1) = wNx n t (wEn n t p) := by
          show wNx n t (wEn n t (wSt n t a)) = _
          rw [hw]
        refine ⟨⟨by omega, by omega, by omega, by omega⟩, by rw [hx]; exact b1, by rw [hx]; exact b2, fun i hi => ?_, fun p' x1 x2 => by rw [hm1, mset_ne x2, mset_ne x1]; exact s8 p' x1 x2⟩
        rw [hm1, mset_ne (by decide), mset_same, mset_same]
        by_cases e : i = a
        · subst e
          rw [upd_at, upd_at, hw]
          exact ⟨hp, g2, rfl⟩
        · rw [upd_off e, upd_off e]
          exact s7 i (by omega)
      obtain ⟨N, m', f1, f2⟩ := ih (a + 1) (p + 1) F' m1 (by omega) (by omega) hS1
      refine ⟨N, m', ?_, f2⟩
      show Option.bind (t_split_4b (nI a) (nI p) m) _ = _
      rw [hb]
      exact f1
    · have hw : p < wSt n t a := by
        by_cases e : p = wSt n t a
        · exact absurd (by rw [e]; exact s6 (by omega)) c
        · omega
      have hb : t_split_4b (nI a) (nI p) m = some (.inl (nI a, nI (p + 1), m)) := by
        unfold t_split_4b
        rw [hmm.1, if_neg (nI_ge hp (by omega)), t_beginsAt_f hT hmm hp c, Option.bind_some, if_pos rfl]
        unfold t_split_41
        rw [ltE, nI_1]
      obtain ⟨N, m', f1, f2⟩ := ih a (p + 1) F' m (by omega) (by omega) ⟨⟨by omega, by omega, by omega, s4⟩, fun q x1 x2 => s5 q (by omega) x2, s6, s7, s8⟩
      refine ⟨N, m', ?_, f2⟩
      show Option.bind (t_split_4b (nI a) (nI p) m) _ = _
      rw [hb]
      exact f1
/-- the class's table of words -/
def CTb (n : Nat) (t : Nat → Nat) (N : Nat) (m : M) : Prop := (N ≤ n ∧ wSt n t N = n ∧ m 47 N = -2 ∧ m 48 N = nI n) ∧ ∀ i, i < N → wSt n t i < n ∧ CTk n t (wSt n t i) (m 47 i) ∧ m 48 i = nI (wSt n t i)
theorem t_split_eq {n : Nat} {t : Nat → Nat} {m : M} (hT : TXT n t) (hm : CTp n t m) : ∃ N m', t_split m = some m' ∧ CTb n t N m' ∧ (∀ p', p' ≠ 47 → p' ≠ 48 → m' p' = m p') := by
  have hn := hT.1
  obtain ⟨N, m1, g1, ⟨s1, s2, s3, s4⟩, s5, s6, s7, s8⟩ := split_loop hT hm n 0 0 FU m (by omega) (by unfold FU; omega) ⟨⟨Nat.zero_le _, Nat.le_refl _, Nat.zero_le _, wSt_le 0 (fun j hj => absurd hj (by omega))⟩, bg_first.1, bg_first.2, fun i hi => absurd hi (by omega), fun _ _ _ => rfl⟩
  have hw : wSt n t N = n := by omega
  refine ⟨N, mset (mset m1 47 (upd (m1 47) N (-2))) 48 (upd (m1 48) N (nI n)), ?_, ⟨⟨s2, hw, ?_, ?_⟩, fun i hi => ?_⟩, fun p' x1 x2 => ?_⟩
  · unfold t_split t_split_4
    rw [show iter (fun z => t_split_4b z.1 z.2.1 z.2.2) FU (0, 0, m) = _ from g1, Option.bind_some, wrI_at (by rw [len47]; omega) (by rw [len47]; decide), Option.bind_some, wrI_at (by rw [len48]; omega) (by rw [len48]; decide), Option.bind_some, mset_ne (by decide), mset_ne (by decide)]
    show some (mset (mset m1 47 _) 48 (upd (m1 48) N (m1 7 0))) = _
    rw [s8 7 (by decide) (by decide), hm.1]
  · rw [mset_ne (by decide), mset_same, upd_at]
  · rw [mset_same, upd_at]
  · rw [mset_ne (by decide), mset_same, mset_same, upd_off (by omega), upd_off (by omega)]
    exact s7 i hi
  · rw [mset_ne x2, mset_ne x1]
    exact s8 p' x1 x2
