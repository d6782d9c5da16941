/-! the reference's next word; how the words of both sides belong together -/
theorem names_loop {n : Nat} {t : Nat → Nat} {p L : Nat} (hT : TXT n t) (hp : p + L ≤ n) (hlet : ∀ j, j < L → 97 ≤ t (p + j) ∧ t (p + j) ≤ 122) : ∀ (d k F : Nat) (m : M), k + d = 18 → d < F → RTp n t m → m 76 8 = nI (p + L) → m 76 9 = nI p → ∃ m', iter (fun z => r_readsName_39b z.1 z.2) F (nI k, m) = some m' ∧ Fl [10] m m' ∧ ((∃ i, k ≤ i ∧ i < 18 ∧ mt t p L (sw i) ∧ m' 76 10 = nI i) ∨ ((∀ i, k ≤ i → i < 18 → ¬ mt t p L (sw i)) ∧ m' 76 10 = m 76 10)) := by
  intro d
  induction d with
  | zero =>
    intro k F m h1 h2 hm h8 h9
    obtain ⟨F', rfl⟩ : ∃ F', F = F' + 1 := ⟨F - 1, by omega⟩
    refine ⟨m, ?_, Fl.rfl, Or.inr ⟨fun i _ _ => by omega, rfl⟩⟩
    show Option.bind (r_readsName_39b (nI k) m) _ = _
    unfold r_readsName_39b
    rw [if_pos (show (18 : Int32) ≤ nI k from (nI_leI (a := 18) (by decide) (by omega)).mpr (by omega))]
    rfl
  | succ d ih =>
    intro k F m h1 h2 hm h8 h9
    obtain ⟨F', rfl⟩ : ∃ F', F = F' + 1 := ⟨F - 1, by omega⟩
    have hx : ∀ v, r_readsName_62 (nI k) v m = some (.inl (nI (k + 1), wrF m 76 10 v)) := fun v => by
      unfold r_readsName_62
      rw [ltE, ltE, nI_1]
    have hgo : ∀ v, r_readsName_39b (nI k) m = some (.inl (nI (k + 1), wrF m 76 10 v)) → ∃ m', iter (fun z => r_readsName_39b z.1 z.2) (F' + 1) (nI k, m) = some m' ∧ Fl [10] m m' ∧ ((∃ i, k + 1 ≤ i ∧ i < 18 ∧ mt t p L (sw i) ∧ m' 76 10 = nI i) ∨ ((∀ i, k + 1 ≤ i → i < 18 → ¬ mt t p L (sw i)) ∧ m' 76 10 = v)) := fun v hb => by
      have hk : Fl [10] m (wrF m 76 10 v) := Fl_w (by simp)
      obtain ⟨m', f1, f2, f3⟩ := ih (k + 1) F' _ (by omega) (by omega) (hm.fk hk (by decide)) ((hk.k (by decide)).trans h8) ((hk.k (by decide)).trans h9)
      refine ⟨m', ?_, hk.trans f2, ?_⟩
      · show Option.bind (r_readsName_39b (nI k) m) _ = _
        rw [hb]
        exact f1
      · rcases f3 with f | ⟨f, g⟩
        · exact Or.inl f
        · exact Or.inr ⟨f, by rw [g, wrF_at]⟩
    have h18 : ¬ (18 : Int32) ≤ nI k := nI_ge (b := 18) (by omega) (by decide)
    rcases r_isNameOf_eq hT hm (show k < 18 by omega) hp h8 h9 hlet with ⟨c, g⟩ | ⟨c, g⟩
    · obtain ⟨m', f1, f2, f3⟩ := hgo (nI k) (by unfold r_readsName_39b; rw [if_neg h18, g, Option.bind_some, if_neg one_ne, hx])
      refine ⟨m', f1, f2, ?_⟩
      rcases f3 with ⟨i, a1, a2, a3, a4⟩ | ⟨_, a⟩
      · exact Or.inl ⟨i, by omega, a2, a3, a4⟩
      · exact Or.inl ⟨k, Nat.le_refl _, by omega, c, a⟩
    · obtain ⟨m', f1, f2, f3⟩ := hgo (m 76 10) (by unfold r_readsName_39b; rw [if_neg h18, g, Option.bind_some, if_pos rfl, hx])
      refine ⟨m', f1, f2, ?_⟩
      rcases f3 with ⟨i, a1, a2, a3, a4⟩ | ⟨a, b⟩
      · exact Or.inl ⟨i, by omega, a2, a3, a4⟩
      · refine Or.inr ⟨fun i x1 x2 => ?_, b⟩
        by_cases e : i = k
        · rw [e]; exact c
        · exact a i (by omega) x2
/-- what the reference makes of the word at p -/
def RTk (n : Nat) (t : Nat → Nat) (p : Nat) (r v : Int32) : Prop := (so (t p) = 3 ∧ r = nI (200 + t p)) ∨ (so (t p) = 2 ∧ ((wEn n t p - p ≤ 4 ∧ r = 100 ∧ v = nI (dv t p (wEn n t p - p))) ∨ (4 < wEn n t p - p ∧ r = 101))) ∨ (so (t p) = 1 ∧ ((∃ i, i < 18 ∧ mt t p (wEn n t p - p) (sw i) ∧ r = nI i) ∨ ((∀ i, i < 18 → ¬ mt t p (wEn n t p - p) (sw i)) ∧ r = 101)))
/-- the reference's next word, from a place in the text -/
theorem r_next_eq {n : Nat} {t : Nat → Nat} {m : M} {p : Nat} (hT : TXT n t) (hm : RTp n t m) (hp : p ≤ n) (h8 : m 76 8 = nI p) : ∃ m', r_next m = some m' ∧ Fl [8, 9, 10, 11] m m' ∧ m' 76 9 = nI (wNx n t p) ∧ ((wNx n t p = n ∧ m' 76 8 = nI n ∧ m' 76 10 = -1) ∨ (wNx n t p < n ∧ m' 76 8 = nI (wEn n t (wNx n t p)) ∧ RTk n t (wNx n t p) (m' 76 10) (m' 76 11))) := by
  have hn := hT.1
  obtain ⟨s1, s2, s3, s4⟩ := wNx_spec (t := t) hp
  obtain ⟨m1, f1, f2, f3⟩ := skip_loop hT (n - p) p FU m (by omega) (by unfold FU; omega) hm h8
  obtain ⟨s, hs⟩ : ∃ s, wNx n t p = s := ⟨_, rfl⟩
  rw [show fw (fun q => t q == 32) (n - p) p = s from hs] at f2
  rw [hs] at s1 s2 s3 s4 ⊢
  obtain ⟨m3, hm3⟩ : ∃ m3, m3 = wrF m1 76 9 (nI s) := ⟨_, rfl⟩
  have k13 : Fl [9] m1 m3 := by rw [hm3]; exact Fl_w (by simp)
  have k3 : Fl [8, 9, 10, 11] m m3 := (f3.mono (by decide)).trans (k13.mono (by decide))
  have a8 : m3 76 8 = nI s := (k13.k (by decide)).trans f2
  have a9 : m3 76 9 = nI s := by rw [hm3, wrF_at]
  have r3 : RTp n t m3 := hm.fk k3 (by decide)
  have hrun : r_next m = Option.bind (r_byteAt (nI s) m3) (fun v4 => (if 0 ≤ v4 then Option.bind (r_in1 v4 (97 : Int32) (122 : Int32) m3) (fun v5 => (if v5 = 0 then Option.bind (r_in1 v4 (48 : Int32) (57 : Int32) m3) (fun v6 => (if v6 = 0 then lt (wrF m3 76 10 ((200 : Int32) + v4)) (fun m7 => lt (wrF m7 76 8 ((m7 76 8) + (1 : Int32))) (fun m8 => some m8)) else Option.bind (r_readsNumber m3) (fun m9 => some m9))) else Option.bind (r_readsName m3) (fun m10 => some m10))) else lt (wrF m3 76 10 (-1 : Int32)) (fun m11 => some m11))) := by
    unfold r_next
    rw [f1, Option.bind_some, ltE, f2, ← hm3, a8]
  rw [hrun]
  by_cases c : s = n
  · rw [r_byteAt_out hT r3 (by omega) (by omega), Option.bind_some, if_neg (by decide), ltE]
    refine ⟨_, rfl, k3.trans (Fl_w (by simp)), by rw [wrF_off (by decide)]; exact a9, Or.inl ⟨c, by rw [wrF_off (by decide), a8, c], wrF_at⟩⟩
  · have hsn : s < n := by omega
    have h256 := hT.2 s hsn
    obtain ⟨e1, e2, e3, e4, e5⟩ := wEn_spec (t := t) hsn
    rw [r_byteAt_in hT r3 hsn, Option.bind_some, if_pos (nI_pos' (by omega)), in_so1 h256, Option.bind_some, in_so2 h256]
    have hx : ∀ k, so (t s) = k → k ≠ 3 → fw (fun q => so (t q) == k) (n - s) s = wEn n t s := fun k hk hk3 => by
      have hh : wEn n t s = fw (fun q => so (t q) == so (t s)) (n - (s + 1)) (s + 1) := if_neg (by rw [hk]; exact hk3)
      rw [hh, hk, show n - s = (n - (s + 1)) + 1 by omega]
      exact if_pos (by simpa using hk)
    by_cases c1 : so (t s) = 1
    · rw [if_pos c1, if_neg one_ne]
      obtain ⟨m4, g1, g2, g3⟩ := name_loop hT (n - s) s FU m3 (by omega) (by unfold FU; omega) r3 a8
      rw [hx 1 c1 (by decide)] at g2
      obtain ⟨m5, hm5⟩ : ∃ m5, m5 = wrF m4 76 10 101 := ⟨_, rfl⟩
      have k45 : Fl [10] m4 m5 := by rw [hm5]; exact Fl_w (by simp)
      have hE : wEn n t s = s + (wEn n t s - s) := by omega
      have b8 : m5 76 8 = nI (s + (wEn n t s - s)) := by rw [k45.k (by decide), g2, ← hE]
      have b9 : m5 76 9 = nI s := (k45.k (by decide)).trans ((g3.k (by decide)).trans a9)
      obtain ⟨m6, j1, j2, j3⟩ := names_loop hT (p := s) (L := wEn n t s - s) (by omega) (fun j hj => so_1.mp ((e3 (s + j) (by omega) (by omega)).trans c1)) 18 0 FU m5 (by decide) (by unfold FU; decide) ((r3.fk g3 (by decide)).fk k45 (by decide)) b8 b9
      have hr : r_readsName m3 = some m6 := by
        unfold r_readsName
        rw [g1, Option.bind_some, ltE, ← hm5]
        unfold r_readsName_39
        rw [show iter (fun z => r_readsName_39b z.1 z.2) FU (0, m5) = _ from j1]
        rfl
      rw [hr]
      refine ⟨m6, rfl, k3.trans ((g3.mono (by decide)).trans ((k45.mono (by decide)).trans (j2.mono (by decide)))), (j2.k (by decide)).trans b9, Or.inr ⟨hsn, ?_, Or.inr (Or.inr ⟨c1, ?_⟩)⟩⟩
      · rw [j2.k (by decide), b8, ← hE]
      · rcases j3 with ⟨i, _, x2, x3, x4⟩ | ⟨x1, x2⟩
        · exact Or.inl ⟨i, x2, x3, x4⟩
        · exact Or.inr ⟨fun i hi => x1 i (Nat.zero_le _) hi, by rw [x2, hm5, wrF_at]⟩
    · rw [if_neg c1, if_pos rfl]
      by_cases c2 : so (t s) = 2
      · rw [if_pos c2, Option.bind_some, if_neg one_ne]
        obtain ⟨m4, hm4⟩ : ∃ m4, m4 = wrF m3 76 11 0 := ⟨_, rfl⟩
        have k34 : Fl [11] m3 m4 := by rw [hm4]; exact Fl_w (by simp)
        obtain ⟨m5, g1, g2, g3, g4⟩ := num_loop (p := s) hT (n - s) s FU m4 (by omega) (Nat.le_refl _) (by unfold FU; omega) (r3.fk k34 (by decide)) ((k34.k (by decide)).trans a8) ((k34.k (by decide)).trans a9) (by rw [hm4, wrF_at, Nat.sub_self]; rfl) (fun j hj => absurd hj (by omega))
        rw [hx 2 c2 (by decide)] at g2 g3
        have b9 : m5 76 9 = nI s := (g4.k (by decide)).trans ((k34.k (by decide)).trans a9)
        have hL : nI (wEn n t s) - nI s = nI (wEn n t s - s) := pk_sub (by omega)
        have hk : Fl [8, 9, 10, 11] m m5 := k3.trans ((k34.mono (by decide)).trans (g4.mono (by decide)))
        have hr : ∀ v, (if wEn n t s - s ≤ 4 then (100 : Int32) else 101) = v → r_readsNumber m3 = some (wrF m5 76 10 v) := fun v hv => by
          unfold r_readsNumber
          rw [ltE, ← hm4]
          unfold r_readsNumber_5
          rw [g1, Option.bind_some, g2, b9, hL]
          unfold r_readsNumber_100
          rw [ltE, ltE, ← hv]
          by_cases c4 : wEn n t s - s ≤ 4
          · rw [if_pos (show nI (wEn n t s - s) ≤ (4 : Int32) from (nI_leI (b := 4) (by omega) (by decide)).mpr c4), if_pos c4]
          · rw [if_neg (show ¬ nI (wEn n t s - s) ≤ (4 : Int32) from fun q => c4 ((nI_leI (b := 4) (by omega) (by decide)).mp q)), if_neg c4]
        rw [hr _ rfl]
        refine ⟨_, rfl, hk.trans (Fl_w (by simp)), by rw [wrF_off (by decide)]; exact b9, Or.inr ⟨hsn, by rw [wrF_off (by decide)]; exact g2, Or.inr (Or.inl ⟨c2, ?_⟩)⟩⟩
        rw [wrF_at, wrF_off (by decide)]
        by_cases c4 : wEn n t s - s ≤ 4
        · rw [if_pos c4]
          exact Or.inl ⟨c4, rfl, by rw [g3, Nat.min_eq_left c4]⟩
        · rw [if_neg c4]
          exact Or.inr ⟨by omega, rfl⟩
      · have c3 : so (t s) = 3 := by
          have := so_le (t s)
          have h0 : so (t s) ≠ 0 := fun q => s4 hsn (so_0.mp q)
          omega
        rw [if_neg c2, Option.bind_some, if_pos rfl, ltE, ltE]
        refine ⟨_, rfl, k3.trans ((Fl_w (by simp)).trans (Fl_w (by simp))), by rw [wrF_off (by decide), wrF_off (by decide)]; exact a9, Or.inr ⟨hsn, ?_, Or.inl ⟨c3, ?_⟩⟩⟩
        · rw [wrF_at, wrF_off (by decide), a8, nI_1, e5 c3]
        · rw [wrF_off (by decide), wrF_at, show (200 : Int32) = nI 200 from rfl, nI_add]
/-- how a word of the class and one of the reference belong together -/
def TK (c r v : Int32) : Prop := (∃ k, k < 18 ∧ c = nI k ∧ r = nI (sw k)) ∨ (∃ x, x ≤ 9999 ∧ c = nI (18 + x) ∧ r = 100 ∧ v = nI x) ∨ (∃ j, j < 6 ∧ c = nI (10018 + j) ∧ r = nI (200 + sgn j)) ∨ (c = -1 ∧ ∃ x, 101 ≤ x ∧ x < 1000 ∧ r = nI x ∧ ∀ j, j < 6 → x ≠ 200 + sgn j)
theorem TK_of {n : Nat} {t : Nat → Nat} {p : Nat} {c r v : Int32} (hT : TXT n t) (hp : p < n) (hc : CTk n t p c) (hr : RTk n t p r v) : TK c r v := by
  have h256 := hT.2 p hp
  obtain ⟨e1, e2, e3, e4, e5⟩ := wEn_spec (t := t) hp
  rcases hc with ⟨a, hc⟩ | ⟨a, hc⟩ | ⟨a, hc⟩ <;> rcases hr with ⟨b, hr⟩ | ⟨b, hr⟩ | ⟨b, hr⟩ <;> try omega
  · rcases hc with ⟨j, hj, h1, h2⟩ | ⟨h1, h2⟩
    · exact Or.inr (Or.inr (Or.inl ⟨j, hj, h2, by rw [hr, h1]⟩))
    · exact Or.inr (Or.inr (Or.inr ⟨h2, 200 + t p, by omega, by omega, hr, fun j hj q => h1 j hj (by omega)⟩))
  · rcases hr with ⟨h1, h2, h3⟩ | ⟨h1, h2⟩
    · rw [if_pos h1] at hc
      exact Or.inr (Or.inl ⟨_, dv_4 h1 (fun j hj => so_2.mp ((e3 (p + j) (by omega) (by omega)).trans a)), hc, h2, h3⟩)
    · rw [if_neg (by omega)] at hc
      exact Or.inr (Or.inr (Or.inr ⟨hc, 101, by omega, by omega, h2, by decide⟩))
  · rcases hc with ⟨k, hk, h1, h2⟩ | ⟨h1, h2⟩
    · rcases hr with ⟨i, hi, g1, g2⟩ | ⟨g1, g2⟩
      · have e := mt_uniq hk (sw_lt hi) h1 g1
        refine Or.inl ⟨k, hk, h2, ?_⟩
        rw [g2, e, sw_sw]
      · exact absurd (by rw [sw_sw]; exact h1) (g1 (sw k) (sw_lt hk))
    · rcases hr with ⟨i, hi, g1, g2⟩ | ⟨g1, g2⟩
      · exact absurd g1 (h1 (sw i) (sw_lt hi))
      · exact Or.inr (Or.inr (Or.inr ⟨h2, 101, by omega, by omega, g2, by decide⟩))
