/-! the reference's words -/
def RTp (n : Nat) (t : Nat → Nat) (m : M) : Prop := m 76 6 = nI n ∧ (∀ j, j < n → m 81 j = nI (t j)) ∧ m 82 = cmr171 82
def Fl (l : List Nat) (m m' : M) : Prop := ∀ p k, ¬ (p = 76 ∧ k ∈ l) → m' p k = m p k
theorem Fl.rfl {l : List Nat} {m : M} : Fl l m m := fun _ _ _ => Eq.refl _
theorem Fl.trans {l : List Nat} {m m1 m2 : M} (h : Fl l m m1) (h2 : Fl l m1 m2) : Fl l m m2 := fun p k q => (h2 p k q).trans (h p k q)
theorem Fl.mono {l l2 : List Nat} {m m1 : M} (h : Fl l m m1) (hs : ∀ k, k ∈ l → k ∈ l2) : Fl l2 m m1 := fun p k q => h p k (fun x => q ⟨x.1, hs k x.2⟩)
theorem Fl_w {l : List Nat} {m : M} {k : Nat} {v : Int32} (h : k ∈ l) : Fl l m (wrF m 76 k v) := fun p j q => by
  by_cases e : p = 76
  · subst e
    rw [wrF_off (fun x => q ⟨Eq.refl _, by rw [x]; exact h⟩)]
  · rw [wrF_ne e]
theorem Fl.k {l : List Nat} {m m1 : M} (h : Fl l m m1) {k : Nat} (hk : k ∉ l) : m1 76 k = m 76 k := h 76 k (fun q => hk q.2)
theorem Fl.p {l : List Nat} {m m1 : M} (h : Fl l m m1) {p : Nat} (hp : p ≠ 76) : m1 p = m p := funext fun k => h p k (fun q => hp q.1)
theorem RTp.fk {n : Nat} {t : Nat → Nat} {l : List Nat} {m m1 : M} (h : RTp n t m) (hf : Fl l m m1) (hl : 6 ∉ l) : RTp n t m1 := ⟨(hf.k hl).trans h.1, fun j hj => by rw [hf.p (by decide)]; exact h.2.1 j hj, by rw [hf.p (by decide)]; exact h.2.2⟩
theorem r_byteAt_in {n : Nat} {t : Nat → Nat} {m : M} (hT : TXT n t) (hm : RTp n t m) {p : Nat} (hp : p < n) : r_byteAt (nI p) m = some (nI (t p)) := by
  have hn := hT.1
  unfold r_byteAt
  rw [hm.1, if_neg (nI_ge hp (by omega)), rdI_at (by rw [len81]; omega) (by rw [len81]; decide), hm.2.1 p hp]
  rfl
theorem r_byteAt_out {n : Nat} {t : Nat → Nat} {m : M} (hT : TXT n t) (hm : RTp n t m) {p : Nat} (hp : n ≤ p) (hp2 : p < 1000) : r_byteAt (nI p) m = some (-1) := by
  have hn := hT.1
  unfold r_byteAt
  rw [hm.1, if_pos (nI_le hp (by omega))]
theorem in_so1 {c : Nat} (hc : c < 256) (m : M) : r_in1 (nI c) 97 122 m = some (if so c = 1 then 1 else 0) := by
  have h1 : ((97 : Int32) ≤ nI c ∧ nI c ≤ 122) ↔ (97 ≤ c ∧ c ≤ 122) := and_congr (nI_leI (a := 97) (by omega) (by omega)) (nI_leI (b := 122) (by omega) (by omega))
  by_cases c1 : so c = 1
  · rw [if_pos c1, in1_t (h1.mpr (so_1.mp c1))]
  · rw [if_neg c1, in1_f (fun q => c1 (so_1.mpr (h1.mp q)))]
theorem in_so2 {c : Nat} (hc : c < 256) (m : M) : r_in1 (nI c) 48 57 m = some (if so c = 2 then 1 else 0) := by
  have h1 : ((48 : Int32) ≤ nI c ∧ nI c ≤ 57) ↔ (48 ≤ c ∧ c ≤ 57) := and_congr (nI_leI (a := 48) (by omega) (by omega)) (nI_leI (b := 57) (by omega) (by omega))
  by_cases c1 : so c = 2
  · rw [if_pos c1, in1_t (h1.mpr (so_2.mp c1))]
  · rw [if_neg c1, in1_f (fun q => c1 (so_2.mpr (h1.mp q)))]
theorem skip_loop {n : Nat} {t : Nat → Nat} (hT : TXT n t) : ∀ (d p F : Nat) (m : M), p + d = n → d < F → RTp n t m → m 76 8 = nI p → ∃ m', iter (fun z => r_next_0b z) F m = some m' ∧ m' 76 8 = nI (fw (fun q => t q == 32) d p) ∧ Fl [8] m m' := by
  have hn := hT.1
  intro d
  induction d with
  | zero =>
    intro p F m h1 h2 hm h8
    obtain ⟨F', rfl⟩ : ∃ F', F = F' + 1 := ⟨F - 1, by omega⟩
    refine ⟨m, ?_, h8, Fl.rfl⟩
    show Option.bind (r_next_0b m) _ = _
    unfold r_next_0b
    rw [h8, r_byteAt_out hT hm (by omega) (by omega), Option.bind_some, if_neg (by decide)]
    rfl
  | succ d ih =>
    intro p F m h1 h2 hm h8
    obtain ⟨F', rfl⟩ : ∃ F', F = F' + 1 := ⟨F - 1, by omega⟩
    have hb : r_next_0b m = (if nI (t p) = 32 then some (.inl (wrF m 76 8 (nI (p + 1)))) else some (.inr m)) := by
      unfold r_next_0b
      rw [h8, r_byteAt_in hT hm (by omega), Option.bind_some, ltE, nI_1]
    have h32 : nI (t p) = 32 ↔ t p = 32 := nI_eq (b := 32) (by have := hT.2 p (by omega); omega) (by decide)
    by_cases c : t p = 32
    · rw [if_pos (h32.mpr c)] at hb
      have hk : Fl [8] m (wrF m 76 8 (nI (p + 1))) := Fl_w (by simp)
      obtain ⟨m', f1, f2, f3⟩ := ih (p + 1) F' _ (by omega) (by omega) (hm.fk hk (by decide)) wrF_at
      refine ⟨m', ?_, ?_, hk.trans f3⟩
      · show Option.bind (r_next_0b m) _ = _
        rw [hb]
        exact f1
      · rw [f2, show fw (fun q => t q == 32) (d + 1) p = fw (fun q => t q == 32) d (p + 1) from if_pos (by simpa using c)]
    · rw [if_neg (fun x => c (h32.mp x))] at hb
      refine ⟨m, ?_, ?_, Fl.rfl⟩
      · show Option.bind (r_next_0b m) _ = _
        rw [hb]
        rfl
      · rw [h8, show fw (fun q => t q == 32) (d + 1) p = p from if_neg (by simpa using c)]
theorem name_loop {n : Nat} {t : Nat → Nat} (hT : TXT n t) : ∀ (d p F : Nat) (m : M), p + d = n → d < F → RTp n t m → m 76 8 = nI p → ∃ m', iter (fun z => r_readsName_0b z) F m = some m' ∧ m' 76 8 = nI (fw (fun q => so (t q) == 1) d p) ∧ Fl [8] m m' := by
  have hn := hT.1
  intro d
  induction d with
  | zero =>
    intro p F m h1 h2 hm h8
    obtain ⟨F', rfl⟩ : ∃ F', F = F' + 1 := ⟨F - 1, by omega⟩
    refine ⟨m, ?_, h8, Fl.rfl⟩
    show Option.bind (r_readsName_0b m) _ = _
    unfold r_readsName_0b
    rw [h8, r_byteAt_out hT hm (by omega) (by omega), Option.bind_some, in1_f (by decide), Option.bind_some, if_pos rfl]
    rfl
  | succ d ih =>
    intro p F m h1 h2 hm h8
    obtain ⟨F', rfl⟩ : ∃ F', F = F' + 1 := ⟨F - 1, by omega⟩
    by_cases c : so (t p) = 1
    · have hb : r_readsName_0b m = some (.inl (wrF m 76 8 (nI (p + 1)))) := by
        unfold r_readsName_0b
        rw [h8, r_byteAt_in hT hm (by omega), Option.bind_some, in_so1 (hT.2 p (by omega)), if_pos c, Option.bind_some, if_neg one_ne, ltE, nI_1]
      have hk : Fl [8] m (wrF m 76 8 (nI (p + 1))) := Fl_w (by simp)
      obtain ⟨m', f1, f2, f3⟩ := ih (p + 1) F' _ (by omega) (by omega) (hm.fk hk (by decide)) wrF_at
      refine ⟨m', ?_, ?_, hk.trans f3⟩
      · show Option.bind (r_readsName_0b m) _ = _
        rw [hb]
        exact f1
      · rw [f2, show fw (fun q => so (t q) == 1) (d + 1) p = fw (fun q => so (t q) == 1) d (p + 1) from if_pos (by simpa using c)]
    · have hb : r_readsName_0b m = some (.inr m) := by
        unfold r_readsName_0b
        rw [h8, r_byteAt_in hT hm (by omega), Option.bind_some, in_so1 (hT.2 p (by omega)), if_neg c, Option.bind_some, if_pos rfl]
      refine ⟨m, ?_, ?_, Fl.rfl⟩
      · show Option.bind (r_readsName_0b m) _ = _
        rw [hb]
        rfl
      · rw [h8, show fw (fun q => so (t q) == 1) (d + 1) p = p from if_neg (by simpa using c)]
theorem num_loop {n : Nat} {t : Nat → Nat} {p : Nat} (hT : TXT n t) : ∀ (d q F : Nat) (m : M), q + d = n → p ≤ q → d < F → RTp n t m → m 76 8 = nI q → m 76 9 = nI p → m 76 11 = nI (dv t p (min (q - p) 4)) → (∀ j, j < q - p → 48 ≤ t (p + j) ∧ t (p + j) ≤ 57) → ∃ m', iter (fun z => r_readsNumber_5b z) F m = some m' ∧ m' 76 8 = nI (fw (fun q => so (t q) == 2) d q) ∧ m' 76 11 = nI (dv t p (min (fw (fun q => so (t q) == 2) d q - p) 4)) ∧ Fl [8, 11] m m' := by
  have hn := hT.1
  intro d
  induction d with
  | zero =>
    intro q F m h1 hpq h2 hm h8 h9 h11 hdg
    obtain ⟨F', rfl⟩ : ∃ F', F = F' + 1 := ⟨F - 1, by omega⟩
    refine ⟨m, ?_, h8, h11, Fl.rfl⟩
    show Option.bind (r_readsNumber_5b m) _ = _
    unfold r_readsNumber_5b
    rw [h8, r_byteAt_out hT hm (by omega) (by omega), Option.bind_some, in1_f (by decide), Option.bind_some, if_pos rfl]
    rfl
  | succ d ih =>
    intro q F m h1 hpq h2 hm h8 h9 h11 hdg
    obtain ⟨F', rfl⟩ : ∃ F', F = F' + 1 := ⟨F - 1, by omega⟩
    by_cases c : so (t q) = 2
    · have hc := so_2.mp c
      obtain ⟨m1, hb, a8, a11, hk⟩ : ∃ m1, r_readsNumber_5b m = some (.inl m1) ∧ m1 76 8 = nI (q + 1) ∧ m1 76 11 = nI (dv t p (min (q + 1 - p) 4)) ∧ Fl [8, 11] m m1 := by
        have hx : ∀ v, r_readsNumber_63 v m = some (.inl (wrF (wrF m 76 11 v) 76 8 (nI (q + 1)))) := fun v => by
          unfold r_readsNumber_63
          rw [ltE, ltE, wrF_off (by decide), h8, nI_1]
        have hy : ∀ v, v = nI (dv t p (min (q + 1 - p) 4)) → (wrF (wrF m 76 11 v) 76 8 (nI (q + 1))) 76 8 = nI (q + 1) ∧ (wrF (wrF m 76 11 v) 76 8 (nI (q + 1))) 76 11 = nI (dv t p (min (q + 1 - p) 4)) ∧ Fl [8, 11] m (wrF (wrF m 76 11 v) 76 8 (nI (q + 1))) := fun v hv => ⟨wrF_at, by rw [wrF_off (by decide), wrF_at, hv], (Fl_w (by simp)).trans (Fl_w (by simp))⟩
        unfold r_readsNumber_5b
        rw [h8, r_byteAt_in hT hm (by omega), Option.bind_some, in_so2 (hT.2 q (by omega)), if_pos c, Option.bind_some, if_neg one_ne, h9, pk_sub hpq]
        by_cases c4 : 4 ≤ q - p
        · rw [if_pos (show (4 : Int32) ≤ nI (q - p) from (nI_leI (a := 4) (by decide) (by omega)).mpr c4), hx]
          refine ⟨_, rfl, hy _ ?_⟩
          rw [h11, Nat.min_eq_right c4, Nat.min_eq_right (by omega)]
        · rw [if_neg (show ¬ (4 : Int32) ≤ nI (q - p) from fun x => c4 ((nI_leI (a := 4) (by decide) (by omega)).mp x)), Option.bind_some, hx]
          refine ⟨_, rfl, hy _ ?_⟩
          rw [h11, Nat.min_eq_left (by omega), Nat.min_eq_left (by omega), show (10 : Int32) = nI 10 from rfl, pk_mul, nI_add, show (48 : Int32) = nI 48 from rfl, pk_sub (by omega), show q + 1 - p = (q - p) + 1 by omega]
          show _ = nI (10 * dv t p (q - p) + t (p + (q - p)) - 48)
          rw [show p + (q - p) = q by omega]
      obtain ⟨m', f1, f2, f3, f4⟩ := ih (q + 1) F' m1 (by omega) (by omega) (by omega) (hm.fk hk (by decide)) a8 ((hk.k (by decide)).trans h9) a11 (fun j hj => by
        by_cases e : j < q - p
        · exact hdg j e
        · rw [show p + j = q by omega]; exact hc)
      have hfw : fw (fun q => so (t q) == 2) (d + 1) q = fw (fun q => so (t q) == 2) d (q + 1) := if_pos (by simpa using c)
      refine ⟨m', ?_, by rw [f2, hfw], by rw [f3, hfw], hk.trans f4⟩
      show Option.bind (r_readsNumber_5b m) _ = _
      rw [hb]
      exact f1
    · have hb : r_readsNumber_5b m = some (.inr m) := by
        unfold r_readsNumber_5b
        rw [h8, r_byteAt_in hT hm (by omega), Option.bind_some, in_so2 (hT.2 q (by omega)), if_neg c, Option.bind_some, if_pos rfl]
      have hfw : fw (fun q => so (t q) == 2) (d + 1) q = q := if_neg (by simpa using c)
      refine ⟨m, ?_, by rw [h8, hfw], by rw [h11, hfw], Fl.rfl⟩
      show Option.bind (r_readsNumber_5b m) _ = _
      rw [hb]
      rfl
def sw (k : Nat) : Nat := if k = 10 then 12 else if k = 12 then 10 else k
theorem sw_sw (k : Nat) : sw (sw k) = k := by unfold sw; split <;> (try split) <;> (try split) <;> (try split) <;> omega
theorem sw_lt {k : Nat} (h : k < 18) : sw k < 18 := by unfold sw; split <;> (try split) <;> omega
theorem let82 : ∀ k, k < 18 → ∀ j, j < 8 → cmr171 82 (8 * k + j) = (if j < nln (sw k) then nI (nch (sw k) j) else 32) := by decide +kernel
theorem lenC82 : lenC 82 = 144 := by decide
def mtc (t : Nat → Nat) (p L k j : Nat) : Prop := cmr171 82 (8 * k + j) = if L ≤ j then 32 else nI (t (p + j))
theorem mt_iff {n : Nat} {t : Nat → Nat} {p L k : Nat} (hT : TXT n t) (hk : k < 18) (hp : p + L ≤ n) (hlet : ∀ j, j < L → 97 ≤ t (p + j) ∧ t (p + j) ≤ 122) : mt t p L (sw k) ↔ (L ≤ 8 ∧ ∀ j, j < 8 → mtc t p L k j) := by
  have hl := nln_le _ (sw_lt hk)
  constructor
  · intro h
    have h1 := h.1
    refine ⟨by omega, fun j hj => ?_⟩
    unfold mtc
    rw [let82 k hk j hj]
    by_cases c : j < nln (sw k)
    · rw [if_pos c, if_neg (by omega), h.2 j (by omega)]
    · rw [if_neg c, if_pos (by omega)]
  · intro h
    have e : nln (sw k) = L := by
      rcases Nat.lt_trichotomy (nln (sw k)) L with c | c | c
      · have g := h.2 (nln (sw k)) (by omega)
        unfold mtc at g
        rw [let82 k hk _ (by omega), if_neg (by omega), if_neg (by omega)] at g
        have := (nI_eq (a := 32) (b := t (p + nln (sw k))) (by decide) (by have := hlet _ c; omega)).mp g
        have := hlet _ c
        omega
      · exact c
      · have g := h.2 L (by omega)
        unfold mtc at g
        obtain ⟨a1, a2, a3, a4⟩ := nln_in _ (sw_lt hk) L c
        rw [let82 k hk _ (by omega), if_pos c, if_pos (Nat.le_refl _)] at g
        have := (nI_eq (b := 32) (by omega) (by decide)).mp g
        omega
    refine ⟨e, fun j hj => ?_⟩
    have g := h.2 j (by omega)
    unfold mtc at g
    obtain ⟨a1, a2, a3, a4⟩ := nln_in _ (sw_lt hk) j (by omega)
    rw [let82 k hk _ (by omega), if_pos (by omega), if_neg (by omega)] at g
    exact (nI_eq (by omega) (by have := hlet _ hj; omega)).mp g
theorem isN_loop {n : Nat} {t : Nat → Nat} {m : M} {p L k : Nat} (hT : TXT n t) (hm : RTp n t m) (hk : k < 18) (hp : p + L ≤ n) (h8 : m 76 8 = nI (p + L)) (h9 : m 76 9 = nI p) : ∀ (d j F : Nat), j + d = 8 → d + 1 < F → ((∀ i, j ≤ i → i < 8 → mtc t p L k i) ∧ iter (fun z => r_isNameOf_22b (nI k) z.1 z.2 m) F (1, nI j) = some 1) ∨ ((∃ i, i < 8 ∧ ¬ mtc t p L k i) ∧ iter (fun z => r_isNameOf_22b (nI k) z.1 z.2 m) F (1, nI j) = some 0) := by
  have hn := hT.1
  intro d
  induction d with
  | zero =>
    intro j F h1 h2
    obtain ⟨F', rfl⟩ : ∃ F', F = F' + 1 := ⟨F - 1, by omega⟩
    refine Or.inl ⟨fun i _ _ => by omega, ?_⟩
    show Option.bind (r_isNameOf_22b (nI k) 1 (nI j) m) _ = _
    unfold r_isNameOf_22b
    rw [if_pos (show (8 : Int32) ≤ nI j from (nI_leI (a := 8) (by decide) (by omega)).mpr (by omega))]
    rfl
  | succ d ih =>
    intro j F h1 h2
    obtain ⟨F', rfl⟩ : ∃ F', F = F' + 1 := ⟨F - 1, by omega⟩
    have hx : ∀ v w, r_isNameOf_71 (nI k) (nI j) v w m = some (.inl (if v = w then 1 else 0, nI (j + 1))) := fun v w => by
      unfold r_isNameOf_71 r_isNameOf_79
      rw [ltE, ltE, nI_1]
      by_cases c : v = w
      · rw [if_pos c, if_pos c]
      · rw [if_neg c, if_neg c]
    have hb : r_isNameOf_22b (nI k) 1 (nI j) m = some (.inl (if cmr171 82 (8 * k + j) = (if L ≤ j then 32 else nI (t (p + j))) then 1 else 0, nI (j + 1))) := by
      unfold r_isNameOf_22b
      rw [if_neg (show ¬ (8 : Int32) ≤ nI j from nI_ge (b := 8) (by omega) (by decide)), if_neg one_ne, show (8 : Int32) = nI 8 from rfl, pk_mul, nI_add]
      unfold rdC
      rw [if_neg (by rw [lenC82]; exact nI_in (N := 144) (by omega) (by decide)), Option.bind_some, nI_clamp (by omega), hm.2.2, h8, h9, nI_add]
      by_cases c : L ≤ j
      · rw [if_pos (nI_le (by omega) (by omega)), if_pos c, hx]
      · rw [if_neg (nI_ge (by omega) (by omega)), if_neg c, r_byteAt_in hT hm (by omega), Option.bind_some, hx]
    by_cases c : mtc t p L k j
    · unfold mtc at c
      rw [if_pos c] at hb
      have hi : iter (fun z => r_isNameOf_22b (nI k) z.1 z.2 m) (F' + 1) (1, nI j) = iter (fun z => r_isNameOf_22b (nI k) z.1 z.2 m) F' (1, nI (j + 1)) := by
        show Option.bind (r_isNameOf_22b (nI k) 1 (nI j) m) _ = _
        rw [hb]
        rfl
      rw [hi]
      rcases ih (j + 1) F' (by omega) (by omega) with ⟨f1, f2⟩ | f
      · refine Or.inl ⟨fun i x1 x2 => ?_, f2⟩
        by_cases e : i = j
        · rw [e]; exact c
        · exact f1 i (by omega) x2
      · exact Or.inr f
    · have c' := c
      unfold mtc at c'
      rw [if_neg c'] at hb
      refine Or.inr ⟨⟨j, by omega, c⟩, ?_⟩
      obtain ⟨F'', rfl⟩ : ∃ F'', F' = F'' + 1 := ⟨F' - 1, by omega⟩
      show Option.bind (r_isNameOf_22b (nI k) 1 (nI j) m) _ = _
      rw [hb]
      show Option.bind (r_isNameOf_22b (nI k) 0 (nI (j + 1)) m) _ = _
      have hz : r_isNameOf_22b (nI k) 0 (nI (j + 1)) m = some (.inr 0) := by
        unfold r_isNameOf_22b
        by_cases c8 : (8 : Int32) ≤ nI (j + 1)
        · rw [if_pos c8]
        · rw [if_neg c8, if_pos rfl]
      rw [hz]
      rfl
theorem r_isNameOf_eq {n : Nat} {t : Nat → Nat} {m : M} {p L k : Nat} (hT : TXT n t) (hm : RTp n t m) (hk : k < 18) (hp : p + L ≤ n) (h8 : m 76 8 = nI (p + L)) (h9 : m 76 9 = nI p) (hlet : ∀ j, j < L → 97 ≤ t (p + j) ∧ t (p + j) ≤ 122) : (mt t p L (sw k) ∧ r_isNameOf (nI k) m = some 1) ∨ (¬ mt t p L (sw k) ∧ r_isNameOf (nI k) m = some 0) := by
  have hn := hT.1
  have hL : nI (p + L) - nI p = nI L := by rw [pk_sub (by omega)]; congr 1; omega
  unfold r_isNameOf
  rw [h8, h9, hL]
  by_cases c : 8 < L
  · rw [if_pos (show (8 : Int32) < nI L from (nI_ltI (a := 8) (by decide) (by omega)).mpr c)]
    refine Or.inr ⟨fun q => by have := ((mt_iff hT hk hp hlet).mp q).1; omega, ?_⟩
    unfold r_isNameOf_19 r_isNameOf_22
    rw [show iter (fun z => r_isNameOf_22b (nI k) z.1 z.2 m) FU (0, 0) = some 0 from rfl]
    rfl
  · rw [if_neg (show ¬ (8 : Int32) < nI L from fun q => c ((nI_ltI (a := 8) (by decide) (by omega)).mp q))]
    unfold r_isNameOf_19 r_isNameOf_22
    rcases isN_loop hT hm hk hp h8 h9 8 0 FU (by decide) (by unfold FU; decide) with ⟨f1, f2⟩ | ⟨⟨i, hi, f1⟩, f2⟩
    · refine Or.inl ⟨(mt_iff hT hk hp hlet).mpr ⟨by omega, fun j hj => f1 j (Nat.zero_le _) hj⟩, ?_⟩
      rw [show iter (fun z => r_isNameOf_22b (nI k) z.1 z.2 m) FU (1, 0) = _ from f2]
      exact congrArg some (by decide)
    · refine Or.inr ⟨fun q => f1 (((mt_iff hT hk hp hlet).mp q).2 i hi), ?_⟩
      rw [show iter (fun z => r_isNameOf_22b (nI k) z.1 z.2 m) FU (1, 0) = _ from f2]
      exact congrArg some (by decide)
