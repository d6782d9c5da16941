/-! the words of a text: what both sides make of it, and how the class cuts it -/
theorem len42 : len 42 = 8 := by decide
theorem len43 : len 43 = 8 := by decide
theorem len44 : len 44 = 8 := by decide
theorem len45 : len 45 = 200 := by decide
theorem len47 : len 47 = 201 := by decide
theorem len48 : len 48 = 201 := by decide
theorem len83 : len 83 = 200 := by decide
theorem len84 : len 84 = 24 := by decide
theorem iter_find {S R : Type} {body : S → Option (S ⊕ R)} {hit : Nat → R} {miss : R} {P : Nat → Prop} (σ : Nat → S) (N : Nat) (hN : N < 4000) (h1 : ∀ i, i < N → P i → body (σ i) = some (.inr (hit i))) (h2 : ∀ i, i < N → ¬ P i → body (σ i) = some (.inl (σ (i + 1)))) (h3 : body (σ N) = some (.inr miss)) : (∃ k, k < N ∧ P k ∧ iter body FU (σ 0) = some (hit k)) ∨ ((∀ k, k < N → ¬ P k) ∧ iter body FU (σ 0) = some miss) := by
  by_cases c : ∃ k, k < N ∧ P k
  · obtain ⟨k, ⟨hk, hp⟩, hmin⟩ := pk_least (fun k => k < N ∧ P k) c
    exact Or.inl ⟨k, hk, hp, iter_seq σ k (fun i hi => h2 i (by omega) (fun q => hmin i hi ⟨by omega, q⟩)) (h1 k hk hp) (by omega)⟩
  · exact Or.inr ⟨fun k hk q => c ⟨k, hk, q⟩, iter_seq σ N (fun i hi => h2 i hi (fun q => c ⟨i, hi, q⟩)) h3 hN⟩
def so (c : Nat) : Nat := if 97 ≤ c ∧ c ≤ 122 then 1 else if 48 ≤ c ∧ c ≤ 57 then 2 else if c = 32 then 0 else 3
theorem so_le (c : Nat) : so c ≤ 3 := by unfold so; split <;> (try split) <;> (try split) <;> decide
theorem so_0 {c : Nat} : so c = 0 ↔ c = 32 := by unfold so; split <;> (try split) <;> (try split) <;> omega
theorem so_1 {c : Nat} : so c = 1 ↔ 97 ≤ c ∧ c ≤ 122 := by unfold so; split <;> (try split) <;> (try split) <;> omega
theorem so_2 {c : Nat} : so c = 2 ↔ 48 ≤ c ∧ c ≤ 57 := by unfold so; split <;> (try split) <;> (try split) <;> omega
def fw (f : Nat → Bool) : Nat → Nat → Nat
  | 0, p => p
  | d + 1, p => if f p = true then fw f d (p + 1) else p
theorem fw_spec (f : Nat → Bool) : ∀ d p, p ≤ fw f d p ∧ fw f d p ≤ p + d ∧ (∀ q, p ≤ q → q < fw f d p → f q = true) ∧ (fw f d p < p + d → f (fw f d p) = false) := by
  intro d
  induction d with
  | zero => intro p; exact ⟨Nat.le_refl _, Nat.le_refl _, fun q h1 h2 => absurd h2 (by show ¬ q < p; omega), fun h => absurd h (by show ¬ p < p + 0; omega)⟩
  | succ d ih =>
    intro p
    by_cases c : f p = true
    · have e : fw f (d + 1) p = fw f d (p + 1) := if_pos c
      obtain ⟨i1, i2, i3, i4⟩ := ih (p + 1)
      rw [e]
      refine ⟨by omega, by omega, fun q h1 h2 => ?_, fun h => i4 (by omega)⟩
      by_cases e2 : q = p
      · rw [e2]; exact c
      · exact i3 q (by omega) h2
    · have e : fw f (d + 1) p = p := if_neg c
      rw [e]
      exact ⟨Nat.le_refl _, by omega, fun q h1 h2 => absurd h2 (by omega), fun _ => Bool.eq_false_iff.mpr c⟩
def TXT (n : Nat) (t : Nat → Nat) : Prop := n ≤ 200 ∧ ∀ j, j < n → t j < 256
def CTp (n : Nat) (t : Nat → Nat) (m : M) : Prop := m 7 0 = nI n ∧ ∀ j, j < n → m 46 j = nI (t j)
def wNx (n : Nat) (t : Nat → Nat) (p : Nat) : Nat := fw (fun q => t q == 32) (n - p) p
def wEn (n : Nat) (t : Nat → Nat) (p : Nat) : Nat := if so (t p) = 3 then p + 1 else fw (fun q => so (t q) == so (t p)) (n - (p + 1)) (p + 1)
def wSt (n : Nat) (t : Nat → Nat) : Nat → Nat
  | 0 => wNx n t 0
  | i + 1 => wNx n t (wEn n t (wSt n t i))
theorem wNx_spec {n : Nat} {t : Nat → Nat} {p : Nat} (h : p ≤ n) : p ≤ wNx n t p ∧ wNx n t p ≤ n ∧ (∀ q, p ≤ q → q < wNx n t p → t q = 32) ∧ (wNx n t p < n → ¬ t (wNx n t p) = 32) := by
  obtain ⟨h1, h2, h3, h4⟩ := fw_spec (fun q => t q == 32) (n - p) p
  refine ⟨h1, ?_, fun q a b => by simpa using h3 q a b, fun a => ?_⟩
  · unfold wNx; omega
  · have := h4 (by unfold wNx at a; omega)
    exact fun q => by rw [show fw (fun q => t q == 32) (n - p) p = wNx n t p from rfl, q] at this; exact absurd this (by decide)
theorem wEn_spec {n : Nat} {t : Nat → Nat} {p : Nat} (h : p < n) : p < wEn n t p ∧ wEn n t p ≤ n ∧ (∀ q, p ≤ q → q < wEn n t p → so (t q) = so (t p)) ∧ (so (t p) ≠ 3 → wEn n t p < n → ¬ so (t (wEn n t p)) = so (t p)) ∧ (so (t p) = 3 → wEn n t p = p + 1) := by
  by_cases c : so (t p) = 3
  · have e : wEn n t p = p + 1 := if_pos c
    rw [e]
    exact ⟨by omega, by omega, fun q a b => by rw [show q = p by omega], fun a => absurd c a, fun _ => rfl⟩
  · have e : wEn n t p = fw (fun q => so (t q) == so (t p)) (n - (p + 1)) (p + 1) := if_neg c
    obtain ⟨h1, h2, h3, h4⟩ := fw_spec (fun q => so (t q) == so (t p)) (n - (p + 1)) (p + 1)
    rw [e]
    refine ⟨by omega, by omega, fun q a b => ?_, fun _ a => by simpa using h4 (by omega), fun a => absurd a c⟩
    by_cases e2 : q = p
    · rw [e2]
    · simpa using h3 q (by omega) b
def bg (t : Nat → Nat) (p : Nat) : Prop := so (t p) ≠ 0 ∧ (so (t p) = 3 ∨ p = 0 ∨ so (t (p - 1)) ≠ so (t p))
theorem wSt_in {n : Nat} {t : Nat → Nat} : ∀ i, wSt n t i ≤ n → (∀ j, j < i → wSt n t j < n) → True := fun _ _ _ => trivial
theorem wSt_le {n : Nat} {t : Nat → Nat} : ∀ i, (∀ j, j < i → wSt n t j < n) → wSt n t i ≤ n
  | 0, _ => (wNx_spec (Nat.zero_le n)).2.1
  | i + 1, h => (wNx_spec (wEn_spec (h i (by omega))).2.1).2.1
theorem rd46 {n : Nat} {t : Nat → Nat} {m : M} (hT : TXT n t) (hm : CTp n t m) {p : Nat} (h : p < n) : rdI m 46 (nI p) = some (nI (t p)) := by
  rw [rdI_at (by rw [len46]; have := hT.1; omega) (by rw [len46]; decide), hm.2 p h]
theorem t_sortOf_eq {c : Nat} (hc : c < 256) (m : M) : t_sortOf (nI c) m = some (nI (so c)) := by
  have h1 : ((97 : Int32) ≤ nI c ∧ nI c ≤ 122) ↔ (97 ≤ c ∧ c ≤ 122) := and_congr (nI_leI (a := 97) (by omega) (by omega)) (nI_leI (b := 122) (by omega) (by omega))
  have h2 : ((48 : Int32) ≤ nI c ∧ nI c ≤ 57) ↔ (48 ≤ c ∧ c ≤ 57) := and_congr (nI_leI (a := 48) (by omega) (by omega)) (nI_leI (b := 57) (by omega) (by omega))
  have h3 : nI c = 32 ↔ c = 32 := nI_eq (b := 32) (by omega) (by omega)
  unfold t_sortOf so
  by_cases c1 : 97 ≤ c ∧ c ≤ 122
  · rw [wi_t (h1.mpr c1), Option.bind_some, if_neg one_ne, if_pos c1]; rfl
  · rw [wi_f (fun q => c1 (h1.mp q)), Option.bind_some, if_pos rfl, if_neg c1]
    by_cases c2 : 48 ≤ c ∧ c ≤ 57
    · rw [wi_t (h2.mpr c2), Option.bind_some, if_neg one_ne, if_pos c2]; rfl
    · rw [wi_f (fun q => c2 (h2.mp q)), Option.bind_some, if_pos rfl, if_neg c2]
      by_cases c3 : c = 32
      · rw [if_pos (h3.mpr c3), if_pos c3]; rfl
      · rw [if_neg (fun q => c3 (h3.mp q)), if_neg c3]; rfl
theorem nso_eq {a b : Nat} : nI (so a) = nI (so b) ↔ so a = so b := nI_eq (by have := so_le a; omega) (by have := so_le b; omega)
theorem nso_k {a k : Nat} (hk : k < 100) : nI (so a) = nI k ↔ so a = k := nI_eq (by have := so_le a; omega) (by omega)
theorem nso_0 {a : Nat} : nI (so a) = (0 : Int32) ↔ so a = 0 := nso_k (k := 0) (by decide)
theorem nso_3 {a : Nat} : nI (so a) = (3 : Int32) ↔ so a = 3 := nso_k (k := 3) (by decide)
theorem n_eq0 {p : Nat} (h : p < 2 ^ 31) : nI p = (0 : Int32) ↔ p = 0 := nI_eq (b := 0) h (by decide)
theorem t_beginsAt_t {n : Nat} {t : Nat → Nat} {m : M} (hT : TXT n t) (hm : CTp n t m) {p : Nat} (h : p < n) (hb : bg t p) : t_beginsAt (nI p) m = some 1 := by
  unfold t_beginsAt
  rw [rd46 hT hm h, Option.bind_some, t_sortOf_eq (hT.2 p h), Option.bind_some, if_neg (fun q => hb.1 (nso_0.mp q))]
  by_cases c3 : so (t p) = 3
  · rw [if_pos (nso_3.mpr c3)]
  · rw [if_neg (fun q => c3 (nso_3.mp q))]
    by_cases c0 : p = 0
    · rw [if_pos ((n_eq0 (by have := hT.1; omega)).mpr c0)]
    · have hn := hT.1
      rw [if_neg (fun q => c0 ((n_eq0 (by omega)).mp q)), n1, pk_sub (by omega), rd46 hT hm (by omega), Option.bind_some, t_sortOf_eq (hT.2 _ (by omega)), Option.bind_some, if_neg (fun q => ?_)]
      exact (hb.2.resolve_left c3).resolve_left c0 (nso_eq.mp q)
theorem t_beginsAt_f {n : Nat} {t : Nat → Nat} {m : M} (hT : TXT n t) (hm : CTp n t m) {p : Nat} (h : p < n) (hb : ¬ bg t p) : t_beginsAt (nI p) m = some 0 := by
  unfold t_beginsAt
  rw [rd46 hT hm h, Option.bind_some, t_sortOf_eq (hT.2 p h), Option.bind_some]
  by_cases cz : so (t p) = 0
  · rw [if_pos (nso_0.mpr cz)]
  · rw [if_neg (fun q => cz (nso_0.mp q)), if_neg (fun q => hb ⟨cz, Or.inl (nso_3.mp q)⟩)]
    have c0 : ¬ p = 0 := fun q => hb ⟨cz, Or.inr (Or.inl q)⟩
    have hn := hT.1
    rw [if_neg (fun q => c0 ((n_eq0 (by omega)).mp q)), n1, pk_sub (by omega), rd46 hT hm (by omega), Option.bind_some, t_sortOf_eq (hT.2 _ (by omega)), Option.bind_some]
    by_cases c4 : so (t (p - 1)) = so (t p)
    · rw [if_pos (nso_eq.mpr c4)]
    · exact absurd ⟨cz, Or.inr (Or.inr c4)⟩ hb
/-- signs -/
def sgn (j : Nat) : Nat := [60, 61, 62, 40, 41, 59].getD j 0
theorem sgn_K : ∀ j, j < 6 → txtSigns.getD j 0 = nI (sgn j) ∧ sgn j < 256 := by decide +kernel
theorem b8_dec : ∀ c, c < 256 → Int8.toInt32 (Int32.toInt8 (nI c)) = nI c ∨ 128 ≤ c := by decide +kernel
theorem b8_hi : ∀ c, c < 256 → 128 ≤ c → Int8.toInt32 (Int32.toInt8 (nI c)) < 0 := by decide +kernel
theorem ch_dec : ∀ c, c < 256 → UInt32.toInt32 (Int32.toUInt32 (nI c) % 65536) = nI c := by decide +kernel
theorem sgn_lo : ∀ j, j < 6 → sgn j < 128 := by decide
theorem b8_sgn {c j : Nat} (hc : c < 256) (hj : j < 6) : nI (sgn j) = Int8.toInt32 (Int32.toInt8 (nI c)) ↔ c = sgn j := by
  have hs := sgn_lo j hj
  rcases b8_dec c hc with e | e
  · rw [e, nI_eq (by omega) (by omega)]
    exact ⟨Eq.symm, Eq.symm⟩
  · constructor
    · intro q
      have := b8_hi c hc e
      rw [← q] at this
      exact absurd this (nI_pos (by omega))
    · intro q; omega
theorem s_idx {c : Nat} (hc : c < 256) (m : M) : (∃ k, k < 6 ∧ c = sgn k ∧ s_indexOf (nI c) m = some (nI k)) ∨ ((∀ k, k < 6 → ¬ c = sgn k) ∧ s_indexOf (nI c) m = some (-1)) := by
  have hrun : ∀ w, Int8.toInt32 (Int32.toInt8 (nI c)) = w → s_indexOf (nI c) m = Option.bind (iter (fun z => l_indexOfChar_7b 6 w z m) FU (nI 0)) (fun r => (match r with
  | .inl r => some (-1 : Int32)
  | .inr r => some r)) := fun w hw => by
    unfold s_indexOf s_indexOf_211 s_isLatin1_211 s_length_211 s_coder_211
    rw [if_neg one_ne, if_pos rfl, Option.bind_some, if_neg one_ne, if_neg one_ne, Option.bind_some, Option.bind_some]
    unfold l_indexOf l_canEncode
    rw [if_neg (nI_pos (by omega)), if_neg (show ¬ (255 : Int32) < nI c from nI_nlt (b := c) (a := 255) (by omega) (by omega)), Option.bind_some, if_neg one_ne, ltE, ltE]
    rw [if_pos (show mxI 0 0 < mnI ((6 : Int32) >>> (0 &&& 31)) 6 by decide)]
    unfold l_indexOfChar l_indexOfChar_7
    rw [ltE, hw, show mxI 0 0 = nI 0 by decide, show mnI ((6 : Int32) >>> (0 &&& 31)) 6 = 6 by decide]
    cases iter (fun z => l_indexOfChar_7b 6 w z m) FU (nI 0) with
    | none => rfl
    | some r => cases r <;> rfl
  rw [hrun _ rfl]
  rcases iter_find (body := fun z => l_indexOfChar_7b 6 (Int8.toInt32 (Int32.toInt8 (nI c))) z m) (hit := fun k => .inr (nI k)) (miss := .inl ()) (P := fun k => c = sgn k) nI 6 (by decide) (fun i hi hp => by
      show l_indexOfChar_7b _ _ (nI i) m = _
      unfold l_indexOfChar_7b
      rw [if_neg (show ¬ (6 : Int32) ≤ nI i from nI_ge (b := 6) hi (by decide))]
      unfold rdK
      rw [if_neg (show ¬ (nI i < 0 ∨ txtSigns.length ≤ (nI i).toNatClampNeg) from nI_in (N := 6) hi (by decide)), Option.bind_some, nI_clamp (by omega), (sgn_K i hi).1, if_pos ((b8_sgn hc hi).mpr hp)]) (fun i hi hp => by
      show l_indexOfChar_7b _ _ (nI i) m = _
      unfold l_indexOfChar_7b
      rw [if_neg (show ¬ (6 : Int32) ≤ nI i from nI_ge (b := 6) hi (by decide))]
      unfold rdK
      rw [if_neg (show ¬ (nI i < 0 ∨ txtSigns.length ≤ (nI i).toNatClampNeg) from nI_in (N := 6) hi (by decide)), Option.bind_some, nI_clamp (by omega), (sgn_K i hi).1, if_neg (fun q => hp ((b8_sgn hc hi).mp q)), ltE, nI_1]) (by
      show l_indexOfChar_7b _ _ (nI 6) m = _
      unfold l_indexOfChar_7b
      exact if_pos (by decide)) with ⟨k, hk, hp, e⟩ | ⟨hn, e⟩
  · rw [e]; exact Or.inl ⟨k, hk, hp, rfl⟩
  · rw [e]; exact Or.inr ⟨hn, rfl⟩
