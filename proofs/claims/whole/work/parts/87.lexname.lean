/-! the class's names and numbers -/
def nst (k : Nat) : Nat := [0, 7, 15, 21, 27, 34, 38, 42, 47, 52, 55, 58, 62, 66, 72, 78, 84, 90].getD k 97
def nln (k : Nat) : Nat := [6, 7, 5, 5, 6, 3, 3, 4, 4, 2, 2, 3, 3, 5, 5, 5, 5, 6].getD k 0
/-- the letter of a name -/
def nch (k j : Nat) : Nat := (txtNames.getD (nst k + j) 0).toNatClampNeg
/-- the word that lies at p is a name -/
def mt (t : Nat → Nat) (p L k : Nat) : Prop := nln k = L ∧ ∀ j, j < L → nch k j = t (p + j)
def wks : Nat → Nat × Nat
  | 0 => (0, 0)
  | q + 1 => if q = 96 ∨ txtNames.getD q 0 = 32 then ((wks q).1 + 1, q + 1) else wks q
theorem wks_end : ∀ q, q < 97 → (q = 96 ∨ txtNames.getD q 0 = 32) → (wks q).1 < 18 ∧ (wks q).2 = nst (wks q).1 ∧ q = nst (wks q).1 + nln (wks q).1 := by decide +kernel
theorem wks_of : ∀ k, k < 18 → (nst k + nln k = 96 ∨ txtNames.getD (nst k + nln k) 0 = 32) ∧ nst k + nln k < 97 ∧ wks (nst k + nln k) = (k, nst k) := by decide +kernel
theorem wks_le : ∀ q, q < 98 → (wks q).2 ≤ q ∧ (wks q).1 ≤ 18 := by decide +kernel
theorem nln_in : ∀ k, k < 18 → ∀ j, j < nln k → nst k + j < 96 ∧ txtNames.getD (nst k + j) 0 = nI (nch k j) ∧ 97 ≤ nch k j ∧ nch k j ≤ 122 := by decide +kernel
theorem nln_le : ∀ k, k < 18 → 1 ≤ nln k ∧ nln k ≤ 7 := by decide
theorem mt_one : ∀ k, k < 18 → ∀ i, i < 18 → k ≠ i → nln k = nln i → ∃ j, j < nln k ∧ nch k j ≠ nch i j := by decide +kernel
theorem mt_uniq {t : Nat → Nat} {p L k i : Nat} (hk : k < 18) (hi : i < 18) (h1 : mt t p L k) (h2 : mt t p L i) : k = i := by
  by_cases e : k = i
  · exact e
  · obtain ⟨j, hj, hne⟩ := mt_one k hk i hi e (h1.1.trans h2.1.symm)
    exact absurd ((h1.2 j (by have := h1.1; omega)).trans (h2.2 j (by have := h1.1; omega)).symm) hne
def chX (v : Int32) : Int32 := UInt32.toInt32 (UInt16.toUInt32 (UInt32.toUInt16 (Int32.toUInt32 (UInt32.toInt32 (UInt16.toUInt32 (UInt32.toUInt16 (Int32.toUInt32 (UInt32.toInt32 (Int32.toUInt32 (v &&& (255 : Int32)) % 65536)))))))))
theorem chX_dec : ∀ j, j < 96 → chX (txtNames.getD j 0) = txtNames.getD j 0 := by decide +kernel
theorem s_charAt_eq {j : Nat} (h : j < 96) (m : M) : s_charAt (nI j) m = some (txtNames.getD j 0) := by
  unfold s_charAt s_isLatin1
  rw [if_neg one_ne, if_pos rfl, Option.bind_some, if_neg one_ne]
  unfold l_charAt s_checkIndex q_checkIndex
  rw [if_neg (nI_pos (by omega)), if_pos (show nI j < (96 : Int32) from nI_lt (b := 96) h (by decide)), Option.bind_some, Option.bind_some]
  unfold rdK
  rw [if_neg (show ¬ (nI j < 0 ∨ txtNames.length ≤ (nI j).toNatClampNeg) from nI_in (N := 96) h (by decide)), Option.bind_some, Option.bind_some, nI_clamp (by omega)]
  exact congrArg some (chX_dec j h)
theorem s_length_eq (m : M) : s_length m = some 96 := by
  unfold s_length s_coder
  rw [if_neg one_ne, Option.bind_some]
  exact congrArg some (by decide)
theorem t_isName_eq {n : Nat} {t : Nat → Nat} {m : M} (hT : TXT n t) (hm : CTp n t m) {k p : Nat} (hk : k < 18) (hp : p + nln k ≤ n) : ((∀ j, j < nln k → nch k j = t (p + j)) ∧ t_isName (nI (nst k)) (nI (nst k + nln k)) (nI p) m = some 1) ∨ (¬ (∀ j, j < nln k → nch k j = t (p + j)) ∧ t_isName (nI (nst k)) (nI (nst k + nln k)) (nI p) m = some 0) := by
  have hn := hT.1
  have hkl := nln_le k hk
  have hst : nst k + nln k < 97 := (wks_of k hk).2.1
  have hb : ∀ i, i < nln k → t_isName_3b (nI (nst k)) (nI (nst k + nln k)) (nI p) (nI (nst k + i)) m = (if nI (nch k i) = nI (t (p + i)) then some (.inl (nI (nst k + (i + 1)))) else some (.inr (.inr ()))) := fun i hi => by
    obtain ⟨a1, a2, a3, a4⟩ := nln_in k hk i hi
    unfold t_isName_3b
    rw [if_neg (nI_ge (by omega) (by omega)), s_charAt_eq a1, Option.bind_some, a2, nI_add, pk_sub (by omega), show p + (nst k + i) - nst k = p + i by omega, rd46 hT hm (by omega), Option.bind_some, ltE, nI_1]
    rfl
  unfold t_isName t_isName_3
  rcases iter_find (body := fun z => t_isName_3b (nI (nst k)) (nI (nst k + nln k)) (nI p) z m) (hit := fun _ => .inr ()) (miss := .inl ()) (P := fun j => ¬ nch k j = t (p + j)) (fun i => nI (nst k + i)) (nln k) (by omega) (fun i hi hq => by
      show t_isName_3b _ _ _ _ m = _
      rw [hb i hi, if_neg (fun q => hq ((nI_eq (by have := (nln_in k hk i hi).2.2.2; omega) (by have := hT.2 (p + i) (by omega); omega)).mp q))]) (fun i hi hq => by
      show t_isName_3b _ _ _ _ m = _
      rw [hb i hi, if_pos (congrArg nI (Classical.not_not.mp hq))]) (by
      show t_isName_3b _ _ _ _ m = _
      unfold t_isName_3b
      exact if_pos (nI_le (Nat.le_refl _) (by omega))) with ⟨j, hj, hq, e⟩ | ⟨hq, e⟩
  · refine Or.inr ⟨fun q => hq (q j hj), ?_⟩
    rw [show iter (fun z => t_isName_3b (nI (nst k)) (nI (nst k + nln k)) (nI p) z m) FU (nI (nst k)) = _ from e]
    rfl
  · refine Or.inl ⟨fun j hj => Classical.not_not.mp (hq j hj), ?_⟩
    rw [show iter (fun z => t_isName_3b (nI (nst k)) (nI (nst k + nln k)) (nI p) z m) FU (nI (nst k)) = _ from e]
    rfl
theorem t_nameToken_eq {n : Nat} {t : Nat → Nat} {m : M} (hT : TXT n t) (hm : CTp n t m) {p L : Nat} (hp : p + L ≤ n) : (∃ k, k < 18 ∧ mt t p L k ∧ t_nameToken (nI p) (nI (p + L)) m = some (nI k)) ∨ ((∀ k, k < 18 → ¬ mt t p L k) ∧ t_nameToken (nI p) (nI (p + L)) m = some (-1)) := by
  have hn := hT.1
  have hL : nI (p + L) - nI p = nI L := by rw [pk_sub (by omega)]; congr 1; omega
  have h74 : ∀ a b q, t_nameToken_74 (nI p) (nI (p + L)) a b (nI q) m = some (.inl (a, b, nI (q + 1))) := fun a b q => by
    unfold t_nameToken_74; rw [ltE, nI_1]
  have hend : ∀ q, q < 97 → (q = 96 ∨ txtNames.getD q 0 = 32) → t_nameToken_8b (nI p) (nI (p + L)) (nI (wks q).1) (nI (wks q).2) (nI q) m = t_nameToken_40 (nI p) (nI (p + L)) (nI (wks q).1) (nI (wks q).2) (nI q) m := fun q hq he => by
    unfold t_nameToken_8b
    rw [s_length_eq, Option.bind_some, if_neg (show ¬ (96 : Int32) < nI q from nI_nlt (a := 96) (by omega) (by decide)), Option.bind_some]
    by_cases c : q = 96
    · rw [if_pos (by rw [c]; rfl)]
    · rw [if_neg (show ¬ nI q = (96 : Int32) from fun x => c ((nI_eq (b := 96) (by omega) (by decide)).mp x)), s_charAt_eq (by omega), Option.bind_some, if_pos (he.resolve_left c)]
  have hmid : ∀ q, q < 97 → ¬ (q = 96 ∨ txtNames.getD q 0 = 32) → t_nameToken_8b (nI p) (nI (p + L)) (nI (wks q).1) (nI (wks q).2) (nI q) m = some (.inl (nI (wks (q + 1)).1, nI (wks (q + 1)).2, nI (q + 1))) := fun q hq he => by
    unfold t_nameToken_8b
    rw [s_length_eq, Option.bind_some, if_neg (show ¬ (96 : Int32) < nI q from nI_nlt (a := 96) (by omega) (by decide)), Option.bind_some, if_neg (show ¬ nI q = (96 : Int32) from fun x => he (Or.inl ((nI_eq (b := 96) (by omega) (by decide)).mp x))), s_charAt_eq (by omega), Option.bind_some, if_neg (fun x => he (Or.inr x)), h74, show wks (q + 1) = wks q from if_neg he]
  have hnext : ∀ q, q < 97 → (q = 96 ∨ txtNames.getD q 0 = 32) → t_nameToken_65 (nI p) (nI (p + L)) (nI (wks q).1) (nI q) m = some (.inl (nI (wks (q + 1)).1, nI (wks (q + 1)).2, nI (q + 1))) := fun q hq he => by
    unfold t_nameToken_65
    rw [ltE, ltE, nI_1, nI_1, h74, show wks (q + 1) = ((wks q).1 + 1, q + 1) from if_pos he]
  have h40 : ∀ q, q < 97 → (q = 96 ∨ txtNames.getD q 0 = 32) → (mt t p L (wks q).1 ∧ t_nameToken_40 (nI p) (nI (p + L)) (nI (wks q).1) (nI (wks q).2) (nI q) m = some (.inr (.inr (nI (wks q).1)))) ∨ (¬ mt t p L (wks q).1 ∧ t_nameToken_40 (nI p) (nI (p + L)) (nI (wks q).1) (nI (wks q).2) (nI q) m = t_nameToken_65 (nI p) (nI (p + L)) (nI (wks q).1) (nI q) m) := fun q hq he => by
    obtain ⟨w1, w2, w3⟩ := wks_end q hq he
    have hl := nln_le _ w1
    unfold t_nameToken_40
    rw [hL, w2]
    have hw : nI q - nI (nst (wks q).1) = nI (nln (wks q).1) := by rw [pk_sub (by omega)]; congr 1; omega
    rw [hw]
    by_cases c : nln (wks q).1 = L
    · rw [if_pos (congrArg nI c)]
      rcases t_isName_eq hT hm w1 (p := p) (by omega) with ⟨h1, h2⟩ | ⟨h1, h2⟩
      · rw [← w3] at h2
        rw [h2, Option.bind_some, if_neg one_ne]
        exact Or.inl ⟨⟨c, fun j hj => h1 j (by omega)⟩, rfl⟩
      · rw [← w3] at h2
        rw [h2, Option.bind_some, if_pos rfl]
        exact Or.inr ⟨fun x => h1 (fun j hj => x.2 j (by omega)), rfl⟩
    · rw [if_neg (fun x => c ((nI_eq (by omega) (by omega)).mp x))]
      exact Or.inr ⟨fun x => c x.1, rfl⟩
  unfold t_nameToken t_nameToken_8
  rcases iter_find (body := fun z => t_nameToken_8b (nI p) (nI (p + L)) z.1 z.2.1 z.2.2 m) (hit := fun q => .inr (nI (wks q).1)) (miss := .inl ()) (P := fun q => (q = 96 ∨ txtNames.getD q 0 = 32) ∧ mt t p L (wks q).1) (fun q => (nI (wks q).1, nI (wks q).2, nI q)) 97 (by decide) (fun q hq hp => by
      show t_nameToken_8b _ _ _ _ _ m = _
      rw [hend q hq hp.1]
      rcases h40 q hq hp.1 with ⟨_, h2⟩ | ⟨h1, _⟩
      · exact h2
      · exact absurd hp.2 h1) (fun q hq hp => by
      show t_nameToken_8b _ _ _ _ _ m = _
      by_cases he : q = 96 ∨ txtNames.getD q 0 = 32
      · rw [hend q hq he]
        rcases h40 q hq he with ⟨h1, _⟩ | ⟨_, h2⟩
        · exact absurd ⟨he, h1⟩ hp
        · rw [h2]; exact hnext q hq he
      · exact hmid q hq he) (by
      show t_nameToken_8b _ _ _ _ _ m = _
      unfold t_nameToken_8b
      rw [s_length_eq, Option.bind_some, if_pos (show (96 : Int32) < nI 97 by decide)]) with ⟨q, hq, hp, e⟩ | ⟨hq, e⟩
  · refine Or.inl ⟨(wks q).1, (wks_end q hq hp.1).1, hp.2, ?_⟩
    rw [show iter (fun z => t_nameToken_8b (nI p) (nI (p + L)) z.1 z.2.1 z.2.2 m) FU (0, 0, 0) = _ from e]
    rfl
  · refine Or.inr ⟨fun k hk hm => ?_, ?_⟩
    · obtain ⟨w1, w2, w3⟩ := wks_of k hk
      exact hq _ w2 ⟨w1, by rw [w3]; exact hm⟩
    · rw [show iter (fun z => t_nameToken_8b (nI p) (nI (p + L)) z.1 z.2.1 z.2.2 m) FU (0, 0, 0) = _ from e]
      rfl
/-- the value of the first digits -/
def dv (t : Nat → Nat) (p : Nat) : Nat → Nat
  | 0 => 0
  | k + 1 => 10 * dv t p k + t (p + k) - 48
theorem dv_lt {t : Nat → Nat} {p : Nat} : ∀ k, (∀ j, j < k → 48 ≤ t (p + j) ∧ t (p + j) ≤ 57) → dv t p k < 10 ^ k
  | 0, _ => Nat.one_pos
  | k + 1, h => by
    have h1 := dv_lt k (fun j hj => h j (by omega))
    have h2 := h k (by omega)
    show 10 * dv t p k + t (p + k) - 48 < 10 ^ (k + 1)
    rw [Nat.pow_succ]
    omega
theorem dv_4 {t : Nat → Nat} {p k : Nat} (hk : k ≤ 4) (h : ∀ j, j < k → 48 ≤ t (p + j) ∧ t (p + j) ≤ 57) : dv t p k ≤ 9999 := by
  have h1 := dv_lt k h
  have h2 : 10 ^ k ≤ 10 ^ 4 := Nat.pow_le_pow_right (by decide) hk
  have : 10 ^ 4 = 10000 := by decide
  omega
theorem t_numberToken_eq {n : Nat} {t : Nat → Nat} {m : M} (hT : TXT n t) (hm : CTp n t m) {p L : Nat} (hp : p + L ≤ n) (hd : ∀ j, j < L → 48 ≤ t (p + j) ∧ t (p + j) ≤ 57) : t_numberToken (nI p) (nI (p + L)) m = some (if L ≤ 4 then nI (18 + dv t p L) else -1) := by
  have hn := hT.1
  have hL : nI (p + L) - nI p = nI L := by rw [pk_sub (by omega)]; congr 1; omega
  unfold t_numberToken
  rw [hL]
  by_cases c : L ≤ 4
  · rw [if_pos (show nI L ≤ (4 : Int32) from (nI_leI (b := 4) (by omega) (by decide)).mpr c), if_pos c]
    unfold t_numberToken_14
    have e := iter_seq (body := fun z => t_numberToken_14b (nI (p + L)) z.1 z.2 m) (fun i => (nI (dv t p i), nI (p + i))) (r := nI (dv t p L)) L (fun i hi => by
      show t_numberToken_14b _ _ _ m = _
      unfold t_numberToken_14b
      have h48 : 48 ≤ 10 * dv t p i + t (p + i) := by have := hd i hi; omega
      rw [if_neg (nI_ge (by omega) (by omega)), rd46 hT hm (by omega), Option.bind_some, ltE, ltE, nI_1, show (10 : Int32) = nI 10 from rfl, pk_mul, nI_add, show (48 : Int32) = nI 48 from rfl, pk_sub h48]
      rfl) (by
      show t_numberToken_14b _ _ _ m = _
      unfold t_numberToken_14b
      exact if_pos (nI_le (Nat.le_refl _) (by omega))) (by omega)
    rw [show iter (fun z => t_numberToken_14b (nI (p + L)) z.1 z.2 m) FU (0, nI p) = _ from e, Option.bind_some, show (18 : Int32) = nI 18 from rfl, nI_add]
  · rw [if_neg (show ¬ nI L ≤ (4 : Int32) from fun q => c ((nI_leI (b := 4) (by omega) (by decide)).mp q)), if_neg c]
/-- what the class makes of the word at p -/
def CTk (n : Nat) (t : Nat → Nat) (p : Nat) (c : Int32) : Prop := (so (t p) = 3 ∧ ((∃ j, j < 6 ∧ t p = sgn j ∧ c = nI (10018 + j)) ∨ ((∀ j, j < 6 → ¬ t p = sgn j) ∧ c = -1))) ∨ (so (t p) = 2 ∧ c = if wEn n t p - p ≤ 4 then nI (18 + dv t p (wEn n t p - p)) else -1) ∨ (so (t p) = 1 ∧ ((∃ k, k < 18 ∧ mt t p (wEn n t p - p) k ∧ c = nI k) ∨ ((∀ k, k < 18 → ¬ mt t p (wEn n t p - p) k) ∧ c = -1)))
theorem tk_loop {n : Nat} {t : Nat → Nat} {m : M} (hT : TXT n t) (hm : CTp n t m) (a : Int32) (s : Nat) (hs : s ≤ 3) : ∀ (d q F : Nat), q + d = n → d < F → iter (fun z => t_tokenAt_46b a (nI s) z m) F (nI q) = some (nI (fw (fun q => so (t q) == s) d q)) := by
  have hn := hT.1
  intro d
  induction d with
  | zero =>
    intro q F h1 h2
    obtain ⟨F', rfl⟩ : ∃ F', F = F' + 1 := ⟨F - 1, by omega⟩
    show (t_tokenAt_46b a (nI s) (nI q) m).bind _ = _
    unfold t_tokenAt_46b
    rw [hm.1, if_pos (nI_le (by omega) (by omega))]
    rfl
  | succ d ih =>
    intro q F h1 h2
    obtain ⟨F', rfl⟩ : ∃ F', F = F' + 1 := ⟨F - 1, by omega⟩
    have hb : t_tokenAt_46b a (nI s) (nI q) m = (if nI (so (t q)) = nI s then some (.inl (nI (q + 1))) else some (.inr (nI q))) := by
      unfold t_tokenAt_46b
      rw [hm.1, if_neg (nI_ge (by omega) (by omega)), rd46 hT hm (by omega), Option.bind_some, t_sortOf_eq (hT.2 q (by omega)), Option.bind_some, ltE, nI_1]
    by_cases c : so (t q) = s
    · rw [if_pos (congrArg nI c)] at hb
      show (t_tokenAt_46b a (nI s) (nI q) m).bind _ = _
      rw [hb, show fw (fun q => so (t q) == s) (d + 1) q = fw (fun q => so (t q) == s) d (q + 1) from if_pos (by simpa using c)]
      exact ih (q + 1) F' (by omega) (by omega)
    · rw [if_neg (fun x => c ((nso_k (by omega)).mp x))] at hb
      show (t_tokenAt_46b a (nI s) (nI q) m).bind _ = _
      rw [hb, show fw (fun q => so (t q) == s) (d + 1) q = q from if_neg (by simpa using c)]
      rfl
theorem t_tokenAt_eq {n : Nat} {t : Nat → Nat} {m : M} (hT : TXT n t) (hm : CTp n t m) {p : Nat} (hp : p < n) (h0 : ¬ so (t p) = 0) : ∃ c, t_tokenAt (nI p) m = some c ∧ CTk n t p c := by
  have hn := hT.1
  obtain ⟨e1, e2, e3, e4, e5⟩ := wEn_spec (t := t) hp
  unfold t_tokenAt
  rw [rd46 hT hm hp, Option.bind_some, t_sortOf_eq (hT.2 p hp), Option.bind_some]
  by_cases c3 : so (t p) = 3
  · rw [if_pos (nso_3.mpr c3), Option.bind_some, ch_dec _ (hT.2 p hp)]
    rcases s_idx (hT.2 p hp) m with ⟨k, hk, h1, h2⟩ | ⟨h1, h2⟩
    · rw [h2, Option.bind_some, if_pos (nI_pos' (by omega)), show (10018 : Int32) = nI 10018 from rfl, nI_add]
      exact ⟨_, rfl, Or.inl ⟨c3, Or.inl ⟨k, hk, h1, rfl⟩⟩⟩
    · rw [h2, Option.bind_some, if_neg (by decide)]
      exact ⟨_, rfl, Or.inl ⟨c3, Or.inr ⟨h1, rfl⟩⟩⟩
  · rw [if_neg (fun q => c3 (nso_3.mp q)), ltE, nI_1]
    unfold t_tokenAt_46
    have hw : fw (fun q => so (t q) == so (t p)) (n - (p + 1)) (p + 1) = wEn n t p := (if_neg c3).symm
    rw [tk_loop hT hm (nI p) (so (t p)) (so_le _) (n - (p + 1)) (p + 1) FU (by omega) (by unfold FU; omega), hw, Option.bind_some]
    unfold t_tokenAt_73
    have hE : wEn n t p = p + (wEn n t p - p) := by omega
    by_cases c2 : so (t p) = 2
    · rw [if_pos (show nI (so (t p)) = (2 : Int32) from (nso_k (k := 2) (by decide)).mpr c2), hE, t_numberToken_eq hT hm (by omega) (fun j hj => so_2.mp ((e3 (p + j) (by omega) (by omega)).trans c2)), Option.bind_some]
      exact ⟨_, rfl, Or.inr (Or.inl ⟨c2, rfl⟩)⟩
    · rw [if_neg (show ¬ nI (so (t p)) = (2 : Int32) from fun q => c2 ((nso_k (k := 2) (by decide)).mp q))]
      have c1 : so (t p) = 1 := by have := so_le (t p); omega
      rw [hE]
      rcases t_nameToken_eq hT hm (p := p) (L := wEn n t p - p) (by omega) with ⟨k, hk, h1, h2⟩ | ⟨h1, h2⟩
      · rw [h2]
        exact ⟨_, rfl, Or.inr (Or.inr ⟨c1, Or.inl ⟨k, hk, h1, rfl⟩⟩)⟩
      · rw [h2]
        exact ⟨_, rfl, Or.inr (Or.inr ⟨c1, Or.inr ⟨h1, rfl⟩⟩)⟩
