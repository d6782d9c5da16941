/-! rows of acts: what the best is worth, in how many ways, which is the first -/
def goN (rs : List Rl) (a : Nat) (b : Nat → Int32) : Nat := (goW rs a b).toNatClampNeg
theorem goN_eq {rs : List Rl} {a : Nat} {b : Nat → Int32} (h : WF b) (ha : a ≤ manyB b) : goW rs a b = nI (goN rs a b) ∧ goN rs a b ≤ 11 := by
  obtain ⟨j, h1, h2⟩ := goW_bd (rs := rs) h ha
  unfold goN
  rw [h2, nI_clamp (by omega)]
  exact ⟨rfl, h1⟩
abbrev T3 : Type := Nat × Nat × Nat
def ab3 (s x : T3) : T3 := if x.1 ≤ s.1 then (s.1, if x.1 = s.1 then s.2.1 + x.2.1 else s.2.1, s.2.2) else x
theorem ab3_assoc (s x y : T3) : ab3 (ab3 s x) y = ab3 s (ab3 x y) := by
  obtain ⟨s1, s2, s3⟩ := s
  obtain ⟨x1, x2, x3⟩ := x
  obtain ⟨y1, y2, y3⟩ := y
  unfold ab3
  by_cases h1 : x1 ≤ s1
  · rw [if_pos (show (x1, x2, x3).1 ≤ (s1, s2, s3).1 from h1)]
    by_cases h2 : y1 ≤ x1
    · rw [if_pos (show (y1, y2, y3).1 ≤ (x1, x2, x3).1 from h2)]
      simp only
      rw [if_pos (show y1 ≤ s1 by omega), if_pos h1]
      by_cases e1 : x1 = s1
      · subst e1
        rw [if_pos rfl, if_pos rfl]
        by_cases e2 : y1 = x1
        · rw [if_pos e2, if_pos e2, Nat.add_assoc]
        · rw [if_neg e2, if_neg e2]
      · rw [if_neg e1, if_neg e1, if_neg (show ¬ y1 = s1 by omega)]
    · rw [if_neg (show ¬ (y1, y2, y3).1 ≤ (x1, x2, x3).1 from h2)]
      simp only
      by_cases h3 : y1 ≤ s1
      · rw [if_pos h3, if_pos h3, if_neg (show ¬ x1 = s1 by omega)]
      · rw [if_neg h3, if_neg h3]
  · rw [if_neg (show ¬ (x1, x2, x3).1 ≤ (s1, s2, s3).1 from h1)]
    by_cases h2 : y1 ≤ x1
    · rw [if_pos (show (y1, y2, y3).1 ≤ (x1, x2, x3).1 from h2)]
      simp only
      rw [if_neg h1]
    · rw [if_neg (show ¬ (y1, y2, y3).1 ≤ (x1, x2, x3).1 from h2)]
      simp only
      rw [if_neg (show ¬ y1 ≤ s1 by omega)]
theorem foldN_shift {α : Type} {g : Nat → α → α} {n : Nat} {a : α} : foldN g (n + 1) a = foldN (fun i x => g (i + 1) x) n (g 0 a) := by
  induction n with
  | zero => rfl
  | succ n ih =>
    show g (n + 1) (foldN g (n + 1) a) = g (n + 1) (foldN (fun i x => g (i + 1) x) n (g 0 a))
    rw [ih]
theorem fold_ab {c : Nat → T3} {s x : T3} {n : Nat} : foldN (fun i z => ab3 z (c i)) n (ab3 s x) = ab3 s (foldN (fun i z => ab3 z (c i)) n x) := by
  induction n with
  | zero => rfl
  | succ n ih =>
    show ab3 (foldN (fun i z => ab3 z (c i)) n (ab3 s x)) (c n) = ab3 s (ab3 (foldN (fun i z => ab3 z (c i)) n x) (c n))
    rw [ih, ab3_assoc]
theorem ab3_0 {x : T3} (h : 0 < x.1) : ab3 (0, 0, 0) x = x := by
  unfold ab3
  rw [if_neg (show ¬ x.1 ≤ (0, 0, 0).1 by show ¬ x.1 ≤ 0; omega)]
theorem fold_ab0 {c : Nat → T3} {s : T3} {n : Nat} (h : 0 < (c 0).1) : foldN (fun i z => ab3 z (c i)) (n + 1) s = ab3 s (foldN (fun i z => ab3 z (c i)) (n + 1) (0, 0, 0)) := by
  rw [foldN_shift, foldN_shift, ab3_0 h]
  exact fold_ab (c := fun i => c (i + 1))
def sh3 (W pre q : Nat) (x : T3) : T3 := (x.1 + W, x.2.1, pre + q * x.2.2)
theorem sh3_ab {W pre q : Nat} {s x : T3} : sh3 W pre q (ab3 s x) = ab3 (sh3 W pre q s) (sh3 W pre q x) := by
  obtain ⟨s1, s2, s3⟩ := s
  obtain ⟨x1, x2, x3⟩ := x
  unfold ab3 sh3
  by_cases h : x1 ≤ s1
  · simp only [if_pos h, if_pos (show x1 + W ≤ s1 + W by omega)]
    by_cases e : x1 = s1
    · simp only [if_pos e, if_pos (show x1 + W = s1 + W by omega)]
    · simp only [if_neg e, if_neg (show ¬ x1 + W = s1 + W by omega)]
  · simp only [if_neg h, if_neg (show ¬ x1 + W ≤ s1 + W by omega)]
theorem sh3_fold {W pre q : Nat} {c : Nat → T3} {s : T3} {n : Nat} : sh3 W pre q (foldN (fun i z => ab3 z (c i)) n s) = foldN (fun i z => ab3 z (sh3 W pre q (c i))) n (sh3 W pre q s) := by
  induction n with
  | zero => rfl
  | succ n ih =>
    show sh3 W pre q (ab3 (foldN (fun i z => ab3 z (c i)) n s) (c n)) = ab3 _ _
    rw [sh3_ab, ih]
/-- the plans of d days: worth and 1, ways, acts -/
def PL (rs : List Rl) : Nat → (Nat → Int32) → T3
  | 0, _ => (1, 1, 0)
  | d + 1, b => foldN (fun a z => ab3 z (sh3 (goN rs a b) a 8 (PL rs d (goB rs a b)))) (manyB b + 1) (0, 0, 0)
theorem PL_succ {rs : List Rl} {d : Nat} {b : Nat → Int32} : PL rs (d + 1) b = foldN (fun a z => ab3 z (sh3 (goN rs a b) a 8 (PL rs d (goB rs a b)))) (manyB b + 1) (0, 0, 0) := rfl
theorem foldN_invI {α : Type} {g : Nat → α → α} {n : Nat} {a : α} (P : Nat → α → Prop) (h0 : P 0 a) (hs : ∀ i x, i < n → P i x → P (i + 1) (g i x)) : P n (foldN g n a) := by
  induction n with
  | zero => exact h0
  | succ n ih => exact hs n _ (by omega) (ih (fun i x hi => hs i x (by omega)))
def dg (A i : Nat) : Nat := A / 8 ^ i % 8
theorem dg_0 {A a : Nat} (h : a < 8) : dg (a + 8 * A) 0 = a := by unfold dg; omega
theorem dg_s {A a i : Nat} (h : a < 8) : dg (a + 8 * A) (i + 1) = dg A i := by
  unfold dg
  rw [Nat.pow_succ, Nat.mul_comm (8 ^ i) 8, ← Nat.div_div_eq_div_mul, show (a + 8 * A) / 8 = A by omega]
/-- bounds of the plans -/
def PB (d n : Nat) (x : T3) : Prop := 1 ≤ x.1 ∧ x.1 ≤ 11 * d + 1 ∧ 1 ≤ x.2.1 ∧ x.2.1 ≤ 7 ^ d ∧ x.2.2 < 8 ^ d ∧ ∀ i, dg x.2.2 i ≤ n
theorem PL_bd {rs : List Rl} : ∀ (d : Nat) {b : Nat → Int32}, WF b → d ≤ leftB b → PB d (manyB b) (PL rs d b)
  | 0, b, h, _ => ⟨Nat.le_refl _, Nat.le_refl _, Nat.le_refl _, Nat.le_refl _, show (0 : Nat) < 8 ^ 0 by decide, fun i => by show 0 / 8 ^ i % 8 ≤ _; rw [Nat.zero_div]; exact Nat.zero_le _⟩
  | d + 1, b, h, hd => by
    have h6 := h.manyN.2
    have key := foldN_invI (g := fun a z => ab3 z (sh3 (goN rs a b) a 8 (PL rs d (goB rs a b)))) (n := manyB b + 1) (a := ((0, 0, 0) : T3)) (fun a x => (a = 0 → x = (0, 0, 0)) ∧ (0 < a → 1 ≤ x.1 ∧ 1 ≤ x.2.1) ∧ x.1 ≤ 11 * (d + 1) + 1 ∧ x.2.1 ≤ a * 7 ^ d ∧ x.2.2 < 8 ^ (d + 1) ∧ ∀ i, dg x.2.2 i ≤ manyB b) ⟨fun _ => rfl, fun h => absurd h (by decide), Nat.zero_le _, Nat.zero_le _, Nat.pow_pos (by decide), fun i => by show 0 / 8 ^ i % 8 ≤ _; rw [Nat.zero_div]; exact Nat.zero_le _⟩ (fun a x ha hx => by
      obtain ⟨x0, x1, x2, x3, x4, x5⟩ := hx
      have hW := h.go (over0 h (by omega)) rs (show a ≤ manyB b by omega)
      have hlg := left_go (rs := rs) h (by omega) (show a ≤ manyB b by omega)
      have hmany : manyB (goB rs a b) = manyB b := (NB_go (by omega)).many
      obtain ⟨p1, p2, p3, p4, p5, p6⟩ := PL_bd (rs := rs) d hW (by omega)
      rw [hmany] at p6
      have hg := (goN_eq (rs := rs) h (show a ≤ manyB b by omega)).2
      refine ⟨fun q => by omega, ?_⟩
      have e7 : (a + 1) * 7 ^ d = a * 7 ^ d + 7 ^ d := Nat.succ_mul _ _
      have e8 : 8 ^ (d + 1) = 8 ^ d * 8 := Nat.pow_succ ..
      show (0 < a + 1 → 1 ≤ (ab3 x _).1 ∧ 1 ≤ (ab3 x _).2.1) ∧ _
      unfold ab3 sh3
      simp only
      by_cases c : (PL rs d (goB rs a b)).1 + goN rs a b ≤ x.1
      · rw [if_pos c]
        have ha0 : 0 < a := by
          by_cases q : a = 0
          · have hx0 := x0 q
            rw [hx0] at c
            simp only at c
            omega
          · omega
        have hx1 := x1 ha0
        simp only
        refine ⟨fun _ => ⟨hx1.1, ?_⟩, x2, ?_, x4, x5⟩
        · split <;> omega
        · rw [e7]; split <;> omega
      · rw [if_neg c]
        simp only
        refine ⟨fun _ => ⟨by omega, p3⟩, by omega, by omega, by omega, fun i => ?_⟩
        cases i with
        | zero => rw [dg_0 (by omega)]; omega
        | succ i => rw [dg_s (by omega)]; exact p6 i)
    obtain ⟨k0, k1, k2, k3, k4, k5⟩ := key
    have k1' := k1 (by omega)
    rw [PL_succ]
    refine ⟨k1'.1, k2, k1'.2, Nat.le_trans k3 ?_, k4, k5⟩
    rw [Nat.pow_succ, Nat.mul_comm]
    exact Nat.mul_le_mul_left _ (by omega)
theorem cmp_m1 {x y : Nat} (hx : x < 2 ^ 30) (hy : y < 2 ^ 30) : (nI x - 1 ≤ nI y - 1 ↔ x ≤ y) ∧ (nI x - 1 = nI y - 1 ↔ x = y) := by
  have e1 : (nI x - 1).toInt = (x : Int) - 1 := pk_sub_toInt (b := 1) hx (by decide)
  have e2 : (nI y - 1).toInt = (y : Int) - 1 := pk_sub_toInt (b := 1) hy (by decide)
  constructor
  · rw [Int32.le_iff_toInt_le, e1, e2]; omega
  · rw [← Int32.toInt_inj, e1, e2]; omega
def pkN (x : T3) : Nat := (x.1 - 1) * 2 ^ 32 + (x.2.1 * 2 ^ 12 + x.2.2)
theorem PB.small {d n : Nat} {x : T3} (h : PB d n x) (hd : d ≤ 4) : x.1 ≤ 45 ∧ x.2.1 ≤ 2401 ∧ x.2.2 < 4096 := by
  obtain ⟨-, h1, -, h2, h3, -⟩ := h
  have e7 : 7 ^ d ≤ 7 ^ 4 := Nat.pow_le_pow_right (by decide) hd
  have e8 : 8 ^ d ≤ 8 ^ 4 := Nat.pow_le_pow_right (by decide) hd
  exact ⟨by omega, Nat.le_trans h2 e7, Nat.lt_of_lt_of_le h3 e8⟩
theorem k_packed_eq {w n a : Nat} {m : M} (hw : w ≤ 2 ^ 20) (hn : n < 2 ^ 20) (ha : a < 2 ^ 12) : k_packed (nI w) (nI n) (nI a) m = some (lN (w * 2 ^ 32 + (n * 2 ^ 12 + a))) := by
  unfold k_packed
  rw [nI_l (by omega), nI_l (by omega), nI_l (by omega), lN_shl (Int32.toInt64 32 &&& 63) 32 (by decide +kernel) (by omega), lN_shl (Int32.toInt64 12 &&& 63) 12 (by decide +kernel) (by omega), lN_orHi 32 (by omega)]
  rw [show w * 2 ^ 32 + n * 2 ^ 12 = (w * 2 ^ 20 + n) * 2 ^ 12 by omega, lN_orHi 12 ha]
  rw [show (w * 2 ^ 20 + n) * 2 ^ 12 + a = w * 2 ^ 32 + (n * 2 ^ 12 + a) by omega]
theorem k_worthOf_eq {w n a : Nat} {m : M} (hw : w ≤ 2 ^ 20) (hn : n < 2 ^ 20) (ha : a < 2 ^ 12) : k_worthOf (lN (w * 2 ^ 32 + (n * 2 ^ 12 + a))) m = some (nI w) := by
  unfold k_worthOf
  rw [lN_shr (by omega) (Int32.toInt64 32 &&& 63) 32 (by decide +kernel), lN_i, show (w * 2 ^ 32 + (n * 2 ^ 12 + a)) / 2 ^ 32 = w by omega]
theorem k_waysOf_eq {w n a : Nat} {m : M} (hw : w ≤ 2 ^ 20) (hn : n < 2 ^ 20) (ha : a < 2 ^ 12) : k_waysOf (lN (w * 2 ^ 32 + (n * 2 ^ 12 + a))) m = some (nI n) := by
  unfold k_waysOf
  rw [lN_shr (by omega) (Int32.toInt64 12 &&& 63) 12 (by decide +kernel), lN_low 20 (by decide) (by decide), show (w * 2 ^ 32 + (n * 2 ^ 12 + a)) / 2 ^ 12 % 2 ^ 20 = n by omega]
theorem k_actsOf_eq {w n a : Nat} {m : M} (ha : a < 2 ^ 12) : k_actsOf (lN (w * 2 ^ 32 + (n * 2 ^ 12 + a))) m = some (nI a) := by
  unfold k_actsOf
  rw [lN_low 12 (by decide) (by decide), show (w * 2 ^ 32 + (n * 2 ^ 12 + a)) % 2 ^ 12 = a by omega]
theorem acts_dec : ∀ a, a < 8 → ∀ A, A < 512 → nI a ||| (nI A <<< ((3 : Int32) &&& 31)) = nI (a + 8 * A) := by decide +kernel
theorem k_bestPlans_run {rs : List Rl} : ∀ (d f : Nat) {b : Nat → Int32} {m : M} {n : Nat}, n ≤ 4 → d = min n (leftB b) → d < f → WF b → KR m rs → KB m b → ∃ m', k_bestPlans_d f (nI n) m = some (lN (pkN (PL rs d b)), m') ∧ KB m' b ∧ NQ m m' := by
  intro d
  induction d with
  | zero =>
    intro f b m n hn hd hf hW hR hK
    obtain ⟨f', rfl⟩ : ∃ f', f = f' + 1 := ⟨f - 1, by omega⟩
    refine ⟨m, ?_, hK, NQ.rfl⟩
    show k_bestPlans (k_bestPlans_d f') (nI n) m = _
    have hpk : k_bestPlans_11 (k_bestPlans_d f') m = some (lN (pkN (PL rs 0 b)), m) := by
      unfold k_bestPlans_11
      rw [show k_packed (0 : Int32) 1 0 m = some (lN (0 * 2 ^ 32 + (1 * 2 ^ 12 + 0))) from k_packed_eq (w := 0) (n := 1) (a := 0) (by decide) (by decide) (by decide)]
      rfl
    unfold k_bestPlans
    rw [hpk, isOverK hK hW]
    simp only [Option.bind_some]
    by_cases e : n = 0
    · subst e; rw [if_pos (by decide)]
    · rw [if_neg (nI_nle (by omega) (by omega)), if_pos (show leftB b = 0 by omega), if_neg (by decide)]
  | succ d ih =>
    intro f b m n hn hd hf hW hR hK
    obtain ⟨f', rfl⟩ : ∃ f', f = f' + 1 := ⟨f - 1, by omega⟩
    obtain ⟨n', rfl⟩ : ∃ n', n = n' + 1 := ⟨n - 1, by omega⟩
    have hl : 0 < leftB b := by omega
    obtain ⟨h1, h2⟩ := hW.manyN
    show ∃ m', k_bestPlans (k_bestPlans_d f') (nI (n' + 1)) m = _ ∧ _
    unfold k_bestPlans
    rw [if_neg (nI_nle (by omega) (by omega)), isOverK hK hW, if_neg (by omega), b_moment_eq hK hW, b_count_eq hK hW]
    simp only [Option.bind_some]
    rw [if_pos trivial]
    have hbd : ∀ a, a ≤ manyB b + 1 → (foldN (fun a z => ab3 z (sh3 (goN rs a b) a 8 (PL rs d (goB rs a b)))) a (0, 0, 0)).1 ≤ 100 ∧ (foldN (fun a z => ab3 z (sh3 (goN rs a b) a 8 (PL rs d (goB rs a b)))) a (0, 0, 0)).2.1 ≤ a * 2401 ∧ (foldN (fun a z => ab3 z (sh3 (goN rs a b) a 8 (PL rs d (goB rs a b)))) a (0, 0, 0)).2.2 < 4096 := fun a ha => foldN_invI (g := fun a z => ab3 z (sh3 (goN rs a b) a 8 (PL rs d (goB rs a b)))) (n := a) (a := ((0, 0, 0) : T3)) (fun a x => x.1 ≤ 100 ∧ x.2.1 ≤ a * 2401 ∧ x.2.2 < 4096) ⟨by decide, by decide, by decide⟩ (fun i x hi hx => by
      have hWi := hW.go (over0 hW hl) rs (show i ≤ manyB b by omega)
      have hlg := left_go (rs := rs) hW hl (show i ≤ manyB b by omega)
      have hpb := PL_bd (rs := rs) d hWi (by omega)
      obtain ⟨p1, p2, p3⟩ := hpb.small (by omega)
      have p4 := hpb.2.2.2.2.1
      have e8 : 8 ^ d ≤ 8 ^ 3 := Nat.pow_le_pow_right (by decide) (by omega)
      have hg := (goN_eq (rs := rs) hW (show i ≤ manyB b by omega)).2
      obtain ⟨x1, x2, x3⟩ := hx
      have e7 : (i + 1) * 2401 = i * 2401 + 2401 := Nat.succ_mul _ _
      unfold ab3 sh3
      simp only
      by_cases c : (PL rs d (goB rs i b)).1 + goN rs i b ≤ x.1
      · rw [if_pos c]
        simp only
        refine ⟨x1, ?_, x3⟩
        rw [e7]
        split
        · exact Nat.add_le_add x2 p2
        · exact Nat.le_trans x2 (Nat.le_add_right _ _)
      · rw [if_neg c]
        simp only
        refine ⟨by omega, ?_, by omega⟩
        rw [e7]
        exact Nat.le_trans p2 (Nat.le_add_left _ _))
    generalize hG : (fun a z => foldN (fun a z => ab3 z (sh3 (goN rs a b) a 8 (PL rs d (goB rs a b)))) a z) = G at hbd
    have hGe : ∀ a z, foldN (fun a z => ab3 z (sh3 (goN rs a b) a 8 (PL rs d (goB rs a b)))) a z = G a z := fun a z => by rw [← hG]
    simp only [hGe] at hbd
    have key : ∀ (e a : Nat) (mi : M), a + e = manyB b + 1 → KB mi b → NQ m mi → ∃ m', (∀ F, e < F → iter (fun z : Int32 × Int32 × Int32 × Int32 × M => k_bestPlans_41b (k_bestPlans_d f') (nI (n' + 1)) (lN (momN b)) z.1 z.2.1 z.2.2.1 (countB b) z.2.2.2.1 z.2.2.2.2) F (nI (G a (0, 0, 0)).1 - 1, nI (G a (0, 0, 0)).2.1, nI (G a (0, 0, 0)).2.2, nI a, mi) = some (nI (G (manyB b + 1) (0, 0, 0)).1 - 1, nI (G (manyB b + 1) (0, 0, 0)).2.1, nI (G (manyB b + 1) (0, 0, 0)).2.2, m')) ∧ KB m' b ∧ NQ m m' := by
      intro e
      induction e with
      | zero =>
        intro a mi ha hKi hq
        refine ⟨mi, fun F hF => ?_, hKi, hq⟩
        obtain ⟨F', rfl⟩ : ∃ F', F = F' + 1 := ⟨F - 1, by omega⟩
        have hae : a = manyB b + 1 := by omega
        subst hae
        show (k_bestPlans_41b (k_bestPlans_d f') (nI (n' + 1)) (lN (momN b)) _ _ _ (countB b) (nI (manyB b + 1)) mi).bind _ = _
        unfold k_bestPlans_41b
        rw [hKi.f6, h1, if_pos ((nI_ltI (by omega) (by omega)).mpr (by omega))]; rfl
      | succ e ihe =>
        intro a mi ha hKi hq
        have ham : a ≤ manyB b := by omega
        have hWa := hW.go (over0 hW hl) rs ham
        have hlg := left_go (rs := rs) hW hl ham
        obtain ⟨g1, g2⟩ := goN_eq (rs := rs) hW ham
        obtain ⟨m1, f1, f2, f3, -⟩ := b_goesBy_eq (rs := rs) hKi hW (hq.kr hR) ham
        obtain ⟨m2, r1, r2, r3⟩ := ih f' (n := n') (by omega) (by omega) (by omega) hWa (f3.kr (hq.kr hR)) f2
        obtain ⟨m3, t1, t2, t3, t4⟩ := b_goBackTo_eq hW r2 (NB_go (rs := rs) (by omega))
        obtain ⟨m', i1, i2, i3⟩ := ihe (a + 1) m3 (by omega) t2 ((hq.trans f3).trans (r3.trans t3))
        refine ⟨m', fun F hF => ?_, i2, i3⟩
        obtain ⟨F', rfl⟩ : ∃ F', F = F' + 1 := ⟨F - 1, by omega⟩
        have hGs : G (a + 1) (0, 0, 0) = ab3 (G a (0, 0, 0)) (sh3 (goN rs a b) a 8 (PL rs d (goB rs a b))) := by rw [← hG]; rfl
        obtain ⟨b1, b2, b3⟩ := hbd a (by omega)
        have hpb := PL_bd (rs := rs) d hWa (by omega)
        obtain ⟨p1, p2, p3⟩ := hpb.small (by omega)
        have p0 := hpb.1
        have p4 := hpb.2.2.2.2.1
        have e8 : 8 ^ d ≤ 8 ^ 3 := Nat.pow_le_pow_right (by decide) (by omega)
        generalize G a (0, 0, 0) = s at *
        generalize G (a + 1) (0, 0, 0) = s' at *
        generalize hx : PL rs d (goB rs a b) = x at *
        obtain ⟨s1, s2, s3⟩ := s
        obtain ⟨x1, x2, x3⟩ := x
        simp only at b1 b2 b3 p0 p1 p2 p3 p4
        have i1' := i1 F' (by omega)
        have hbody : k_bestPlans_41b (k_bestPlans_d f') (nI (n' + 1)) (lN (momN b)) (nI s1 - 1) (nI s2) (nI s3) (countB b) (nI a) mi = some (.inl (nI s'.1 - 1, nI s'.2.1, nI s'.2.2, nI (a + 1), m3)) := by
          unfold k_bestPlans_41b
          rw [hKi.f6, h1, if_neg (fun q => by have := (nI_ltI (by omega) (by omega)).mp q; omega), f1]
          simp only [Option.bind_some]
          rw [nI_pred, r1]
          simp only [Option.bind_some]
          rw [t1]
          unfold pkN
          simp only [Option.bind_some]
          rw [k_worthOf_eq (by omega) (by omega) (by omega), k_actsOf_eq (by omega)]
          simp only [Option.bind_some]
          rw [ltE, ltE, g1, nI_add, acts_dec a (by omega) x3 (by omega)]
          unfold k_bestPlans_110 k_bestPlans_127
          rw [k_waysOf_eq (by omega) (by omega) (by omega)]
          simp only [Option.bind_some]
          rw [ltE, ltE, ltE, ltE, nI_add, nI_1]
          have hv : nI (goN rs a b + (x1 - 1)) = nI (x1 + goN rs a b) - 1 := by
            rw [show x1 + goN rs a b = (goN rs a b + (x1 - 1)) + 1 by omega, nI_pred]
          rw [hv]
          obtain ⟨c1, c2⟩ := cmp_m1 (x := x1 + goN rs a b) (y := s1) (by omega) (by omega)
          unfold ab3 sh3 at hGs
          simp only at hGs
          by_cases c : x1 + goN rs a b ≤ s1
          · rw [if_pos c] at hGs
            rw [if_pos (c1.mpr c)]
            by_cases ce : x1 + goN rs a b = s1
            · rw [if_pos ce] at hGs
              rw [if_pos (c2.mpr ce), hGs]
            · rw [if_neg ce] at hGs
              rw [if_neg (fun q => ce (c2.mp q)), hGs]
          · rw [if_neg c] at hGs
            rw [if_neg (fun q => c (c1.mp q)), if_pos trivial, Int32.zero_add, hGs]
            rfl
        show (k_bestPlans_41b (k_bestPlans_d f') (nI (n' + 1)) (lN (momN b)) (nI s1 - 1) (nI s2) (nI s3) (countB b) (nI a) mi).bind _ = _
        rw [hbody]
        exact i1'
    obtain ⟨m', i1, i2, i3⟩ := key (manyB b + 1) 0 m (by omega) hK NQ.rfl
    unfold k_bestPlans_41
    have := i1 FU (by show manyB b + 1 < 4000; omega)
    have hG0 : G 0 (0, 0, 0) = (0, 0, 0) := by rw [← hG]; rfl
    rw [hG0] at this
    rw [show ((-1 : Int32), (0 : Int32), (0 : Int32), (0 : Int32), m) = (nI 0 - 1, nI 0, nI 0, nI 0, m) from by congr 1, this]
    simp only [Option.bind_some]
    have hpb := PL_bd (rs := rs) (d + 1) hW (by omega)
    have hPG : PL rs (d + 1) b = G (manyB b + 1) (0, 0, 0) := by rw [← hG]; rfl
    rw [hPG] at hpb ⊢
    obtain ⟨p1, p2, p3⟩ := hpb.small (by omega)
    have p0 := hpb.1
    refine ⟨m', ?_, i2, i3⟩
    generalize G (manyB b + 1) (0, 0, 0) = x at *
    obtain ⟨x1, x2, x3⟩ := x
    simp only at p0 p1 p2 p3
    obtain ⟨x1', rfl⟩ : ∃ x', x1 = x' + 1 := ⟨x1 - 1, by omega⟩
    simp only
    rw [nI_pred, k_packed_eq (by omega) (by omega) (by omega)]
    rfl
