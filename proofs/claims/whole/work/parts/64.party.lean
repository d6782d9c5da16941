/-! parties: what is close, and all that hangs together -/
def inS (s j : Nat) : Bool := s.testBit j
theorem inS_mod {s j : Nat} : inS s j = decide (s / 2 ^ j % 2 = 1) := Nat.testBit_eq_decide_div_mod_eq
theorem inS_or {s i j : Nat} : inS (s ||| 2 ^ i) j = (inS s j || decide (i = j)) := by
  unfold inS
  rw [Nat.testBit_or, Nat.testBit_two_pow]
theorem or_lt64 {s i : Nat} (hs : s < 64) (hi : i < 6) : s ||| 2 ^ i < 64 := by
  have h2 : 2 ^ i < 2 ^ 6 := Nat.pow_lt_pow_right (by decide) hi
  exact Nat.or_lt_two_pow (n := 6) hs h2
theorem or_dec : ∀ s, s < 64 → ∀ i, i < 6 → nI s ||| ((1 : Int32) <<< (nI i &&& 31)) = nI (s ||| 2 ^ i) := by decide +kernel
def closed (n : Nat) (R : Nat → Nat → Bool) (T : Nat → Prop) : Prop := ∀ i j, i < n → j < n → T i → R i j = true → T j
def iterN (step : Nat → Nat) : Nat → Nat → Nat
  | 0, s => s
  | d + 1, s => step (iterN step d s)
def cntN (s : Nat) (n : Nat) : Nat := foldN (fun j c => c + (if inS s j then 1 else 0)) n 0
theorem cntN_le {s n : Nat} : cntN s n ≤ n := by
  induction n with
  | zero => exact Nat.le_refl _
  | succ n ih =>
    show cntN s n + (if inS s n then 1 else 0) ≤ n + 1
    split <;> omega
theorem cntN_mono {s t n : Nat} (h : ∀ j, inS s j = true → inS t j = true) : cntN s n ≤ cntN t n := by
  induction n with
  | zero => exact Nat.le_refl _
  | succ n ih =>
    show cntN s n + (if inS s n then 1 else 0) ≤ cntN t n + (if inS t n then 1 else 0)
    by_cases e : inS s n = true
    · rw [if_pos e, if_pos (h n e)]; omega
    · rw [if_neg e]; split <;> omega
theorem cntN_lt {s t n k : Nat} (h : ∀ j, inS s j = true → inS t j = true) (hk : k < n) (h1 : inS s k = false) (h2 : inS t k = true) : cntN s n < cntN t n := by
  induction n with
  | zero => omega
  | succ n ih =>
    show cntN s n + (if inS s n then 1 else 0) < cntN t n + (if inS t n then 1 else 0)
    by_cases e : k = n
    · subst e
      rw [h1, if_neg (by decide), if_pos h2]
      have := cntN_mono (n := k) h
      omega
    · have := ih (by omega)
      by_cases e2 : inS s n = true
      · rw [if_pos e2, if_pos (h n e2)]; omega
      · rw [if_neg e2]; split <;> omega
/-- what a round does: it grows, stays within what is closed, takes in what is close -/
def Grows (n : Nat) (R : Nat → Nat → Bool) (U : Nat → Prop) (step : Nat → Nat) : Prop :=
  (∀ s j, inS s j = true → inS (step s) j = true) ∧ (∀ (s : Nat) (T : Nat → Prop), closed n R T → (∀ j, inS s j = true → T j ∧ U j) → ∀ j, inS (step s) j = true → T j ∧ U j) ∧ (∀ s i j, i < n → j < n → inS s i = true → R i j = true → inS (step s) j = true)
theorem grow_n {n a s0 : Nat} {R : Nat → Nat → Bool} {U : Nat → Prop} {step : Nat → Nat} (hG : Grows n R U step) (ha : a < n) (hs : ∀ j, inS s0 j = true ↔ j = a) (hU : U a) : inS (iterN step n s0) a = true ∧ (∀ T, closed n R T → T a → ∀ j, inS (iterN step n s0) j = true → T j) ∧ closed n R (fun j => inS (iterN step n s0) j = true) := by
  have hin : ∀ d, inS (iterN step d s0) a = true := by
    intro d
    induction d with
    | zero => exact (hs a).mpr rfl
    | succ d ih => exact hG.1 _ _ ih
  have hsub : ∀ (T : Nat → Prop), closed n R T → T a → ∀ d j, inS (iterN step d s0) j = true → T j ∧ U j := by
    intro T hT hTa d
    induction d with
    | zero => intro j hj; rw [(hs j).mp hj]; exact ⟨hTa, hU⟩
    | succ d ih => exact hG.2.1 _ T hT ih
  have hcl : ∀ d, closed n R (fun j => inS (iterN step d s0) j = true) ∨ d + 1 ≤ cntN (iterN step d s0) n := by
    intro d
    induction d with
    | zero =>
      right
      have := cntN_lt (s := 0) (t := s0) (n := n) (k := a) (fun j hj => by simp [inS] at hj) ha (by simp [inS]) ((hs a).mpr rfl)
      show 1 ≤ cntN s0 n
      omega
    | succ d ih =>
      by_cases hc : closed n R (fun j => inS (iterN step d s0) j = true)
      · left
        have e : iterN step (d + 1) s0 = iterN step d s0 := by
          apply Nat.eq_of_testBit_eq
          intro j
          by_cases h1 : inS (iterN step d s0) j = true
          · exact (hG.1 _ _ h1).trans h1.symm
          · have h2 : ¬ inS (iterN step (d + 1) s0) j = true := fun q => h1 (hsub _ hc (hin d) (d + 1) j q).1
            exact (Bool.eq_false_iff.mpr h2).trans (Bool.eq_false_iff.mpr h1).symm
        rw [e]; exact hc
      · right
        rcases ih with ih | ih
        · exact absurd ih hc
        · unfold closed at hc
          simp only [Classical.not_forall] at hc
          obtain ⟨i, j, hi, hj, h1, h2, h3⟩ := hc
          have := cntN_lt (n := n) (k := j) (s := iterN step d s0) (t := iterN step (d + 1) s0) (fun q => hG.1 _ q) hj (Bool.eq_false_iff.mpr h3) (hG.2.2 _ i j hi hj h1 h2)
          omega
  refine ⟨hin n, fun T hT hTa j hj => (hsub T hT hTa n j hj).1, ?_⟩
  rcases hcl n with h | h
  · exact h
  · have := cntN_le (s := iterN step n s0) (n := n)
    omega
/-- two ways to grow end at the same -/
theorem grow_eq {n a s0 : Nat} {R : Nat → Nat → Bool} {U V : Nat → Prop} {st1 st2 : Nat → Nat} (h1 : Grows n R U st1) (h2 : Grows n R V st2) (ha : a < n) (hs : ∀ j, inS s0 j = true ↔ j = a) (hU : U a) (hV : V a) : iterN st1 n s0 = iterN st2 n s0 := by
  obtain ⟨a1, b1, c1⟩ := grow_n h1 ha hs hU
  obtain ⟨a2, b2, c2⟩ := grow_n h2 ha hs hV
  apply Nat.eq_of_testBit_eq
  intro j
  show inS _ j = inS _ j
  apply Bool.eq_iff_iff.mpr
  exact ⟨b1 _ c2 a2 j, b2 _ c1 a1 j⟩
def sideB (b : Nat → Int32) (k : Nat) : Int32 := sideV (leanB b k)
/-- of the same mind or the same bench -/
def nearB (b : Nat → Int32) (i j : Nat) : Bool := decide (b (37 + 5 * i + 3) = b (37 + 5 * j + 3)) || (decide (sideB b i = sideB b j) && !decide (sideB b i = 1))
def closeB (b : Nat → Int32) (i j : Nat) : Bool := nearB b i j && (decide (b (37 + 5 * i + 4) = 0) && decide (b (37 + 5 * j + 4) = 0))
theorem r_areClose_eq {m : M} {b : Nat → Int32} (hW : WF b) (hb : m 77 = b) {i j : Nat} (hi : i < 6) (hj : j < 6) : r_areClose (nI i) (nI j) m = some (b01 (closeB b i j)) := by
  have hWm : WF (m 77) := by rw [hb]; exact hW
  have g3 : ∀ k, k < 6 → r_get (nI k) (3 : Int32) m = some (b (37 + 5 * k + 3)) := fun k hk => by rw [← hb]; exact r_get_at (f := 3) hk (by decide)
  have g4 : ∀ k, k < 6 → r_get (nI k) (4 : Int32) m = some (b (37 + 5 * k + 4)) := fun k hk => by rw [← hb]; exact r_get_at (f := 4) hk (by decide)
  have gs : ∀ k, k < 6 → r_sideOf (nI k) m = some (sideB b k) := fun k hk => by rw [r_sideOf_eq hWm hk, hb]; rfl
  have h42 : r_areClose_42 (nI i) (nI j) 1 m = some (b01 (decide (b (37 + 5 * i + 4) = 0) && decide (b (37 + 5 * j + 4) = 0))) := by
    unfold r_areClose_42
    rw [if_neg (by decide), g4 i hi, g4 j hj]
    simp only [Option.bind_some]
    by_cases e1 : b (37 + 5 * i + 4) = 0
    · rw [if_pos e1, decide_eq_true e1]
      by_cases e2 : b (37 + 5 * j + 4) = 0
      · rw [if_pos e2, decide_eq_true e2]; rfl
      · rw [if_neg e2, decide_eq_false e2]; rfl
    · rw [if_neg e1, decide_eq_false e1]; rfl
  have h420 : r_areClose_42 (nI i) (nI j) 0 m = some 0 := by unfold r_areClose_42; rw [if_pos rfl]
  unfold r_areClose r_areClose_37 r_areClose_41 closeB nearB
  rw [g3 i hi, g3 j hj, gs i hi, gs j hj, h42, h420]
  simp only [Option.bind_some]
  by_cases e : b (37 + 5 * i + 3) = b (37 + 5 * j + 3)
  · rw [if_pos e, decide_eq_true e, Bool.true_or, Bool.true_and]
  · rw [if_neg e, decide_eq_false e, Bool.false_or]
    by_cases e1 : sideB b i = sideB b j
    · rw [if_pos e1, decide_eq_true e1, Bool.true_and]
      by_cases e2 : sideB b i = 1
      · rw [if_pos e2, decide_eq_true e2]; rfl
      · rw [if_neg e2, decide_eq_false e2, Bool.not_false, Bool.true_and]
    · rw [if_neg e1, decide_eq_false e1]; rfl
theorem nearB_symm {b : Nat → Int32} {i j : Nat} : nearB b i j = nearB b j i := by
  unfold nearB
  by_cases e : sideB b i = sideB b j
  · rw [e]
    congr 1
    exact decide_eq_decide.mpr eq_comm
  · rw [decide_eq_false e, decide_eq_false (Ne.symm e), Bool.false_and, Bool.false_and]
    congr 1
    exact decide_eq_decide.mpr eq_comm
/-- the reference's round -/
def rndR (b : Nat → Int32) (n : Nat) (s : Nat) : Nat := foldN (fun i s => foldN (fun j s => if inS s i && closeB b i j then s ||| 2 ^ j else s) n s) n s
/-- the class's round -/
def anyN (P : Nat → Bool) : Nat → Bool
  | 0 => false
  | n + 1 => anyN P n || P n
theorem anyN_iff {P : Nat → Bool} {n : Nat} : anyN P n = true ↔ ∃ i, i < n ∧ P i = true := by
  induction n with
  | zero => simp [anyN]
  | succ n ih =>
    simp only [anyN, Bool.or_eq_true, ih]
    constructor
    · rintro (⟨i, h1, h2⟩ | h)
      · exact ⟨i, by omega, h2⟩
      · exact ⟨n, by omega, h⟩
    · rintro ⟨i, h1, h2⟩
      by_cases e : i = n
      · subst e; exact Or.inr h2
      · exact Or.inl ⟨i, by omega, h2⟩
def toOneB (b : Nat → Int32) (n s j : Nat) : Bool := decide (b (37 + 5 * j + 4) = 0) && anyN (fun i => inS s i && nearB b j i) n
def rndK (b : Nat → Int32) (n : Nat) (s : Nat) : Nat := foldN (fun j s => if toOneB b n s j then s ||| 2 ^ j else s) n s
theorem grows_R {b : Nat → Int32} {n : Nat} : Grows n (closeB b) (fun _ => True) (rndR b n) := by
  have hm : ∀ (k i j s : Nat), inS s k = true → inS (if inS s i && closeB b i j then s ||| 2 ^ j else s) k = true := fun k i j s h => by
    split
    · rw [inS_or, h]; rfl
    · exact h
  have hmi : ∀ (k i n s : Nat), inS s k = true → inS (foldN (fun j s => if inS s i && closeB b i j then s ||| 2 ^ j else s) n s) k = true := fun k i n s h => foldN_inv (fun s => inS s k = true) h (fun j x _ hx => hm k i j x hx)
  refine ⟨fun s k h => foldN_inv (fun s => inS s k = true) h (fun i x _ hx => hmi k i n x hx), fun s T hT hs => ?_, fun s i j hi hj h1 h2 => ?_⟩
  · refine foldN_inv (fun s => ∀ j, inS s j = true → T j ∧ True) hs (fun i x hi hx => ?_)
    refine foldN_inv (fun s => ∀ j, inS s j = true → T j ∧ True) hx (fun j x hj hx k hk => ?_)
    split at hk
    · next hc =>
      rw [Bool.and_eq_true] at hc
      rw [inS_or, Bool.or_eq_true] at hk
      rcases hk with hk | hk
      · exact hx k hk
      · have e : j = k := of_decide_eq_true hk
        subst e
        exact ⟨hT i j hi hj (hx i hc.1).1 hc.2, trivial⟩
    · exact hx k hk
  · refine foldN_at (fun s => inS s i = true) (fun s => inS s j = true) hi h1 (fun k x _ hx => hmi i k n x hx) (fun x hx => ?_) (fun k x _ hx => hmi j k n x hx)
    refine foldN_at (fun s => inS s i = true) (fun s => inS s j = true) hj hx (fun k x _ hx => hm i i k x hx) (fun x hx => ?_) (fun k x _ hx => hm j i k x hx)
    rw [hx, h2, if_pos (by decide), inS_or, decide_eq_true rfl, Bool.or_true]
theorem grows_K {b : Nat → Int32} {n : Nat} : Grows n (closeB b) (fun j => b (37 + 5 * j + 4) = 0) (rndK b n) := by
  have hm : ∀ (k j s : Nat), inS s k = true → inS (if toOneB b n s j then s ||| 2 ^ j else s) k = true := fun k j s h => by
    split
    · rw [inS_or, h]; rfl
    · exact h
  refine ⟨fun s k h => foldN_inv (fun s => inS s k = true) h (fun j x _ hx => hm k j x hx), fun s T hT hs => ?_, fun s i j hi hj h1 h2 => ?_⟩
  · refine foldN_inv (fun s => ∀ j, inS s j = true → T j ∧ b (37 + 5 * j + 4) = 0) hs (fun j x hj hx k hk => ?_)
    split at hk
    · next hc =>
      unfold toOneB at hc
      rw [Bool.and_eq_true, anyN_iff] at hc
      obtain ⟨hc1, i, hi, hc2⟩ := hc
      rw [Bool.and_eq_true] at hc2
      rw [inS_or, Bool.or_eq_true] at hk
      rcases hk with hk | hk
      · exact hx k hk
      · have e : j = k := of_decide_eq_true hk
        subst e
        have hxi := hx i hc2.1
        refine ⟨hT i j hi hj hxi.1 ?_, of_decide_eq_true hc1⟩
        unfold closeB
        rw [nearB_symm, hc2.2, decide_eq_true hxi.2, hc1]; rfl
    · exact hx k hk
  · refine foldN_at (fun s => inS s i = true) (fun s => inS s j = true) hj h1 (fun k x _ hx => hm i k x hx) (fun x hx => ?_) (fun k x _ hx => hm j k x hx)
    unfold closeB at h2
    rw [Bool.and_eq_true, Bool.and_eq_true] at h2
    have : toOneB b n x j = true := by
      unfold toOneB
      rw [h2.2.2, Bool.true_and, anyN_iff]
      exact ⟨i, hi, by rw [hx, nearB_symm, h2.1]; rfl⟩
    rw [if_pos this, inS_or, decide_eq_true rfl, Bool.or_true]
def partyN (b : Nat → Int32) (a : Nat) : Nat := if b (37 + 5 * a + 4) = 0 then iterN (rndK b (manyB b)) (manyB b) (2 ^ a) else 0
theorem pow_in {a j : Nat} : inS (2 ^ a) j = true ↔ j = a := by
  unfold inS
  rw [Nat.testBit_two_pow]
  exact ⟨fun h => (of_decide_eq_true h).symm, fun h => decide_eq_true h.symm⟩
theorem party_eq {b : Nat → Int32} {a : Nat} (ha : a < manyB b) (h : b (37 + 5 * a + 4) = 0) : iterN (rndR b (manyB b)) (manyB b) (2 ^ a) = iterN (rndK b (manyB b)) (manyB b) (2 ^ a) :=
  grow_eq grows_R grows_K ha (fun _ => pow_in) trivial h
theorem rndK_lt {b : Nat → Int32} {n s : Nat} (hn : n ≤ 6) (hs : s < 64) : rndK b n s < 64 := foldN_inv (fun s => s < 64) hs (fun j x hj hx => by
  show (if toOneB b n x j then x ||| 2 ^ j else x) < 64
  split
  · exact or_lt64 hx (by omega)
  · exact hx)
theorem rndRi_lt {b : Nat → Int32} {n s i : Nat} (hn : n ≤ 6) (hs : s < 64) : foldN (fun j s => if inS s i && closeB b i j then s ||| 2 ^ j else s) n s < 64 := foldN_inv (fun s => s < 64) hs (fun j x hj hx => by
  show (if inS x i && closeB b i j then x ||| 2 ^ j else x) < 64
  split
  · exact or_lt64 hx (by omega)
  · exact hx)
theorem rndR_lt {b : Nat → Int32} {n s : Nat} (hn : n ≤ 6) (hs : s < 64) : rndR b n s < 64 := foldN_inv (fun s => s < 64) hs (fun i x hi hx => rndRi_lt hn hx)
theorem iterN_fold {step : Nat → Nat} {n s : Nat} : foldN (fun _ s => step s) n s = iterN step n s := by
  induction n with
  | zero => rfl
  | succ n ih => show step (foldN (fun _ s => step s) n s) = step (iterN step n s); rw [ih]
theorem pow_lt64 {a : Nat} (h : a < 6) : 2 ^ a < 64 := Nat.pow_lt_pow_right (a := 2) (n := 6) (by decide) h
theorem partyN_lt {b : Nat → Int32} (hW : WF b) {a : Nat} (h : a < 6) : partyN b a < 64 := by
  have h2 := hW.manyN.2
  unfold partyN
  split
  · rw [← iterN_fold]
    exact foldN_inv (fun s => s < 64) (pow_lt64 h) (fun i x _ hx => rndK_lt h2 hx)
  · decide
theorem nI_fold {g : Nat → Nat → Nat} {n s : Nat} : True := trivial
theorem loop_set {R : Type} {body : Int32 × Int32 → Option ((Int32 × Int32) ⊕ R)} {g : Nat → Nat → Nat} {fin : Nat → R} {s : Nat} (n : Nat) (hs : s < 64) (hP : ∀ i x, i < n → x < 64 → g i x < 64) (hstep : ∀ i x, i < n → x < 64 → body (nI x, nI i) = some (.inl (nI (g i x), nI (i + 1)))) (hend : ∀ x, x < 64 → body (nI x, nI n) = some (.inr (fin x))) (hn : n < 4000) : iter body FU (nI s, 0) = some (fin (foldN g n s)) := by
  have hinv : ∀ i, i ≤ n → foldN g i s < 64 := fun i hi => foldN_inv (fun s => s < 64) hs (fun j x hj => hP j x (by omega))
  exact iter_seq (body := body) (fun i => (nI (foldN g i s), nI i)) (r := fin (foldN g n s)) n (fun i hi => hstep i _ hi (hinv i (by omega))) (hend _ (hinv n (Nat.le_refl _))) hn
theorem r_partyOf_eq {m : M} {b : Nat → Int32} (hW : WF b) (hb : m 77 = b) {a : Nat} (ha : a < manyB b) : r_partyOf (nI a) m = some (nI (partyN b a)) := by
  obtain ⟨h1, h2⟩ := hW.manyN
  unfold r_partyOf r_partyOf_6
  rw [shl1 _ (by omega), ltE]
  rw [show ((nI (2 ^ a), (0 : Int32)) : Int32 × Int32) = (nI (2 ^ a), 0) from rfl, loop_set (body := fun z : Int32 × Int32 => r_partyOf_6b (nI a) z.1 z.2 m) (g := fun _ s => rndR b (manyB b) s) (fin := fun s => nI s) (s := 2 ^ a) (manyB b) (pow_lt64 (by omega)) (fun i x _ hx => rndR_lt h2 hx) (fun t x ht hx => by
    show r_partyOf_6b (nI a) (nI x) (nI t) m = _
    unfold r_partyOf_6b
    rw [rd77_6, hb, h1]
    simp only [Option.bind_some]
    rw [if_neg (nI_ge ht (by omega))]
    unfold r_partyOf_20
    rw [loop_set (body := fun z : Int32 × Int32 => r_partyOf_20b (nI a) z.1 (nI t) z.2 m) (g := fun i s => foldN (fun j s => if inS s i && closeB b i j then s ||| 2 ^ j else s) (manyB b) s) (fin := fun s => nI s) (s := x) (manyB b) hx (fun i x _ hx => rndRi_lt h2 hx) (fun i x hi hx => by
      show r_partyOf_20b (nI a) (nI x) (nI t) (nI i) m = _
      unfold r_partyOf_20b
      rw [rd77_6, hb, h1]
      simp only [Option.bind_some]
      rw [if_neg (nI_ge hi (by omega))]
      unfold r_partyOf_35
      rw [loop_set (body := fun z : Int32 × Int32 => r_partyOf_35b (nI a) z.1 (nI t) (nI i) z.2 m) (g := fun j s => if inS s i && closeB b i j then s ||| 2 ^ j else s) (fin := fun s => nI s) (s := x) (manyB b) hx (fun j x hj hx => by
        show (if inS x i && closeB b i j then x ||| 2 ^ j else x) < 64
        split
        · exact or_lt64 hx (by omega)
        · exact hx) (fun j x hj hx => by
        show r_partyOf_35b (nI a) (nI x) (nI t) (nI i) (nI j) m = _
        unfold r_partyOf_35b r_partyOf_76 r_partyOf_77
        rw [rd77_6, hb, h1]
        simp only [Option.bind_some]
        rw [if_neg (nI_ge hj (by omega)), bit_dec x hx i (by omega), r_areClose_eq hW hb (by omega) (by omega)]
        simp only [Option.bind_some]
        rw [ltE, ltE, ltE, ltE, nI_1, or_dec x hx j (by omega), inS_mod]
        have or0 : nI x ||| (0 : Int32) = nI x := Int32.or_zero
        rcases mod2 (x / 2 ^ i) with e | e
        · rw [e, if_neg (by decide), or0]; rfl
        · rw [e, if_pos (by decide), decide_eq_true rfl, Bool.true_and]
          cases closeB b i j
          · rw [if_pos (by decide), or0]; rfl
          · rw [if_neg (by decide), if_pos rfl]) (fun x _ => by
        show r_partyOf_35b (nI a) (nI x) (nI t) (nI i) (nI (manyB b)) m = _
        unfold r_partyOf_35b
        rw [rd77_6, hb, h1]
        simp only [Option.bind_some]
        rw [if_pos (Int32.le_refl _)]) (by omega)]
      simp only [Option.bind_some]
      rw [ltE, nI_1]) (fun x _ => by
      show r_partyOf_20b (nI a) (nI x) (nI t) (nI (manyB b)) m = _
      unfold r_partyOf_20b
      rw [rd77_6, hb, h1]
      simp only [Option.bind_some]
      rw [if_pos (Int32.le_refl _)]) (by omega)]
    simp only [Option.bind_some]
    rw [ltE, nI_1]
    rfl) (fun x _ => by
    show r_partyOf_6b (nI a) (nI x) (nI (manyB b)) m = _
    unfold r_partyOf_6b
    rw [rd77_6, hb, h1]
    simp only [Option.bind_some]
    rw [if_pos (Int32.le_refl _)]) (by omega), iterN_fold]
  simp only [Option.bind_some]
  rw [show r_get (nI a) (4 : Int32) m = some (m 77 (37 + 5 * a + 4)) from r_get_at (f := 4) (by omega) (by decide), hb]
  simp only [Option.bind_some]
  unfold partyN
  obtain ⟨e1, e2⟩ := hW.hNk (k := a) (by omega)
  rcases (show hN b a = 0 ∨ hN b a = 1 by omega) with e | e
  · have h0 : b (37 + 5 * a + 4) = 0 := by rw [e1, e]; rfl
    rw [if_pos h0, h0, if_neg (by decide), party_eq ha h0]
  · have h0 : b (37 + 5 * a + 4) = 1 := by rw [e1, e]; rfl
    rw [h0, if_pos rfl, if_neg (by decide)]; rfl
theorem k_toOne_eq {m : M} {b : Nat → Int32} (hW : WF b) (hK : KB m b) {s j : Nat} (hs : s < 64) (hj : j < 6) : k_isCloseToOneOf (nI s) (nI j) m = some (b01 (toOneB b (manyB b) s j)) := by
  obtain ⟨h1, h2⟩ := hW.manyN
  unfold k_isCloseToOneOf toOneB
  rw [b_isHeard_eq hK hW hj, b_leanOf_eq hK hW hj]
  simp only [Option.bind_some]
  by_cases e : b (37 + 5 * j + 4) = 0
  · rw [if_pos e, decide_eq_true e, Bool.true_and, k_side_eq]
    simp only [Option.bind_some]
    unfold k_isCloseToOneOf_28
    have key : ∀ (d i : Nat), i + d = manyB b → anyN (fun i => inS s i && nearB b j i) i = false → ∃ z : Unit ⊕ Unit, (∀ F, d < F → iter (fun z : Int32 => k_isCloseToOneOf_28b (nI s) (nI j) (sideB b j) z m) F (nI i) = some z) ∧ (match z with
        | .inl _ => some (0 : Int32)
        | .inr _ => some 1) = some (b01 (anyN (fun i => inS s i && nearB b j i) (manyB b))) := by
      intro d
      induction d with
      | zero =>
        intro i hi ha
        refine ⟨.inl (), fun F hF => ?_, ?_⟩
        · obtain ⟨F', rfl⟩ : ∃ F', F = F' + 1 := ⟨F - 1, by omega⟩
          show (k_isCloseToOneOf_28b (nI s) (nI j) (sideB b j) (nI i) m).bind _ = _
          unfold k_isCloseToOneOf_28b
          rw [hK.f6, h1, if_pos (by rw [show manyB b = i by omega]; exact Int32.le_refl _)]; rfl
        · rw [show manyB b = i by omega, ha]; rfl
      | succ d ih =>
        intro i hi ha
        have hbody : k_isCloseToOneOf_28b (nI s) (nI j) (sideB b j) (nI i) m = (if (inS s i && nearB b j i) = true then some (.inr (.inr ())) else some (.inl (nI (i + 1)))) := by
          unfold k_isCloseToOneOf_28b k_isCloseToOneOf_74 k_isCloseToOneOf_75 k_isCloseToOneOf_106
          rw [hK.f6, h1, if_neg (nI_ge (show i < manyB b by omega) (by omega)), k_isIn_nI hs (by omega), b_leanOf_eq hK hW (show i < 6 by omega), rd6 (by decide) hj, rd6 (by decide) (show i < 6 by omega), hK.seat hj, hK.seat (show i < 6 by omega)]
          simp only [Option.bind_some]
          rw [k_side_eq]
          simp only [Option.bind_some]
          rw [ltE, nI_1, inS_mod, show sideV (leanB b i) = sideB b i from rfl]
          unfold nearB
          rcases mod2 (s / 2 ^ i) with e | e
          · rw [e, if_pos (by decide)]; rfl
          · rw [e, if_neg (by decide), decide_eq_true rfl, Bool.true_and]
            by_cases c1 : b (37 + 5 * j + 3) = b (37 + 5 * i + 3)
            · rw [decide_eq_true c1, Bool.true_or, if_pos rfl, if_pos trivial, if_pos c1, if_neg (show ¬ (1 : Int32) = 0 by decide)]
              split
              · rfl
              · split <;> rfl
            · rw [decide_eq_false c1, Bool.false_or, if_pos trivial, if_neg c1, if_neg (show ¬ (1 : Int32) = 0 by decide)]
              by_cases c2 : sideB b j = 1
              · rw [if_pos c2, decide_eq_true c2, Bool.not_true, Bool.and_false, if_neg (by decide)]
              · rw [if_neg c2, decide_eq_false c2, Bool.not_false, Bool.and_true]
                by_cases c3 : sideB b j = sideB b i
                · rw [if_pos c3, decide_eq_true c3, if_pos rfl]
                · rw [if_neg c3, decide_eq_false c3, if_neg (by decide)]
        by_cases c : (inS s i && nearB b j i) = true
        · refine ⟨.inr (), fun F hF => ?_, ?_⟩
          · obtain ⟨F', rfl⟩ : ∃ F', F = F' + 1 := ⟨F - 1, by omega⟩
            show (k_isCloseToOneOf_28b (nI s) (nI j) (sideB b j) (nI i) m).bind _ = _
            rw [hbody, if_pos c]; rfl
          · rw [anyN_iff.mpr ⟨i, by omega, c⟩]; rfl
        · obtain ⟨z, hz, hv⟩ := ih (i + 1) (by omega) (by show (anyN (fun i => inS s i && nearB b j i) i || (inS s i && nearB b j i)) = false; rw [ha, Bool.eq_false_iff.mpr c]; rfl)
          refine ⟨z, fun F hF => ?_, hv⟩
          obtain ⟨F', rfl⟩ : ∃ F', F = F' + 1 := ⟨F - 1, by omega⟩
          show (k_isCloseToOneOf_28b (nI s) (nI j) (sideB b j) (nI i) m).bind _ = _
          rw [hbody, if_neg c]
          exact hz F' (by omega)
    obtain ⟨z, hz, hv⟩ := key (manyB b) 0 (by omega) rfl
    have := hz FU (by show manyB b < 4000; omega)
    rw [nI_0] at this
    rw [show sideV (leanB b j) = sideB b j from rfl, this]
    exact hv
  · rw [if_neg e, decide_eq_false e]; rfl
theorem k_partyOf_eq {m : M} {b : Nat → Int32} (hW : WF b) (hK : KB m b) {a : Nat} (ha : a < manyB b) : k_partyOf (nI a) m = some (nI (partyN b a)) := by
  obtain ⟨h1, h2⟩ := hW.manyN
  unfold k_partyOf partyN
  rw [b_isHeard_eq hK hW (by omega)]
  simp only [Option.bind_some]
  by_cases e : b (37 + 5 * a + 4) = 0
  · rw [if_pos e, if_pos e, shl1 _ (by omega), ltE]
    unfold k_partyOf_19
    rw [loop_set (body := fun z : Int32 × Int32 => k_partyOf_19b z.1 z.2 m) (g := fun _ s => rndK b (manyB b) s) (fin := fun s => nI s) (s := 2 ^ a) (manyB b) (pow_lt64 (by omega)) (fun i x _ hx => rndK_lt h2 hx) (fun t x ht hx => by
      show k_partyOf_19b (nI x) (nI t) m = _
      unfold k_partyOf_19b
      rw [hK.f6, h1, if_neg (nI_ge ht (by omega))]
      unfold k_partyOf_33
      rw [loop_set (body := fun z : Int32 × Int32 => k_partyOf_33b z.1 (nI t) z.2 m) (g := fun j s => if toOneB b (manyB b) s j then s ||| 2 ^ j else s) (fin := fun s => nI s) (s := x) (manyB b) hx (fun j x hj hx => by
        show (if toOneB b (manyB b) x j then x ||| 2 ^ j else x) < 64
        split
        · exact or_lt64 hx (by omega)
        · exact hx) (fun j x hj hx => by
        show k_partyOf_33b (nI x) (nI t) (nI j) m = _
        unfold k_partyOf_33b k_partyOf_62
        rw [hK.f6, h1, if_neg (nI_ge hj (by omega)), k_toOne_eq hW hK hx (by omega)]
        simp only [Option.bind_some]
        rw [ltE, ltE, ltE, nI_1, or_dec x hx j (by omega)]
        cases toOneB b (manyB b) x j
        · rw [if_pos (by decide)]; rfl
        · rw [if_neg (by decide)]; rfl) (fun x _ => by
        show k_partyOf_33b (nI x) (nI t) (nI (manyB b)) m = _
        unfold k_partyOf_33b
        rw [hK.f6, h1, if_pos (Int32.le_refl _)]) (by omega)]
      simp only [Option.bind_some]
      rw [ltE, nI_1]
      rfl) (fun x _ => by
      show k_partyOf_19b (nI x) (nI (manyB b)) m = _
      unfold k_partyOf_19b
      rw [hK.f6, h1, if_pos (Int32.le_refl _)]) (by omega), iterN_fold]
    rfl
  · rw [if_neg e, if_neg e]; rfl
theorem rm_tab : ∀ p, p < 64 → ∀ i, i < 6 → rmI (nI p) (nI (2 ^ i)) = some (nI (p % 2 ^ i)) ∧ (nI p &&& (nI (2 ^ i) - 1)) = nI (p % 2 ^ i) := by decide +kernel
def countPB (b : Nat → Int32) : Int32 := foldN (fun i c => if b (37 + 5 * i + 4) = 0 ∧ partyN b i % 2 ^ i = 0 then c + 1 else c) (manyB b) 0
def partiesV (b : Nat → Int32) (y : Int32) : Int32 := if y = -1 then countPB b else if memB b y = true then nI (partyN b y.toNatClampNeg) else -1
theorem partyN_ne {b : Nat → Int32} {a : Nat} (ha : a < manyB b) (h : b (37 + 5 * a + 4) = 0) : partyN b a ≠ 0 := by
  unfold partyN
  rw [if_pos h]
  intro q
  have := (grow_n (R := closeB b) grows_K ha (s0 := 2 ^ a) (fun _ => pow_in) h).1
  rw [q] at this
  simp [inS] at this
theorem k_parties_eq {m : M} {b : Nat → Int32} (hW : WF b) (hK : KB m b) (y : Int32) : k_parties y m = some (partiesV b y) := by
  obtain ⟨h1, h2⟩ := hW.manyN
  unfold k_parties partiesV
  by_cases e : y = -1
  · rw [if_pos e, if_pos e]
    unfold k_countOfParties k_countOfParties_4 countPB
    rw [loop_fold (body := fun z : Int32 × Int32 => k_countOfParties_4b z.1 z.2 m) (g := fun i c => if b (37 + 5 * i + 4) = 0 ∧ partyN b i % 2 ^ i = 0 then c + 1 else c) (fin := fun c => c) (manyB b) (fun _ => True) trivial (fun _ _ _ _ => trivial) (fun i x hi _ => by
      show k_countOfParties_4b x (nI i) m = _
      unfold k_countOfParties_4b k_countOfParties_45
      rw [hK.f6, h1, if_neg (nI_ge hi (by omega)), b_isHeard_eq hK hW (by omega), k_partyOf_eq hW hK hi, ltE, shl1 _ (by omega)]
      simp only [Option.bind_some]
      rw [(rm_tab _ (partyN_lt hW (by omega)) i (by omega)).2, ltE, ltE, ltE, nI_1]
      by_cases c1 : b (37 + 5 * i + 4) = 0
      · rw [if_pos c1]
        by_cases c2 : partyN b i % 2 ^ i = 0
        · rw [c2, if_pos (by decide), if_pos ⟨c1, rfl⟩]
        · have hlt : partyN b i % 2 ^ i < 2 ^ 31 := Nat.lt_of_le_of_lt (Nat.mod_le _ _) (by have := partyN_lt hW (show i < 6 by omega); omega)
          rw [if_neg (nI_ne0 (by omega) hlt), if_neg (fun q => c2 q.2)]
      · rw [if_neg c1, if_neg (fun q => c1 q.1)]) (fun x _ => by
      show k_countOfParties_4b x (nI (manyB b)) m = _
      unfold k_countOfParties_4b
      rw [hK.f6, h1, if_pos (Int32.le_refl _)]) (by omega)]
    rfl
  · rw [if_neg e, if_neg e, b_isMember_eq hK, Option.bind_some]
    by_cases h : memB b y = true
    · obtain ⟨k, hk1, hk, rfl⟩ := hW.mem h
      rw [h, if_neg (by decide), if_pos rfl, nI_clamp (by omega), k_partyOf_eq hW hK hk1]; rfl
    · rw [if_neg h, Bool.eq_false_iff.mpr h, if_pos (show b01 false = 0 from rfl)]
theorem r_parties_eq {m : M} {b : Nat → Int32} (hW : WF b) (hb : m 77 = b) (y : Int32) : r_parties y m = some (partiesV b y) := by
  obtain ⟨h1, h2⟩ := hW.manyN
  unfold r_parties partiesV
  by_cases e : y = -1
  · rw [if_pos e, if_pos e, e]
    unfold r_parties_15 r_parties_29 countPB
    rw [if_pos (by decide), loop_fold (body := fun z : Int32 × Int32 => r_parties_29b z.1 z.2 m) (g := fun i c => if b (37 + 5 * i + 4) = 0 ∧ partyN b i % 2 ^ i = 0 then c + 1 else c) (fin := fun c => c) (manyB b) (fun _ => True) trivial (fun _ _ _ _ => trivial) (fun i x hi _ => by
      show r_parties_29b x (nI i) m = _
      unfold r_parties_29b r_parties_66 r_parties_67
      rw [rd77_6, hb, h1]
      simp only [Option.bind_some]
      rw [if_neg (nI_ge hi (by omega)), r_partyOf_eq hW hb hi, shl1 _ (by omega)]
      simp only [Option.bind_some]
      have hp64 := partyN_lt hW (show i < 6 by omega)
      rw [(rm_tab _ hp64 i (by omega)).1, ltE, ltE, ltE, ltE, nI_1, Int32.add_zero]
      simp only [Option.bind_some]
      by_cases c1 : b (37 + 5 * i + 4) = 0
      · have hne := partyN_ne hi c1
        rw [if_neg (nI_ne0 (by omega) (by omega))]
        by_cases c2 : partyN b i % 2 ^ i = 0
        · rw [c2, if_pos (by decide), if_pos ⟨c1, rfl⟩]
        · have hlt : partyN b i % 2 ^ i < 2 ^ 31 := Nat.lt_of_le_of_lt (Nat.mod_le _ _) (by omega)
          rw [if_neg (nI_ne0 (by omega) hlt), if_neg (fun q => c2 q.2)]
      · have h0 : partyN b i = 0 := if_neg c1
        rw [h0, if_pos (by decide), if_neg (fun q => c1 q.1)]) (fun x _ => by
      show r_parties_29b x (nI (manyB b)) m = _
      unfold r_parties_29b
      rw [rd77_6, hb, h1]
      simp only [Option.bind_some]
      rw [if_pos (Int32.le_refl _)]) (by omega)]
    rfl
  · rw [if_neg e, if_neg e, r_isMember_eq hb, Option.bind_some]
    by_cases h : memB b y = true
    · obtain ⟨k, hk1, hk, rfl⟩ := hW.mem h
      unfold r_parties_15
      rw [h, if_neg (by decide), if_pos rfl, nI_clamp (by omega), if_neg (nI_pos (by omega)), r_partyOf_eq hW hb hk1]; rfl
    · rw [if_neg h, Bool.eq_false_iff.mpr h, if_pos (show b01 false = 0 from rfl)]
