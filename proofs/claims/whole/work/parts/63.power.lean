/-! sets of members; who turns the vote -/
theorem shl1 : ∀ n, n < 7 → (1 : Int32) <<< (nI n &&& 31) = nI (2 ^ n) := by decide +kernel
theorem b64 {n : Nat} (h : n ≤ 6) : 2 ^ n ≤ 64 := Nat.le_trans (Nat.pow_le_pow_right (by decide) h) (by decide)
theorem foldN_eq {α : Type} {g h : Nat → α → α} {n : Nat} {a : α} (e : ∀ i x, i < n → g i x = h i x) : foldN g n a = foldN h n a := by
  induction n with
  | zero => rfl
  | succ n ih =>
    show g n (foldN g n a) = h n (foldN h n a)
    rw [ih (fun i x hi => e i x (by omega)), e _ _ (by omega)]
theorem foldN_inv {α : Type} {g : Nat → α → α} {n : Nat} {a : α} (P : α → Prop) (h0 : P a) (hs : ∀ i x, i < n → P x → P (g i x)) : P (foldN g n a) := by
  induction n with
  | zero => exact h0
  | succ n ih => exact hs n _ (by omega) (ih (fun i x hi => hs i x (by omega)))
theorem foldN_at {α : Type} {g : Nat → α → α} {n k : Nat} {a : α} (Q P : α → Prop) (hk : k < n) (h0 : Q a) (hQ : ∀ i x, i < n → Q x → Q (g i x)) (hk2 : ∀ x, Q x → P (g k x)) (hP : ∀ i x, i < n → P x → P (g i x)) : P (foldN g n a) := by
  induction n with
  | zero => omega
  | succ n ih =>
    by_cases e : k = n
    · subst e
      exact hk2 _ (foldN_inv Q h0 (fun i x hi => hQ i x (by omega)))
    · exact hP n _ (by omega) (ih (by omega) (fun i x hi => hQ i x (by omega)) (fun i x hi => hP i x (by omega)))
/-- a loop that counts up is a fold -/
theorem loop_fold {α R : Type} {body : α × Int32 → Option ((α × Int32) ⊕ R)} {g : Nat → α → α} {fin : α → R} {a : α} (n : Nat) (P : α → Prop) (h0 : P a) (hP : ∀ i x, i < n → P x → P (g i x)) (hstep : ∀ i x, i < n → P x → body (x, nI i) = some (.inl (g i x, nI (i + 1)))) (hend : ∀ x, P x → body (x, nI n) = some (.inr (fin x))) (hn : n < 4000) : iter body FU (a, 0) = some (fin (foldN g n a)) := by
  have hinv : ∀ i, i ≤ n → P (foldN g i a) := fun i hi => foldN_inv P h0 (fun j x hj => hP j x (by omega))
  have := iter_seq (body := body) (fun i => (foldN g i a, nI i)) (r := fin (foldN g n a)) n (fun i hi => hstep i _ hi (hinv i (by omega))) (hend _ (hinv n (Nat.le_refl _))) hn
  exact this
def sumW (b : Nat → Int32) (s : Nat) (n : Nat) : Int32 := foldN (fun j c => if s / 2 ^ j % 2 = 1 then c + weighB b j else c) n 0
def popN (s : Nat) (n : Nat) : Nat := foldN (fun j c => c + s / 2 ^ j % 2) n 0
def factN : Nat → Nat
  | 0 => 1
  | n + 1 => (n + 1) * factN n
theorem rord_tab : ∀ c, c < 6 → r_ordersOf (nI c) (fun _ _ => 0) = some (nI (factN c)) := by decide +kernel
theorem r_ordersOf_eq {m : M} {c : Nat} (h : c < 6) : r_ordersOf (nI c) m = some (nI (factN c)) := rord_tab c h
theorem kord_tab1 : ∀ n, n < 7 → ∀ k, k < n → ∀ s, s < 2 ^ n → (s / 2 ^ k % 2 = 1 ∨ popN s n < n) := by decide +kernel
theorem kord_tab2 : ∀ n, n < 7 → ∀ k, k < n → ∀ s, s < 2 ^ n → (s / 2 ^ k % 2 = 1 ∨ k_ordersOf (nI s) (fun _ _ => 0) = some (nI (factN (popN s n)))) := by decide +kernel
theorem kord_tab3 : ∀ n, n < 7 → ∀ k, k < n → ∀ s, s < 2 ^ n → (s / 2 ^ k % 2 = 1 ∨ k_ordersOf (((nI (2 ^ n) - 1) ^^^ nI s) ^^^ nI (2 ^ k)) (fun _ _ => 0) = some (nI (factN (n - 1 - popN s n)))) := by decide +kernel
theorem kord_tab (n : Nat) (hn : n < 7) (k : Nat) (hk : k < n) (s : Nat) (hs : s < 2 ^ n) (h : s / 2 ^ k % 2 = 0) : popN s n < n ∧ k_ordersOf (nI s) (fun _ _ => 0) = some (nI (factN (popN s n))) ∧ k_ordersOf (((nI (2 ^ n) - 1) ^^^ nI s) ^^^ nI (2 ^ k)) (fun _ _ => 0) = some (nI (factN (n - 1 - popN s n))) :=
  ⟨(kord_tab1 n hn k hk s hs).resolve_left (by omega), (kord_tab2 n hn k hk s hs).resolve_left (by omega), (kord_tab3 n hn k hk s hs).resolve_left (by omega)⟩
theorem k_ordersOf_m {x : Int32} {m : M} : k_ordersOf x m = k_ordersOf x (fun _ _ => 0) := rfl
theorem all_tab : ∀ n, n < 7 → ∀ j, j < n → (2 ^ n - 1) / 2 ^ j % 2 = 1 := by decide +kernel
theorem mod2 (x : Nat) : x % 2 = 0 ∨ x % 2 = 1 := by omega
theorem nI01 {x : Nat} : (nI (x % 2) = 0 ↔ x % 2 = 0) ∧ (nI (x % 2) = 1 ↔ x % 2 = 1) := by
  rcases mod2 x with e | e <;> rw [e] <;> decide
theorem k_weightOfSet_eq {m : M} {b : Nat → Int32} (hK : KB m b) (hW : WF b) {s : Nat} (hs : s < 64) : k_weightOfSet (nI s) m = some (sumW b s (manyB b)) := by
  obtain ⟨h1, h2⟩ := hW.manyN
  unfold k_weightOfSet k_weightOfSet_4 sumW
  rw [loop_fold (body := fun z : Int32 × Int32 => k_weightOfSet_4b (nI s) z.1 z.2 m) (g := fun j c => if s / 2 ^ j % 2 = 1 then c + weighB b j else c) (fin := fun c => c) (manyB b) (fun _ => True) trivial (fun _ _ _ _ => trivial) (fun i x hi _ => by
    show k_weightOfSet_4b (nI s) x (nI i) m = _
    unfold k_weightOfSet_4b k_weightOfSet_34
    rw [hK.f6, h1, if_neg (nI_ge hi (by omega)), k_isIn_nI hs (by omega), b_weightOf_eq hK hW (by omega)]
    simp only [Option.bind_some]
    rw [ltE, ltE, ltE, nI_1]
    rcases mod2 (s / 2 ^ i) with e | e
    · rw [e, if_pos (by decide), if_neg (by decide)]
    · rw [e, if_neg (by decide), if_pos rfl]) (fun x _ => by
    show k_weightOfSet_4b (nI s) x (nI (manyB b)) m = _
    unfold k_weightOfSet_4b
    rw [hK.f6, h1, if_pos (Int32.le_refl _)]) (by omega)]
  rfl
def addP (b : Nat → Int32) (k s : Nat) : Int32 :=
  if s / 2 ^ k % 2 = 0 then (if sumW b (2 ^ manyB b - 1) (manyB b) < 2 * sumW b s (manyB b) then 0 else if 2 * (sumW b s (manyB b) + weighB b k) ≤ sumW b (2 ^ manyB b - 1) (manyB b) then 0 else nI (factN (popN s (manyB b))) * nI (factN (manyB b - 1 - popN s (manyB b)))) else 0
def powerV (b : Nat → Int32) (y : Int32) : Int32 := if memB b y = true then foldN (fun s c => c + addP b y.toNatClampNeg s) (2 ^ manyB b) 0 else -1
theorem k_power_eq {m : M} {b : Nat → Int32} (hW : WF b) (hK : KB m b) (y : Int32) : k_power y m = some (powerV b y) := by
  obtain ⟨h1, h2⟩ := hW.manyN
  unfold k_power powerV
  rw [b_isMember_eq hK, Option.bind_some]
  by_cases h : memB b y = true
  · obtain ⟨k, hk1, hk, rfl⟩ := hW.mem h
    have h64 := b64 h2
    have hp : 0 < 2 ^ manyB b := Nat.pow_pos (by decide)
    rw [h, if_neg (by decide), if_pos rfl, nI_clamp (by omega), hK.f6, h1, ltE, shl1 _ (by omega), b_weightOf_eq hK hW hk]
    rw [show nI (2 ^ manyB b) - 1 = nI (2 ^ manyB b - 1) from pk_sub (b := 1) hp, k_weightOfSet_eq hK hW (by omega)]
    simp only [Option.bind_some]
    unfold k_power_47
    rw [loop_fold (body := fun z : Int32 × Int32 => k_power_47b (nI k) (nI (2 ^ manyB b)) (sumW b (2 ^ manyB b - 1) (manyB b)) (weighB b k) z.1 z.2 m) (g := fun s c => c + addP b k s) (fin := fun c => c) (2 ^ manyB b) (fun _ => True) trivial (fun _ _ _ _ => trivial) (fun s x hs _ => by
      show k_power_47b (nI k) (nI (2 ^ manyB b)) (sumW b (2 ^ manyB b - 1) (manyB b)) (weighB b k) x (nI s) m = _
      unfold k_power_47b k_power_117 addP
      rw [if_neg (nI_ge hs (by omega)), k_isIn_nI (by omega) hk, k_weightOfSet_eq hK hW (by omega)]
      simp only [Option.bind_some]
      rcases mod2 (s / 2 ^ k) with e | e
      · rw [e, if_pos (by decide), if_pos rfl]
        obtain ⟨t1, t2, t3⟩ := kord_tab (manyB b) (by omega) k hk1 s hs e
        by_cases c1 : sumW b (2 ^ manyB b - 1) (manyB b) < 2 * sumW b s (manyB b)
        · rw [if_pos c1, if_pos c1, ltE, nI_1, Int32.add_zero]
        · rw [if_neg c1, if_neg c1]
          by_cases c2 : 2 * (sumW b s (manyB b) + weighB b k) ≤ sumW b (2 ^ manyB b - 1) (manyB b)
          · rw [if_pos c2, if_pos c2, ltE, nI_1, Int32.add_zero]
          · rw [if_neg c2, if_neg c2, ltE, shl1 _ (by omega), k_ordersOf_m, t2]
            simp only [Option.bind_some]
            rw [k_ordersOf_m, t3]
            simp only [Option.bind_some]
            rw [ltE, ltE, nI_1]
      · rw [e, if_neg (by decide), if_neg (by decide), ltE, nI_1, Int32.add_zero]) (fun x _ => by
      show k_power_47b (nI k) (nI (2 ^ manyB b)) (sumW b (2 ^ manyB b - 1) (manyB b)) (weighB b k) x (nI (2 ^ manyB b)) m = _
      unfold k_power_47b
      rw [if_pos (Int32.le_refl _)]) (by omega)]
    rfl
  · rw [if_neg h, Bool.eq_false_iff.mpr h, if_pos (show b01 false = 0 from rfl)]
theorem r_power_eq {m : M} {b : Nat → Int32} (hW : WF b) (hb : m 77 = b) (y : Int32) : r_power y m = some (powerV b y) := by
  obtain ⟨h1, h2⟩ := hW.manyN
  have hWm : WF (m 77) := by rw [hb]; exact hW
  unfold r_power powerV
  rw [r_isMember_eq hb, Option.bind_some]
  by_cases h : memB b y = true
  · obtain ⟨k, hk1, hk, rfl⟩ := hW.mem h
    have h64 := b64 h2
    have hp : 0 < 2 ^ manyB b := Nat.pow_pos (by decide)
    rw [h, if_neg (by decide), if_pos rfl, nI_clamp (by omega)]
    unfold r_power_14
    have htot : foldN (fun j c => c + weighB b j) (manyB b) 0 = sumW b (2 ^ manyB b - 1) (manyB b) := foldN_eq (fun i x hi => by
      show x + weighB b i = if (2 ^ manyB b - 1) / 2 ^ i % 2 = 1 then x + weighB b i else x
      rw [if_pos (all_tab _ (by omega) i hi)])
    rw [loop_fold (body := fun z : Int32 × Int32 => r_power_14b (nI k) z.1 z.2 m) (g := fun j c => c + weighB b j) (fin := fun c => c) (manyB b) (fun _ => True) trivial (fun _ _ _ _ => trivial) (fun i x hi _ => by
      show r_power_14b (nI k) x (nI i) m = _
      unfold r_power_14b
      rw [rd77_6, hb, h1]
      simp only [Option.bind_some]
      rw [if_neg (nI_ge hi (by omega)), r_weighsOf_eq hWm (by omega), hb]
      simp only [Option.bind_some]
      rw [ltE, ltE, nI_1]) (fun x _ => by
      show r_power_14b (nI k) x (nI (manyB b)) m = _
      unfold r_power_14b
      rw [rd77_6, hb, h1]
      simp only [Option.bind_some]
      rw [if_pos (Int32.le_refl _)]) (by omega), htot]
    simp only [Option.bind_some]
    unfold r_power_44
    rw [loop_fold (body := fun z : Int32 × Int32 => r_power_44b (nI k) (sumW b (2 ^ manyB b - 1) (manyB b)) z.1 z.2 m) (g := fun s c => c + addP b k s) (fin := fun c => c) (2 ^ manyB b) (fun _ => True) trivial (fun _ _ _ _ => trivial) (fun s x hs _ => by
      show r_power_44b (nI k) (sumW b (2 ^ manyB b - 1) (manyB b)) x (nI s) m = _
      unfold r_power_44b
      rw [rd77_6, hb, h1]
      simp only [Option.bind_some]
      rw [shl1 _ (by omega), if_neg (nI_ge hs (by omega))]
      unfold r_power_67
      have hin := iter_seq (body := fun z : Int32 × Int32 × Int32 => r_power_67b (nI k) (sumW b (2 ^ manyB b - 1) (manyB b)) x (nI s) z.1 z.2.1 z.2.2 m) (fun i => (sumW b s i, nI (popN s i), nI i)) (r := (sumW b s (manyB b), nI (popN s (manyB b)))) (manyB b) (fun i hi => by
        show r_power_67b (nI k) (sumW b (2 ^ manyB b - 1) (manyB b)) x (nI s) (sumW b s i) (nI (popN s i)) (nI i) m = _
        unfold r_power_67b r_power_102
        rw [rd77_6, hb, h1]
        simp only [Option.bind_some]
        rw [if_neg (nI_ge hi (by omega)), bit_dec s (by omega) i (by omega), r_weighsOf_eq hWm (by omega), hb]
        simp only [Option.bind_some]
        rw [ltE, ltE, ltE, ltE, ltE, ltE, nI_1, nI_add]
        have es : sumW b s (i + 1) = if s / 2 ^ i % 2 = 1 then sumW b s i + weighB b i else sumW b s i := rfl
        have ep : popN s (i + 1) = popN s i + s / 2 ^ i % 2 := rfl
        rw [es, ep]
        rcases mod2 (s / 2 ^ i) with e | e
        · rw [e, if_neg (by decide), if_neg (by decide), Int32.add_zero]
        · rw [e, if_pos (by decide), if_pos rfl]) (by
        show r_power_67b (nI k) (sumW b (2 ^ manyB b - 1) (manyB b)) x (nI s) _ _ (nI (manyB b)) m = _
        unfold r_power_67b
        rw [rd77_6, hb, h1]
        simp only [Option.bind_some]
        rw [if_pos (Int32.le_refl _)]) (by omega)
      rw [show ((0 : Int32), (0 : Int32), (0 : Int32)) = (fun i => (sumW b s i, nI (popN s i), nI i)) 0 from rfl, hin]
      simp only [Option.bind_some]
      rw [bit_dec s (by omega) k hk, r_weighsOf_eq hWm hk, hb]
      simp only [Option.bind_some]
      unfold r_power_158 r_power_159 r_power_192 addP
      rw [rd77_6, hb, h1]
      simp only [Option.bind_some]
      rcases mod2 (s / 2 ^ k) with e | e
      · rw [e, if_pos (by decide), if_pos rfl]
        obtain ⟨t1, t2, t3⟩ := kord_tab (manyB b) (by omega) k hk1 s hs e
        by_cases c1 : sumW b (2 ^ manyB b - 1) (manyB b) < 2 * sumW b s (manyB b)
        · rw [if_pos c1, if_pos c1, if_pos trivial, ltE, ltE, nI_1]
        · rw [if_neg c1, if_neg c1]
          by_cases c2 : 2 * (sumW b s (manyB b) + weighB b k) ≤ sumW b (2 ^ manyB b - 1) (manyB b)
          · rw [if_pos c2, if_pos c2, if_pos trivial, ltE, ltE, nI_1]
          · rw [if_neg c2, if_neg c2, if_neg (by decide), r_ordersOf_eq (by omega)]
            simp only [Option.bind_some]
            rw [show nI (manyB b) - 1 - nI (popN s (manyB b)) = nI (manyB b - 1 - popN s (manyB b)) from by rw [show nI (manyB b) - 1 = nI (manyB b - 1) from pk_sub (b := 1) (by omega), pk_sub (by omega)], r_ordersOf_eq (by omega)]
            simp only [Option.bind_some]
            rw [ltE, ltE, nI_1]
      · rw [e, if_neg (show ¬ nI 1 = 0 by decide), if_neg (show ¬ (1 : Nat) = 0 by decide), if_pos trivial, ltE, ltE, nI_1]) (fun x _ => by
      show r_power_44b (nI k) (sumW b (2 ^ manyB b - 1) (manyB b)) x (nI (2 ^ manyB b)) m = _
      unfold r_power_44b
      rw [rd77_6, hb, h1]
      simp only [Option.bind_some]
      rw [shl1 _ (by omega), if_pos (Int32.le_refl _)]) (by omega)]
    rfl
  · rw [if_neg h, Bool.eq_false_iff.mpr h, if_pos (show b01 false = 0 from rfl)]
