/-! the class's conditions; rules as lists; the will on both sides -/
def nb (x : Bool) : Nat := if x then 1 else 0
theorem nb_b01 (x : Bool) : nI (nb x) = b01 x := by cases x <;> decide
theorem bq_shl : ∀ t, t < 1024 → (nI t <<< ((1 : Int32) &&& 31)) ||| 0 = nI (2 * t + nb false) ∧ (nI t <<< ((1 : Int32) &&& 31)) ||| 1 = nI (2 * t + nb true) := by decide +kernel
theorem bq_not : ∀ t, t < 1024 → nI (2 * t + nb false) ^^^ 1 = nI (2 * t + nb true) ∧ nI (2 * t + nb true) ^^^ 1 = nI (2 * t + nb false) := by decide +kernel
theorem bq_and : ∀ t, t < 1024 → ∀ x y : Bool, (nI (2 * (2 * t + nb x) + nb y) >>> ((1 : Int32) &&& 31)) &&& ((nI (2 * (2 * t + nb x) + nb y) &&& 1) - 2) = nI (2 * t + nb (x && y)) := by decide +kernel
theorem bq_or : ∀ t, t < 1024 → ∀ x y : Bool, (nI (2 * (2 * t + nb x) + nb y) >>> ((1 : Int32) &&& 31)) ||| (nI (2 * (2 * t + nb x) + nb y) &&& 1) = nI (2 * t + nb (x || y)) := by decide +kernel
theorem bq_low : ∀ x : Bool, ((nI (2 * 1 + nb x) &&& 1) = 1) ↔ x = true := by decide +kernel
theorem len28 : len 28 = 8 := by decide
theorem len29 : len 29 = 200 := by decide
theorem rd28 {m : M} {j : Nat} (h : j < 8) : rdI m 28 (nI j) = some (m 28 j) := rdI_at (by rw [len28]; exact h) (by rw [len28]; decide)
theorem rd29 {m : M} {j : Nat} (h : j < 200) : rdI m 29 (nI j) = some (m 29 j) := rdI_at (by rw [len29]; exact h) (by rw [len29]; decide)
theorem u_valueOf_val {m : M} {b : Nat → Int32} {k c : Nat} (hK : KB m b) (hk : k < 6) (h1 : 13 ≤ c) (h2 : c ≤ 10017) : u_valueOf (nI c) (nI k) m = some ((envB b k).val c) := by
  by_cases h3 : c < 18
  · rcases (show c = 13 ∨ c = 14 ∨ c = 15 ∨ c = 16 ∨ c = 17 by omega) with e | e | e | e | e <;> subst e
    · show (if nI 13 = 13 then some (m 1 0) else _) = some (b 0)
      rw [if_pos (by decide), hK.f0]
    · unfold u_valueOf
      rw [if_neg (by decide : ¬ nI 14 = 13), if_pos (by decide : nI 14 = 14), rd6 (by decide) hk, hK.greed hk]; rfl
    · unfold u_valueOf
      rw [if_neg (by decide : ¬ nI 15 = 13), if_neg (by decide : ¬ nI 15 = 14), if_pos (by decide : nI 15 = 15), rd6 (by decide) hk, hK.votes hk]; rfl
    · unfold u_valueOf
      rw [if_neg (by decide : ¬ nI 16 = 13), if_neg (by decide : ¬ nI 16 = 14), if_neg (by decide : ¬ nI 16 = 15), if_pos (by decide : nI 16 = 16), hK.f2]; rfl
    · unfold u_valueOf
      rw [if_neg (by decide : ¬ nI 17 = 13), if_neg (by decide : ¬ nI 17 = 14), if_neg (by decide : ¬ nI 17 = 15), if_neg (by decide : ¬ nI 17 = 16), if_pos (by decide : nI 17 = 17)]; rfl
  · have e : ∀ j, j < 18 → ¬ nI c = nI j := fun j hj h => by
      have := (nI_eq (a := c) (b := j) (by omega) (by omega)).mp h
      omega
    unfold u_valueOf
    rw [show (13 : Int32) = nI 13 by decide, show (14 : Int32) = nI 14 by decide, show (15 : Int32) = nI 15 by decide, show (16 : Int32) = nI 16 by decide, show (17 : Int32) = nI 17 by decide, show (18 : Int32) = nI 18 by decide]
    rw [if_neg (e 13 (by omega)), if_neg (e 14 (by omega)), if_neg (e 15 (by omega)), if_neg (e 16 (by omega)), if_neg (e 17 (by omega)), pk_sub (by omega)]
    unfold EV.val
    rw [if_neg (by omega), if_neg (by omega), if_neg (by omega), if_neg (by omega), if_neg (by omega)]
/-- what the class's body reads at a place of the steps -/
theorem uh_at {m : M} {r i E v : Nat} {a3 a4 : Int32} (hr : r < 8) (hE : m 28 r = nI E) (hE2 : E ≤ 200) (hi : i < E) (hv : m 29 i = nI v) : u_holds_21b (nI r) a3 a4 (nI i) m = (if nI v = 12 then lt (a4 ^^^ 1) (fun w11 : Int32 => u_holds_170 (nI r) a3 w11 (nI i) m) else (if nI v = 11 then lt ((a4 >>> ((1 : Int32) &&& 31)) &&& ((a4 &&& 1) - 2)) (fun w10 : Int32 => u_holds_170 (nI r) a3 w10 (nI i) m) else (if nI v = 10 then lt ((a4 >>> ((1 : Int32) &&& 31)) ||| (a4 &&& 1)) (fun w9 : Int32 => u_holds_170 (nI r) a3 w9 (nI i) m) else (if (200 : Int32) ≤ (nI i + 2) then u_holds_170 (nI r) a3 a4 (nI i) m else Option.bind (rdI m 29 (nI i + 1)) (fun v4 => Option.bind (u_valueOf v4 a3 m) (fun v5 => Option.bind (rdI m 29 (nI i + 2)) (fun v6 => Option.bind (u_valueOf v6 a3 m) (fun v7 => Option.bind (u_isSo v5 (nI v) v7 m) (fun v8 => (if v8 = 0 then u_holds_164 (nI r) a3 (nI i) (a4 <<< ((1 : Int32) &&& 31)) 0 m else u_holds_164 (nI r) a3 (nI i) (a4 <<< ((1 : Int32) &&& 31)) 1 m)))))))))) := by
  unfold u_holds_21b
  rw [rd28 hr, hE]
  simp only [Option.bind_some]
  rw [if_neg (nI_ge hi (by omega)), rd29 (by omega), hv]
  simp only [Option.bind_some]
  rw [ltE]
theorem uh_not {m : M} {r i E t : Nat} {a3 : Int32} {x : Bool} (hr : r < 8) (hE : m 28 r = nI E) (hE2 : E ≤ 200) (hi : i < E) (hv : m 29 i = nI 12) (ht : t < 1024) : u_holds_21b (nI r) a3 (nI (2 * t + nb x)) (nI i) m = some (.inl (nI (2 * t + nb !x), nI (i + 1))) := by
  rw [uh_at hr hE hE2 hi hv, if_pos (by decide), ltE]
  unfold u_holds_170
  rw [ltE, nI_1]
  cases x
  · rw [(bq_not t ht).1]; rfl
  · rw [(bq_not t ht).2]; rfl
theorem uh_and {m : M} {r i E t : Nat} {a3 : Int32} {x y : Bool} (hr : r < 8) (hE : m 28 r = nI E) (hE2 : E ≤ 200) (hi : i < E) (hv : m 29 i = nI 11) (ht : t < 1024) : u_holds_21b (nI r) a3 (nI (2 * (2 * t + nb x) + nb y)) (nI i) m = some (.inl (nI (2 * t + nb (x && y)), nI (i + 1))) := by
  rw [uh_at hr hE hE2 hi hv, if_neg (by decide), if_pos (by decide), ltE, bq_and t ht]
  unfold u_holds_170
  rw [ltE, nI_1]
theorem uh_or {m : M} {r i E t : Nat} {a3 : Int32} {x y : Bool} (hr : r < 8) (hE : m 28 r = nI E) (hE2 : E ≤ 200) (hi : i < E) (hv : m 29 i = nI 10) (ht : t < 1024) : u_holds_21b (nI r) a3 (nI (2 * (2 * t + nb x) + nb y)) (nI i) m = some (.inl (nI (2 * t + nb (x || y)), nI (i + 1))) := by
  rw [uh_at hr hE hE2 hi hv, if_neg (by decide), if_neg (by decide), if_pos (by decide), ltE, bq_or t ht]
  unfold u_holds_170
  rw [ltE, nI_1]
theorem cmpG {x y : Int32} {m : M} {s : Nat} (hs : s = 10018 ∨ s = 10019 ∨ s = 10020) : u_isSo x (nI s) y m = some (b01 (if s = 10018 then decide (x < y) else if s = 10019 then decide (x = y) else decide (y < x))) := by
  unfold u_isSo
  rcases hs with e | e | e <;> subst e
  · rw [if_pos (by decide), if_pos rfl]
    by_cases h : y ≤ x
    · rw [if_pos h, decide_eq_false (Int32.not_lt.mpr h)]; rfl
    · rw [if_neg h, decide_eq_true (Int32.not_le.mp h)]; rfl
  · rw [if_neg (by decide : ¬ nI 10019 = 10018), if_pos (by decide : nI 10019 = 10019), if_neg (by decide : ¬ (10019 = 10018)), if_pos rfl]
    by_cases h : x = y
    · rw [if_pos h, decide_eq_true h]; rfl
    · rw [if_neg h, decide_eq_false h]; rfl
  · rw [if_neg (by decide : ¬ nI 10020 = 10018), if_neg (by decide : ¬ nI 10020 = 10019), if_neg (by decide : ¬ (10020 = 10018)), if_neg (by decide : ¬ (10020 = 10019))]
    by_cases h : x ≤ y
    · rw [if_pos h, decide_eq_false (Int32.not_lt.mpr h)]; rfl
    · rw [if_neg h, decide_eq_true (Int32.not_le.mp h)]; rfl
theorem uh_cmp {m : M} {b : Nat → Int32} {r k i E t l s u : Nat} (hK : KB m b) (hk : k < 6) (hr : r < 8) (hE : m 28 r = nI E) (hE2 : E ≤ 200) (hi : i + 3 ≤ E) (hs : s = 10018 ∨ s = 10019 ∨ s = 10020) (hl : 13 ≤ l ∧ l ≤ 10017) (hu : 13 ≤ u ∧ u ≤ 10017) (h1 : m 29 i = nI s) (h2 : m 29 (i + 1) = nI l) (h3 : m 29 (i + 1 + 1) = nI u) (ht : t < 1024) : u_holds_21b (nI r) (nI k) (nI t) (nI i) m = some (.inl (nI (2 * t + nb (CD.ev (envB b k) (CD.cmp l s u))), nI (i + 3))) := by
  have e : ∀ j, j < 18 → ¬ nI s = nI j := fun j hj h => by
    have := (nI_eq (a := s) (b := j) (by omega) (by omega)).mp h
    omega
  have d2 : nI i + 2 = nI (i + 2) := nI_add i 2
  have d1 : nI i + 1 = nI (i + 1) := nI_add i 1
  rw [uh_at hr hE hE2 (by omega) h1, if_neg (show ¬ nI s = 12 from e 12 (by omega)), if_neg (show ¬ nI s = 11 from e 11 (by omega)), if_neg (show ¬ nI s = 10 from e 10 (by omega)), d2, d1, if_neg (show ¬ (200 : Int32) ≤ nI (i + 2) from nI_ge (a := i + 2) (b := 200) (by omega) (by decide)), rd29 (by omega), h2]
  simp only [Option.bind_some]
  rw [u_valueOf_val hK hk hl.1 hl.2]
  simp only [Option.bind_some]
  rw [rd29 (by omega), show i + 2 = i + 1 + 1 from rfl, h3]
  simp only [Option.bind_some]
  rw [u_valueOf_val hK hk hu.1 hu.2]
  simp only [Option.bind_some]
  rw [cmpG hs]
  simp only [Option.bind_some]
  unfold u_holds_164 u_holds_170
  generalize hc : (if s = 10018 then decide ((envB b k).val l < (envB b k).val u) else if s = 10019 then decide ((envB b k).val l = (envB b k).val u) else decide ((envB b k).val u < (envB b k).val l)) = z
  have hz : CD.ev (envB b k) (CD.cmp l s u) = z := hc
  rw [hz]
  have q := bq_shl t ht
  have e2 : nI i + 2 + 1 = nI (i + 3) := by rw [n2, n1, nI_add, nI_add]
  cases z
  · rw [if_pos (by decide)]
    simp only [ltE]
    rw [q.1, e2]
  · rw [if_neg (by decide)]
    simp only [ltE]
    rw [q.2, e2]
/-- the class's condition, on the bits of the truths that wait -/
theorem cls_run {m : M} {b : Nat → Int32} {r k E : Nat} (hK : KB m b) (hr : r < 8) (hk : k < 6) (hE : m 28 r = nI E) (hE2 : E ≤ 200) : ∀ (c : CD), c.ok → ∀ {i t : Nat}, i + c.cc.length ≤ E → CodeAt (m 29) i c.cc → (t + 1) * 2 ^ c.dep ≤ 2048 → ∃ n, n ≤ c.cc.length ∧ Run (fun z : Int32 × Int32 => u_holds_21b (nI r) (nI k) z.1 z.2 m) n (nI t, nI i) (nI (2 * t + nb (c.ev (envB b k))), nI (i + c.cc.length)) := by
  intro c hok
  refine CD.ind (P := fun c => ∀ {i t : Nat}, i + c.cc.length ≤ E → CodeAt (m 29) i c.cc → (t + 1) * 2 ^ c.dep ≤ 2048 → ∃ n, n ≤ c.cc.length ∧ Run (fun z : Int32 × Int32 => u_holds_21b (nI r) (nI k) z.1 z.2 m) n (nI t, nI i) (nI (2 * t + nb (c.ev (envB b k))), nI (i + c.cc.length))) ?_ ?_ ?_ ?_ hok
  · intro l s u hok1 hok2 hok3 i t hi hc ht
    obtain ⟨h1, h2, h3, -⟩ := hc
    have ht2 : t < 1024 := by
      have : (t + 1) * 2 ≤ 2048 := ht
      omega
    exact ⟨1, by simp [CD.cc_cmp, CD.cc_nots, CD.cc_and, CD.cc_or], Run.one (uh_cmp hK hk hr hE hE2 hi hok2 hok1 hok3 h1 h2 h3 ht2)⟩
  · intro n c hok ih i t hi hc ht
    simp only [CD.cc_cmp, CD.cc_nots, CD.cc_and, CD.cc_or, List.length_append] at hi ⊢
    rw [CD.cc_nots, CodeAt_append] at hc
    obtain ⟨j, hj, hrun⟩ := ih (i := i) (t := t) (by omega) hc.1 ht
    by_cases hn : n % 2 = 1
    · have hc2 := hc.2
      rw [if_pos hn] at hc2 hi ⊢
      have ht2 : t < 1024 := by
        have h2 : 2 ^ 1 ≤ 2 ^ c.dep := Nat.pow_le_pow_right (by decide) (CD.dep_pos hok)
        have h3 : (t + 1) * 2 ^ 1 ≤ 2048 := Nat.le_trans (Nat.mul_le_mul_left _ h2) ht
        omega
      have hs := uh_not (a3 := nI k) (x := c.ev (envB b k)) hr hE hE2 (i := i + c.cc.length) (by simp only [List.length_cons, List.length_nil] at hi; omega) hc2.1 ht2
      refine ⟨j + 1, by simp only [List.length_cons, List.length_nil]; omega, ?_⟩
      have hev : (CD.nots n c).ev (envB b k) = !(c.ev (envB b k)) := by rw [CD.ev_nots]; rw [if_pos hn]
      rw [hev]
      exact hrun.trans (Run.one (body := fun z : Int32 × Int32 => u_holds_21b (nI r) (nI k) z.1 z.2 m) (s := (_, _)) hs)
    · rw [if_neg hn]
      have hev : (CD.nots n c).ev (envB b k) = c.ev (envB b k) := by rw [CD.ev_nots]; rw [if_neg hn]
      rw [hev]
      exact ⟨j, by omega, hrun⟩
  · intro x y hox hoy ihx ihy i t hi hc ht
    simp only [CD.cc_cmp, CD.cc_nots, CD.cc_and, CD.cc_or, List.length_append, List.length_cons, List.length_nil] at hi ⊢
    rw [CD.cc_and, CodeAt_append, CodeAt_append] at hc
    simp only [CD.dep_cmp, CD.dep_nots, CD.dep_and, CD.dep_or] at ht
    have hx : (t + 1) * 2 ^ x.dep ≤ 2048 := Nat.le_trans (Nat.mul_le_mul_left _ (Nat.pow_le_pow_right (by decide) (Nat.le_max_left _ _))) ht
    have hy0 : (t + 1) * 2 ^ (y.dep + 1) ≤ 2048 := Nat.le_trans (Nat.mul_le_mul_left _ (Nat.pow_le_pow_right (by decide) (Nat.le_max_right _ _))) ht
    have hy : (2 * t + nb (x.ev (envB b k)) + 1) * 2 ^ y.dep ≤ 2048 := by
      rw [Nat.pow_succ, Nat.mul_comm (2 ^ y.dep) 2, ← Nat.mul_assoc] at hy0
      refine Nat.le_trans (Nat.mul_le_mul_right _ ?_) hy0
      unfold nb; split <;> omega
    have ht2 : t < 1024 := by
      have h3 : (t + 1) * 2 ^ 1 ≤ 2048 := Nat.le_trans (Nat.mul_le_mul_left _ (Nat.pow_le_pow_right (by decide) (by omega))) hy0
      omega
    obtain ⟨j, hj, hrun⟩ := ihx (i := i) (t := t) (by omega) hc.1 hx
    obtain ⟨j2, hj2, hrun2⟩ := ihy (i := i + x.cc.length) (t := 2 * t + nb (x.ev (envB b k))) (by omega) hc.2.1 hy
    have hs := uh_and (a3 := nI k) (x := x.ev (envB b k)) (y := y.ev (envB b k)) hr hE hE2 (i := i + x.cc.length + y.cc.length) (by omega) hc.2.2.1 ht2
    refine ⟨j + (j2 + 1), by omega, ?_⟩
    rw [show i + (x.cc.length + (y.cc.length + (0 + 1))) = i + x.cc.length + y.cc.length + 1 by omega]
    exact hrun.trans (hrun2.trans (Run.one (body := fun z : Int32 × Int32 => u_holds_21b (nI r) (nI k) z.1 z.2 m) (s := (_, _)) hs))
  · intro x y hox hoy ihx ihy i t hi hc ht
    simp only [CD.cc_cmp, CD.cc_nots, CD.cc_and, CD.cc_or, List.length_append, List.length_cons, List.length_nil] at hi ⊢
    rw [CD.cc_or, CodeAt_append, CodeAt_append] at hc
    simp only [CD.dep_cmp, CD.dep_nots, CD.dep_and, CD.dep_or] at ht
    have hx : (t + 1) * 2 ^ x.dep ≤ 2048 := Nat.le_trans (Nat.mul_le_mul_left _ (Nat.pow_le_pow_right (by decide) (Nat.le_max_left _ _))) ht
    have hy0 : (t + 1) * 2 ^ (y.dep + 1) ≤ 2048 := Nat.le_trans (Nat.mul_le_mul_left _ (Nat.pow_le_pow_right (by decide) (Nat.le_max_right _ _))) ht
    have hy : (2 * t + nb (x.ev (envB b k)) + 1) * 2 ^ y.dep ≤ 2048 := by
      rw [Nat.pow_succ, Nat.mul_comm (2 ^ y.dep) 2, ← Nat.mul_assoc] at hy0
      refine Nat.le_trans (Nat.mul_le_mul_right _ ?_) hy0
      unfold nb; split <;> omega
    have ht2 : t < 1024 := by
      have h3 : (t + 1) * 2 ^ 1 ≤ 2048 := Nat.le_trans (Nat.mul_le_mul_left _ (Nat.pow_le_pow_right (by decide) (by omega))) hy0
      omega
    obtain ⟨j, hj, hrun⟩ := ihx (i := i) (t := t) (by omega) hc.1 hx
    obtain ⟨j2, hj2, hrun2⟩ := ihy (i := i + x.cc.length) (t := 2 * t + nb (x.ev (envB b k))) (by omega) hc.2.1 hy
    have hs := uh_or (a3 := nI k) (x := x.ev (envB b k)) (y := y.ev (envB b k)) hr hE hE2 (i := i + x.cc.length + y.cc.length) (by omega) hc.2.2.1 ht2
    refine ⟨j + (j2 + 1), by omega, ?_⟩
    rw [show i + (x.cc.length + (y.cc.length + (0 + 1))) = i + x.cc.length + y.cc.length + 1 by omega]
    exact hrun.trans (hrun2.trans (Run.one (body := fun z : Int32 × Int32 => u_holds_21b (nI r) (nI k) z.1 z.2 m) (s := (_, _)) hs))
def Rl : Type := Nat × Nat × Option CD
def Rl.mk : Nat → Nat → Option CD → Rl := fun a b c => (a, b, c)
def Rl.kind : Rl → Nat := fun (x : Nat × Nat × Option CD) => x.1
def Rl.will : Rl → Nat := fun (x : Nat × Nat × Option CD) => x.2.1
def Rl.cond : Rl → Option CD := fun (x : Nat × Nat × Option CD) => x.2.2
def Rl.rc (x : Rl) : List Nat := match x.cond with
  | none => []
  | some c => c.rc
def Rl.cc (x : Rl) : List Nat := match x.cond with
  | none => []
  | some c => c.cc
def Rl.ok (x : Rl) : Prop := x.kind ≤ 5 ∧ x.will ≤ 2 ∧ ∀ c, x.cond = some c → c.ok ∧ c.dep ≤ 9
def Rl.holds (x : Rl) (e : EV) : Bool := match x.cond with
  | none => true
  | some c => c.ev e
def off (g : Rl → List Nat) (rs : List Rl) (r : Nat) : Nat := ((rs.take r).flatMap g).length
/-- rules as they stand in rows: kinds, wills, ends, code -/
def RulesAt (g : Rl → List Nat) (kd wl en st : Nat → Int32) (rs : List Rl) : Prop := rs.length ≤ 8 ∧ (rs.flatMap g).length ≤ 200 ∧ (∀ r x, rs[r]? = some x → kd r = nI x.kind ∧ wl r = nI x.will ∧ en r = nI (off g rs (r + 1)) ∧ x.ok) ∧ CodeAt st 0 (rs.flatMap g)
theorem off_split {g : Rl → List Nat} {rs : List Rl} {r : Nat} {x : Rl} (h : rs[r]? = some x) : rs.flatMap g = (rs.take r).flatMap g ++ (g x ++ (rs.drop (r + 1)).flatMap g) ∧ off g rs (r + 1) = off g rs r + (g x).length := by
  have hlt : r < rs.length := by
    by_cases h2 : r < rs.length
    · exact h2
    · rw [List.getElem?_eq_none (by omega)] at h; cases h
  have hx : rs[r] = x := by rw [List.getElem?_eq_getElem hlt] at h; exact Option.some.inj h
  constructor
  · conv => lhs; rw [← List.take_append_drop r rs, List.drop_eq_getElem_cons hlt, hx]
    rw [List.flatMap_append, List.flatMap_cons]
  · unfold off
    rw [List.take_succ_eq_append_getElem hlt, hx, List.flatMap_append, List.length_append]
    simp
theorem RulesAt.code {g : Rl → List Nat} {kd wl en st : Nat → Int32} {rs : List Rl} (h : RulesAt g kd wl en st rs) {r : Nat} {x : Rl} (hx : rs[r]? = some x) : CodeAt st (off g rs r) (g x) ∧ off g rs r + (g x).length = off g rs (r + 1) ∧ off g rs (r + 1) ≤ 200 := by
  obtain ⟨e1, e2⟩ := off_split (g := g) hx
  have hc := h.2.2.2
  have hl := h.2.1
  rw [e1] at hc hl
  rw [CodeAt_append, CodeAt_append, Nat.zero_add] at hc
  simp only [List.length_append] at hl
  refine ⟨hc.2.1, e2.symm, ?_⟩
  rw [e2]
  unfold off
  omega
theorem RulesAt.congr {g : Rl → List Nat} {kd wl en st kd' wl' en' st' : Nat → Int32} {rs : List Rl} (h : RulesAt g kd wl en st rs) (h1 : ∀ r, r < 8 → kd' r = kd r ∧ wl' r = wl r ∧ en' r = en r) (h2 : ∀ j, j < 200 → st' j = st j) : RulesAt g kd' wl' en' st' rs := by
  refine ⟨h.1, h.2.1, fun r x hx => ?_, h.2.2.2.congr fun j _ hj => h2 j (by have := h.2.1; omega)⟩
  have hlt : r < rs.length := by
    by_cases h2 : r < rs.length
    · exact h2
    · rw [List.getElem?_eq_none (by omega)] at hx; cases hx
  obtain ⟨a1, a2, a3⟩ := h1 r (by have := h.1; omega)
  rw [a1, a2, a3]
  exact h.2.2.1 r x hx
