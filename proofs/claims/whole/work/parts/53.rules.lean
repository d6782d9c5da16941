/-! rules: what they are, how both sides write them, what they say -/
theorem ltE {α β : Type} (a : α) (k : α → Option β) : lt a k = k a := Eq.trans (Eq.refl _) (Eq.refl _)
def Run {S R : Type} (body : S → Option (S ⊕ R)) : Nat → S → S → Prop
  | 0, s, t => s = t
  | n + 1, s, t => ∃ s1, body s = some (.inl s1) ∧ Run body n s1 t
theorem Run.nil {S R : Type} {body : S → Option (S ⊕ R)} (s : S) : Run body 0 s s := Eq.refl s
theorem Run.cons {S R : Type} {body : S → Option (S ⊕ R)} {n : Nat} {s s1 s2 : S} (h : body s = some (.inl s1)) (t : Run body n s1 s2) : Run body (n + 1) s s2 := ⟨s1, h, t⟩
theorem Run.trans {S R : Type} {body : S → Option (S ⊕ R)} : ∀ {a b : Nat} {s t u : S}, Run body a s t → Run body b t u → Run body (a + b) s u
  | 0, b, s, t, u, h, h2 => by
    have e : s = t := h
    subst e
    rw [Nat.zero_add]
    exact h2
  | a + 1, b, s, t, u, ⟨s1, h, ht⟩, h2 => by
    rw [Nat.add_right_comm]
    exact ⟨s1, h, Run.trans ht h2⟩
theorem Run.one {S R : Type} {body : S → Option (S ⊕ R)} {s t : S} (h : body s = some (.inl t)) : Run body 1 s t := .cons h (.nil _)
theorem Run.iter {S R : Type} {body : S → Option (S ⊕ R)} {r : R} : ∀ {n : Nat} {s t : S}, Run body n s t → body t = some (.inr r) → ∀ {F : Nat}, n < F → Jvm.Pilot.CWreckBoardLaw_law_r7498_c7a78c.iter body F s = some r
  | 0, s, t, h, he, F, hF => by
    have e : s = t := h
    subst e
    obtain ⟨F', rfl⟩ : ∃ F', F = F' + 1 := ⟨F - 1, by omega⟩
    show (body s).bind _ = _
    rw [he]; rfl
  | n + 1, s, t, ⟨s1, h, ht⟩, he, F, hF => by
    obtain ⟨F', rfl⟩ : ∃ F', F = F' + 1 := ⟨F - 1, by omega⟩
    show (body s).bind _ = _
    rw [h]
    exact Run.iter ht he (by omega)
def rv (c : Nat) : Nat := if c < 18 then c + 9987 else c - 18
def EV : Type := Int32 × Int32 × Int32 × Int32 × Nat
def EV.mk : Int32 → Int32 → Int32 → Int32 → Nat → EV := fun a b c d k => (a, b, c, d, k)
def EV.night : EV → Int32 := fun (e : Int32 × Int32 × Int32 × Int32 × Nat) => e.1
def EV.greed : EV → Int32 := fun (e : Int32 × Int32 × Int32 × Int32 × Nat) => e.2.1
def EV.votes : EV → Int32 := fun (e : Int32 × Int32 × Int32 × Int32 × Nat) => e.2.2.1
def EV.light : EV → Int32 := fun (e : Int32 × Int32 × Int32 × Int32 × Nat) => e.2.2.2.1
def EV.k : EV → Nat := fun (e : Int32 × Int32 × Int32 × Int32 × Nat) => e.2.2.2.2
def EV.val (e : EV) (c : Nat) : Int32 := if c = 13 then e.night else if c = 14 then e.greed else if c = 15 then e.votes else if c = 16 then e.light else if c = 17 then nI e.k else nI (c - 18)
/-- a condition: how both sides write it, how deep it is, what it says -/
def CD : Type := List Nat × List Nat × Nat × (EV → Bool)
def CD.mk : List Nat → List Nat → Nat → (EV → Bool) → CD := fun a b c d => (a, b, c, d)
def CD.rc : CD → List Nat := fun (c : List Nat × List Nat × Nat × (EV → Bool)) => c.1
def CD.cc : CD → List Nat := fun (c : List Nat × List Nat × Nat × (EV → Bool)) => c.2.1
def CD.dep : CD → Nat := fun (c : List Nat × List Nat × Nat × (EV → Bool)) => c.2.2.1
def CD.ev (e : EV) : CD → Bool := fun (c : List Nat × List Nat × Nat × (EV → Bool)) => c.2.2.2 e
def CD.cmp (l s r : Nat) : CD := CD.mk [rv l, rv r, s - 8] [s, l, r] 1 (fun e => if s = 10018 then decide (e.val l < e.val r) else if s = 10019 then decide (e.val l = e.val r) else decide (e.val r < e.val l))
def CD.nots (n : Nat) (c : CD) : CD := CD.mk (c.rc ++ List.replicate n 10015) (c.cc ++ (if n % 2 = 1 then [12] else [])) c.dep (fun e => if n % 2 = 1 then !c.ev e else c.ev e)
def CD.and (a b : CD) : CD := CD.mk (a.rc ++ (b.rc ++ [10013])) (a.cc ++ (b.cc ++ [11])) (max a.dep (b.dep + 1)) (fun e => a.ev e && b.ev e)
def CD.or (a b : CD) : CD := CD.mk (a.rc ++ (b.rc ++ [10014])) (a.cc ++ (b.cc ++ [10])) (max a.dep (b.dep + 1)) (fun e => a.ev e || b.ev e)
theorem CD.rc_cmp {l s r : Nat} : (CD.cmp l s r).rc = [rv l, rv r, s - 8] := rfl
theorem CD.rc_nots {n : Nat} {c : CD} : (CD.nots n c).rc = c.rc ++ List.replicate n 10015 := rfl
theorem CD.rc_and {a b : CD} : (CD.and a b).rc = a.rc ++ (b.rc ++ [10013]) := rfl
theorem CD.rc_or {a b : CD} : (CD.or a b).rc = a.rc ++ (b.rc ++ [10014]) := rfl
theorem CD.cc_cmp {l s r : Nat} : (CD.cmp l s r).cc = [s, l, r] := rfl
theorem CD.cc_nots {n : Nat} {c : CD} : (CD.nots n c).cc = c.cc ++ (if n % 2 = 1 then [12] else []) := rfl
theorem CD.cc_and {a b : CD} : (CD.and a b).cc = a.cc ++ (b.cc ++ [11]) := rfl
theorem CD.cc_or {a b : CD} : (CD.or a b).cc = a.cc ++ (b.cc ++ [10]) := rfl
theorem CD.dep_cmp {l s r : Nat} : (CD.cmp l s r).dep = 1 := rfl
theorem CD.dep_nots {n : Nat} {c : CD} : (CD.nots n c).dep = c.dep := rfl
theorem CD.dep_and {a b : CD} : (CD.and a b).dep = max a.dep (b.dep + 1) := rfl
theorem CD.dep_or {a b : CD} : (CD.or a b).dep = max a.dep (b.dep + 1) := rfl
theorem CD.ev_nots {e : EV} {n : Nat} {c : CD} : (CD.nots n c).ev e = if n % 2 = 1 then !c.ev e else c.ev e := rfl
/-- made of comparisons by not, and, or -/
def CD.ok (c : CD) : Prop := ∀ P : CD → Prop, (∀ l s r : Nat, (13 ≤ l ∧ l ≤ 10017) → (s = 10018 ∨ s = 10019 ∨ s = 10020) → (13 ≤ r ∧ r ≤ 10017) → P (CD.cmp l s r)) → (∀ n x, P x → P (CD.nots n x)) → (∀ x y, P x → P y → P (CD.and x y)) → (∀ x y, P x → P y → P (CD.or x y)) → P c
theorem CD.ok_cmp {l s r : Nat} (h1 : 13 ≤ l ∧ l ≤ 10017) (h2 : s = 10018 ∨ s = 10019 ∨ s = 10020) (h3 : 13 ≤ r ∧ r ≤ 10017) : (CD.cmp l s r).ok := fun _ g1 _ _ _ => g1 l s r h1 h2 h3
theorem CD.ok_nots {n : Nat} {c : CD} (h : c.ok) : (CD.nots n c).ok := fun P g1 g2 g3 g4 => g2 n c (h P g1 g2 g3 g4)
theorem CD.ok_and {a b : CD} (h : a.ok) (h2 : b.ok) : (CD.and a b).ok := fun P g1 g2 g3 g4 => g3 a b (h P g1 g2 g3 g4) (h2 P g1 g2 g3 g4)
theorem CD.ok_or {a b : CD} (h : a.ok) (h2 : b.ok) : (CD.or a b).ok := fun P g1 g2 g3 g4 => g4 a b (h P g1 g2 g3 g4) (h2 P g1 g2 g3 g4)
theorem CD.ind {P : CD → Prop} (h1 : ∀ l s r : Nat, (13 ≤ l ∧ l ≤ 10017) → (s = 10018 ∨ s = 10019 ∨ s = 10020) → (13 ≤ r ∧ r ≤ 10017) → P (CD.cmp l s r)) (h2 : ∀ n x, CD.ok x → P x → P (CD.nots n x)) (h3 : ∀ x y, CD.ok x → CD.ok y → P x → P y → P (CD.and x y)) (h4 : ∀ x y, CD.ok x → CD.ok y → P x → P y → P (CD.or x y)) {c : CD} (h : c.ok) : P c :=
  (h (fun c => c.ok ∧ P c) (fun l s r a b c => ⟨CD.ok_cmp a b c, h1 l s r a b c⟩) (fun n x a => ⟨CD.ok_nots a.1, h2 n x a.1 a.2⟩) (fun x y a b => ⟨CD.ok_and a.1 b.1, h3 x y a.1 b.1 a.2 b.2⟩) (fun x y a b => ⟨CD.ok_or a.1 b.1, h4 x y a.1 b.1 a.2 b.2⟩)).2
theorem CD.dep_pos {c : CD} (h : c.ok) : 1 ≤ c.dep := by
  refine CD.ind (P := fun c => 1 ≤ c.dep) (fun l s r _ _ _ => Nat.le_refl _) (fun n x _ h => h) (fun x y _ _ h1 h2 => ?_) (fun x y _ _ h1 h2 => ?_) h
  · show 1 ≤ max x.dep (y.dep + 1); omega
  · show 1 ≤ max x.dep (y.dep + 1); omega
def CodeAt (f : Nat → Int32) : Nat → List Nat → Prop
  | _, [] => True
  | i, x :: l => f i = nI x ∧ CodeAt f (i + 1) l
theorem CodeAt_append {f : Nat → Int32} {l2 : List Nat} : ∀ (l1 : List Nat) (i : Nat), CodeAt f i (l1 ++ l2) ↔ CodeAt f i l1 ∧ CodeAt f (i + l1.length) l2
  | [], i => by simp [CodeAt]
  | x :: l, i => by
    simp only [List.cons_append, CodeAt, CodeAt_append l (i + 1), List.length_cons]
    rw [Nat.add_assoc, Nat.add_comm 1 l.length, and_assoc]
theorem CodeAt.congr {f g : Nat → Int32} : ∀ {l : List Nat} {i : Nat}, CodeAt f i l → (∀ j, i ≤ j → j < i + l.length → g j = f j) → CodeAt g i l
  | [], i, _, _ => trivial
  | x :: l, i, h, hg => ⟨(hg i (Nat.le_refl _) (by simp)).trans h.1, CodeAt.congr h.2 (fun j h1 h2 => hg j (by omega) (by simp only [List.length_cons]; omega))⟩
def b01 (x : Bool) : Int32 := if x then 1 else 0
theorem b01_eq0 {x : Bool} : b01 x = 0 ↔ x = false := by cases x <;> decide
theorem r_ruleOf_at {m : M} {r f : Nat} (hr : r < 8) (hf : f < 3) : r_ruleOf (nI r) (nI f) m = some (m 77 (91 + 3 * r + f)) := by
  unfold r_ruleOf
  rw [show (91 : Int32) = nI 91 by decide, n3, pk_mul, nI_add, nI_add, rd77 (by omega)]
  rfl
theorem len80 : len 80 = 200 := by decide
theorem rd80 {m : M} {j : Nat} (h : j < 200) : rdI m 80 (nI j) = some (m 80 j) := rdI_at (by rw [len80]; exact h) (by rw [len80]; decide)
theorem wr80 {m : M} {j : Nat} {v : Int32} (h : j < 200) : wrI m 80 (nI j) v = some (mset m 80 (upd (m 80) j v)) := wrI_at (by rw [len80]; exact h) (by rw [len80]; decide)
theorem sc_80 : ∀ k, sc 80 k = true := fun k => by simp [sc]
def E80 (m m' : M) : Prop := ∀ p, p ≠ 80 → m' p = m p
theorem E80.rfl {m : M} : E80 m m := fun _ _ => Eq.refl _
theorem E80.trans {m m1 m2 : M} (h1 : E80 m m1) (h2 : E80 m1 m2) : E80 m m2 := fun p h => (h2 p h).trans (h1 p h)
theorem E80.r77 {m m1 : M} (h : E80 m m1) : m1 77 = m 77 := h 77 (by decide)
theorem E80s {m : M} {f : Nat → Int32} : E80 m (mset m 80 f) := fun p h => mset_ne h
def envB (b : Nat → Int32) (k : Nat) : EV := EV.mk (b 0) (b (37 + 5 * k + 2)) (b (37 + 5 * k + 1)) (b 3) k
theorem n10010 : (10010 : Int32) = nI 10010 := by decide
theorem n10000 : (10000 : Int32) = nI 10000 := by decide
theorem n115 : (115 : Int32) = nI 115 := by decide
/-- what the reference's body reads at a place of the code -/
theorem hf_at {m : M} {r k d i E v : Nat} (hr : r < 8) (hE : m 77 (91 + 3 * r + 2) = nI E) (hE2 : E ≤ 200) (hi : i < E) (hv : m 77 (115 + i) = nI v) : r_holdsFor_20b (nI r) (nI k) (nI d) (nI i) m = (if (10010 : Int32) ≤ nI v then (if nI v = (10015 : Int32) then Option.bind (rdI m 80 (nI d - 1)) (fun v8 => Option.bind (wrI m 80 (nI d - 1) (1 - v8)) (fun m9 => r_holdsFor_146 (nI r) (nI k) (nI d) (nI i) m9)) else lt (nI d + -1) (fun w3 : Int32 => Option.bind (rdI m 80 (w3 - 1)) (fun v4 => Option.bind (rdI m 80 w3) (fun v5 => Option.bind (r_joined (nI v) v4 v5 m) (fun v6 => Option.bind (wrI m 80 (w3 - 1) v6) (fun m7 => r_holdsFor_146 (nI r) (nI k) w3 (nI i) m7)))))) else (if (10000 : Int32) ≤ nI v then Option.bind (r_knownOf (nI v - 10000) (nI k) m) (fun v10 => r_holdsFor_80 (nI r) (nI k) (nI d) (nI i) (nI d) v10 m) else r_holdsFor_80 (nI r) (nI k) (nI d) (nI i) (nI d) (nI v) m)) := by
  unfold r_holdsFor_20b
  rw [n2, r_ruleOf_at hr (by decide), hE]
  simp only [Option.bind_some]
  rw [if_neg (nI_ge hi (by omega)), n115, nI_add, rd77 (by omega), hv]
  rfl
theorem r_knownOf_val {m : M} {b : Nat → Int32} {k c : Nat} (hb : m 77 = b) (hk : k < 6) (h1 : 13 ≤ c) (h2 : c < 18) : r_knownOf (nI (c + 9987) - 10000) (nI k) m = some ((envB b k).val c) := by
  subst hb
  rcases (show c = 13 ∨ c = 14 ∨ c = 15 ∨ c = 16 ∨ c = 17 by omega) with e | e | e | e | e <;> subst e
  · show r_knownOf (nI 10000 - 10000) (nI k) m = some ((m 77) 0)
    rw [show nI 10000 - 10000 = 0 by decide]
    unfold r_knownOf
    rw [if_pos rfl, n0, rd77 (by decide)]; rfl
  · show r_knownOf (nI 10001 - 10000) (nI k) m = some ((m 77) (37 + 5 * k + 2))
    rw [show nI 10001 - 10000 = 1 by decide]
    unfold r_knownOf
    rw [if_neg (by decide), if_pos rfl, n2, r_get_at hk (by decide)]; rfl
  · show r_knownOf (nI 10002 - 10000) (nI k) m = some ((m 77) (37 + 5 * k + 1))
    rw [show nI 10002 - 10000 = 2 by decide]
    unfold r_knownOf
    rw [if_neg (by decide), if_neg (by decide), if_pos rfl, n1, r_get_at hk (by decide)]; rfl
  · show r_knownOf (nI 10003 - 10000) (nI k) m = some ((m 77) 3)
    rw [show nI 10003 - 10000 = 3 by decide]
    unfold r_knownOf
    rw [if_neg (by decide), if_neg (by decide), if_neg (by decide), if_pos rfl, n3, rd77 (by decide)]; rfl
  · show r_knownOf (nI 10004 - 10000) (nI k) m = some (nI k)
    rw [show nI 10004 - 10000 = 4 by decide]
    unfold r_knownOf
    rw [if_neg (by decide), if_neg (by decide), if_neg (by decide), if_neg (by decide)]
/-- a value is laid on the pile -/
theorem hf_val {m : M} {b : Nat → Int32} {r k d i E c : Nat} (hb : m 77 = b) (hr : r < 8) (hk : k < 6) (hE : b (91 + 3 * r + 2) = nI E) (hE2 : E ≤ 200) (hi : i < E) (hd : d < 200) (h1 : 13 ≤ c) (h2 : c ≤ 10017) (hv : b (115 + i) = nI (rv c)) : r_holdsFor_20b (nI r) (nI k) (nI d) (nI i) m = some (.inl (nI (d + 1), nI (i + 1), mset m 80 (upd (m 80) d ((envB b k).val c)))) := by
  have hlt : rv c < 10010 := by unfold rv; split <;> omega
  rw [hf_at hr (by rw [hb]; exact hE) hE2 hi (by rw [hb]; exact hv), if_neg (fun h => by rw [n10010, nI_leI (by decide) (by omega)] at h; omega)]
  by_cases h3 : c < 18
  · have hrv : rv c = c + 9987 := if_pos h3
    rw [hrv, if_pos (by rw [n10000, nI_leI (by decide) (by omega)]; omega), r_knownOf_val hb hk h1 h3]
    simp only [Option.bind_some]
    unfold r_holdsFor_80 r_holdsFor_146
    rw [wr80 hd]
    simp only [Option.bind_some, ltE, nI_1]
  · have hrv : rv c = c - 18 := if_neg h3
    have hval : (envB b k).val c = nI (c - 18) := by
      unfold EV.val
      rw [if_neg (by omega), if_neg (by omega), if_neg (by omega), if_neg (by omega), if_neg (by omega)]
    rw [hrv, if_neg (by rw [n10000, nI_leI (by decide) (by omega)]; omega), hval]
    unfold r_holdsFor_80 r_holdsFor_146
    rw [wr80 hd]
    simp only [Option.bind_some, ltE, nI_1]
theorem ne10015 {v : Nat} (h1 : 10010 ≤ v) (h2 : v ≤ 10014) : ¬ nI v = (10015 : Int32) := by
  have e : (10015 : Int32) = nI 10015 := by decide
  rw [e]
  intro h
  have := (nI_eq (a := v) (b := 10015) (by omega) (by decide)).mp h
  omega
/-- two of the pile are joined -/
theorem le10010 {v : Nat} (h1 : 10010 ≤ v) (h2 : v ≤ 10014) : (10010 : Int32) ≤ nI v := by
  rw [n10010, nI_leI (by decide) (by omega)]; omega
theorem hf_join {m : M} {b : Nat → Int32} {r k d i E v D : Nat} {x : Int32} (hb : m 77 = b) (hr : r < 8) (hE : b (91 + 3 * r + 2) = nI E) (hE2 : E ≤ 200) (hi : i < E) (hd : d + 2 ≤ 200) (hD : D = d + 1 + 1) (h1 : 10010 ≤ v) (h2 : v ≤ 10014) (hv : b (115 + i) = nI v) (hj : r_joined (nI v) (m 80 d) (m 80 (d + 1)) m = some x) : r_holdsFor_20b (nI r) (nI k) (nI D) (nI i) m = some (.inl (nI (d + 1), nI (i + 1), mset m 80 (upd (m 80) d x))) := by
  have e1 : nI D + -1 = nI (d + 1) := by rw [hD, pk_m1]
  have e2 : nI (d + 1) - 1 = nI d := nI_pred d
  rw [hf_at hr (by rw [hb]; exact hE) hE2 hi (by rw [hb]; exact hv), if_pos (le10010 h1 h2), if_neg (ne10015 h1 h2)]
  rw [ltE]
  rw [e1, e2, rd80 (by omega), rd80 (by omega)]
  simp only [Option.bind_some]
  rw [hj]
  simp only [Option.bind_some]
  rw [wr80 (by omega)]
  simp only [Option.bind_some, r_holdsFor_146, ltE, nI_1]
theorem hf_not {m : M} {b : Nat → Int32} {r k d i E : Nat} {x : Bool} (hb : m 77 = b) (hr : r < 8) (hE : b (91 + 3 * r + 2) = nI E) (hE2 : E ≤ 200) (hi : i < E) (hd : d + 1 ≤ 200) (hv : b (115 + i) = nI 10015) (hx : m 80 d = b01 x) : r_holdsFor_20b (nI r) (nI k) (nI (d + 1)) (nI i) m = some (.inl (nI (d + 1), nI (i + 1), mset m 80 (upd (m 80) d (b01 !x)))) := by
  rw [hf_at hr (by rw [hb]; exact hE) hE2 hi (by rw [hb]; exact hv), if_pos (by decide), if_pos (by decide), nI_pred, rd80 (by omega)]
  simp only [Option.bind_some]
  rw [wr80 (by omega)]
  simp only [Option.bind_some, r_holdsFor_146, ltE, nI_1]
  rw [hx, show (1 : Int32) - b01 x = b01 !x by cases x <;> decide]
theorem cmpF {x y : Int32} {m : M} {s : Nat} (hs : s = 10018 ∨ s = 10019 ∨ s = 10020) : r_joined (nI (s - 8)) x y m = some (b01 (if s = 10018 then decide (x < y) else if s = 10019 then decide (x = y) else decide (y < x))) := by
  unfold r_joined
  rcases hs with e | e | e <;> subst e
  · rw [if_pos (by decide), if_pos rfl]
    by_cases h : y ≤ x
    · rw [if_pos h, decide_eq_false (Int32.not_lt.mpr h)]; rfl
    · rw [if_neg h, decide_eq_true (Int32.not_le.mp h)]; rfl
  · rw [if_neg (by decide : ¬ nI (10019 - 8) = 10010), if_pos (by decide : nI (10019 - 8) = 10011), if_neg (by decide : ¬ (10019 = 10018)), if_pos rfl]
    by_cases h : x = y
    · rw [if_pos h, decide_eq_true h]; rfl
    · rw [if_neg h, decide_eq_false h]; rfl
  · rw [if_neg (by decide : ¬ nI (10020 - 8) = 10010), if_neg (by decide : ¬ nI (10020 - 8) = 10011), if_pos (by decide : nI (10020 - 8) = 10012), if_neg (by decide : ¬ (10020 = 10018)), if_neg (by decide : ¬ (10020 = 10019))]
    by_cases h : x ≤ y
    · rw [if_pos h, decide_eq_false (Int32.not_lt.mpr h)]; rfl
    · rw [if_neg h, decide_eq_true (Int32.not_le.mp h)]; rfl
theorem andF {x y : Bool} {m : M} : r_joined (nI 10013) (b01 x) (b01 y) m = some (b01 (x && y)) := by cases x <;> cases y <;> rfl
theorem orF {x y : Bool} {m : M} : r_joined (nI 10014) (b01 x) (b01 y) m = some (b01 (x || y)) := by cases x <;> cases y <;> rfl
/-- several nots -/
theorem hf_nots {b : Nat → Int32} {r k d E : Nat} (hr : r < 8) (hE : b (91 + 3 * r + 2) = nI E) (hE2 : E ≤ 200) (hd : d + 1 ≤ 200) : ∀ (n : Nat) {i : Nat} {m : M} {x : Bool}, m 77 = b → i + n ≤ E → CodeAt (fun j => b (115 + j)) i (List.replicate n 10015) → m 80 d = b01 x → ∃ m', Run (fun z => r_holdsFor_20b (nI r) (nI k) z.1 z.2.1 z.2.2) n (nI (d + 1), nI i, m) (nI (d + 1), nI (i + n), m') ∧ E80 m m' ∧ m' 80 d = b01 (if n % 2 = 1 then !x else x) ∧ (∀ j, j < d → m' 80 j = m 80 j)
  | 0, i, m, x, hb, hi, hc, hx => ⟨m, .nil _, E80.rfl, hx, fun _ _ => rfl⟩
  | n + 1, i, m, x, hb, hi, hc, hx => by
    have hs := hf_not (k := k) hb hr hE hE2 (i := i) (by omega) hd hc.1 hx
    obtain ⟨m', h1, h2, h3, h4⟩ := hf_nots hr hE hE2 hd n (i := i + 1) (m := mset m 80 (upd (m 80) d (b01 !x))) (x := !x) (by rw [mset_ne (by decide)]; exact hb) (by omega) hc.2 (by rw [mset_same, upd_at])
    refine ⟨m', ?_, E80s.trans h2, ?_, fun j hj => ?_⟩
    · rw [show i + (n + 1) = i + 1 + n by omega]
      exact .cons hs h1
    · rw [h3]
      rcases (show n % 2 = 0 ∨ n % 2 = 1 by omega) with e | e
      · rw [if_neg (by omega), if_pos (by omega)]
      · rw [if_pos e, if_neg (by omega), Bool.not_not]
    · rw [h4 j hj, mset_same, upd_off (by omega)]
theorem ref_run {b : Nat → Int32} {r k E : Nat} (hr : r < 8) (hk : k < 6) (hE : b (91 + 3 * r + 2) = nI E) (hE2 : E ≤ 200) : ∀ (c : CD), c.ok → ∀ {i d : Nat} {m : M}, m 77 = b → i + c.rc.length ≤ E → CodeAt (fun j => b (115 + j)) i c.rc → d + c.dep + 1 ≤ 200 → ∃ m', Run (fun z => r_holdsFor_20b (nI r) (nI k) z.1 z.2.1 z.2.2) c.rc.length (nI d, nI i, m) (nI (d + 1), nI (i + c.rc.length), m') ∧ E80 m m' ∧ m' 80 d = b01 (c.ev (envB b k)) ∧ (∀ j, j < d → m' 80 j = m 80 j) := by
  intro c hok
  refine CD.ind (P := fun c => ∀ {i d : Nat} {m : M}, m 77 = b → i + c.rc.length ≤ E → CodeAt (fun j => b (115 + j)) i c.rc → d + c.dep + 1 ≤ 200 → ∃ m', Run (fun z => r_holdsFor_20b (nI r) (nI k) z.1 z.2.1 z.2.2) c.rc.length (nI d, nI i, m) (nI (d + 1), nI (i + c.rc.length), m') ∧ E80 m m' ∧ m' 80 d = b01 (c.ev (envB b k)) ∧ (∀ j, j < d → m' 80 j = m 80 j)) ?_ ?_ ?_ ?_ hok
  · rintro l s t ⟨l1, l2⟩ hs ⟨t1, t2⟩ i d m hb hi hc hd
    obtain ⟨c1, c2, c3, -⟩ := hc
    simp only [CD.rc_cmp, CD.rc_nots, CD.rc_and, CD.rc_or, List.length_cons, List.length_nil, CD.dep_cmp, CD.dep_nots, CD.dep_and, CD.dep_or] at hi hd ⊢
    have s1 := hf_val (k := k) hb hr hk hE hE2 (i := i) (by omega) (d := d) (by omega) l1 l2 c1
    have s2 := hf_val (k := k) (m := mset m 80 (upd (m 80) d ((envB b k).val l))) (by rw [mset_ne (by decide)]; exact hb) hr hk hE hE2 (i := i + 1) (by omega) (d := d + 1) (by omega) t1 t2 c2
    rw [mset_mset, mset_same] at s2
    have s3 := hf_join (k := k) (m := mset m 80 (upd (upd (m 80) d ((envB b k).val l)) (d + 1) ((envB b k).val t))) (by rw [mset_ne (by decide)]; exact hb) hr hE hE2 (i := i + 1 + 1) (by omega) (d := d) (by omega) rfl (v := s - 8) (by omega) (by omega) c3 (x := b01 (CD.ev (envB b k) (CD.cmp l s t))) (by
      rw [mset_same, upd_at, upd_off (by omega), upd_at]
      exact cmpF hs)
    rw [mset_mset, mset_same] at s3
    refine ⟨_, .cons s1 (.cons s2 (.cons s3 (.nil _))), E80s, ?_, fun j hj => ?_⟩
    · rw [mset_same, upd_at]
    · rw [mset_same, upd_off (by omega), upd_off (by omega), upd_off (by omega)]
  · intro n c hok ih i d m hb hi hc hd
    simp only [CD.rc_cmp, CD.rc_nots, CD.rc_and, CD.rc_or, List.length_append, List.length_replicate, CD.dep_cmp, CD.dep_nots, CD.dep_and, CD.dep_or] at hi hd ⊢
    rw [CD.rc_nots, CodeAt_append] at hc
    obtain ⟨m1, r1, q1, v1, f1⟩ := ih (i := i) (d := d) (m := m) hb (by omega) hc.1 hd
    have hb1 : m1 77 = b := (q1.r77).trans hb
    obtain ⟨m2, r2, q2, v2, f2⟩ := hf_nots (k := k) hr hE hE2 (d := d) (by omega) n (i := i + c.rc.length) hb1 (by omega) hc.2 v1
    refine ⟨m2, ?_, q1.trans q2, ?_, fun j hj => (f2 j hj).trans (f1 j hj)⟩
    · have := r1.trans r2
      rw [Nat.add_assoc i] at this
      exact this
    · rw [v2]; rfl
  · intro x y hox hoy ihx ihy i d m hb hi hc hd
    simp only [CD.rc_cmp, CD.rc_nots, CD.rc_and, CD.rc_or, List.length_append, List.length_cons, List.length_nil, CD.dep_cmp, CD.dep_nots, CD.dep_and, CD.dep_or] at hi hd ⊢
    rw [CD.rc_and, CodeAt_append, CodeAt_append] at hc
    obtain ⟨m1, r1, q1, v1, f1⟩ := ihx (i := i) (d := d) (m := m) hb (by omega) hc.1 (by omega)
    have hb1 : m1 77 = b := (q1.r77).trans hb
    obtain ⟨m2, r2, q2, v2, f2⟩ := ihy (i := i + x.rc.length) (d := d + 1) (m := m1) hb1 (by omega) hc.2.1 (by omega)
    have hb2 : m2 77 = b := (q2.r77).trans hb1
    have hp := CD.dep_pos hoy
    have s3 := hf_join (k := k) (m := m2) hb2 hr hE hE2 (i := i + x.rc.length + y.rc.length) (by omega) (d := d) (by omega) rfl (v := 10013) (by decide) (by decide) hc.2.2.1 (x := b01 (CD.ev (envB b k) (CD.and x y))) (by
      rw [f2 d (by omega), v1, v2]
      exact andF)
    refine ⟨mset m2 80 (upd (m2 80) d (b01 (CD.ev (envB b k) (CD.and x y)))), ?_, (q1.trans q2).trans E80s, ?_, fun j hj => ?_⟩
    · have := (r1.trans (r2.trans (Run.one (body := fun z => r_holdsFor_20b (nI r) (nI k) z.1 z.2.1 z.2.2) (s := (nI (d + 2), nI (i + x.rc.length + y.rc.length), m2)) s3)))
      rw [show i + x.rc.length + y.rc.length + 1 = i + (x.rc.length + (y.rc.length + (0 + 1))) by omega] at this
      exact this
    · rw [mset_same, upd_at]
    · rw [mset_same, upd_off (by omega), f2 j (by omega), f1 j hj]
  · intro x y hox hoy ihx ihy i d m hb hi hc hd
    simp only [CD.rc_cmp, CD.rc_nots, CD.rc_and, CD.rc_or, List.length_append, List.length_cons, List.length_nil, CD.dep_cmp, CD.dep_nots, CD.dep_and, CD.dep_or] at hi hd ⊢
    rw [CD.rc_or, CodeAt_append, CodeAt_append] at hc
    obtain ⟨m1, r1, q1, v1, f1⟩ := ihx (i := i) (d := d) (m := m) hb (by omega) hc.1 (by omega)
    have hb1 : m1 77 = b := (q1.r77).trans hb
    obtain ⟨m2, r2, q2, v2, f2⟩ := ihy (i := i + x.rc.length) (d := d + 1) (m := m1) hb1 (by omega) hc.2.1 (by omega)
    have hb2 : m2 77 = b := (q2.r77).trans hb1
    have hp := CD.dep_pos hoy
    have s3 := hf_join (k := k) (m := m2) hb2 hr hE hE2 (i := i + x.rc.length + y.rc.length) (by omega) (d := d) (by omega) rfl (v := 10014) (by decide) (by decide) hc.2.2.1 (x := b01 (CD.ev (envB b k) (CD.or x y))) (by
      rw [f2 d (by omega), v1, v2]
      exact orF)
    refine ⟨mset m2 80 (upd (m2 80) d (b01 (CD.ev (envB b k) (CD.or x y)))), ?_, (q1.trans q2).trans E80s, ?_, fun j hj => ?_⟩
    · have := (r1.trans (r2.trans (Run.one (body := fun z => r_holdsFor_20b (nI r) (nI k) z.1 z.2.1 z.2.2) (s := (nI (d + 2), nI (i + x.rc.length + y.rc.length), m2)) s3)))
      rw [show i + x.rc.length + y.rc.length + 1 = i + (x.rc.length + (y.rc.length + (0 + 1))) by omega] at this
      exact this
    · rw [mset_same, upd_at]
    · rw [mset_same, upd_off (by omega), f2 j (by omega), f1 j hj]
