/-- memory: of a place (a cell of the world) and an index, a number -/
abbrev M : Type := Nat → Nat → Int32
/-- how the world lies in the heap: class numbers and slots; a place's address; the array classes' numbers -/
abbrev GG : Type := va_G × (Nat → Nat) × (Nat → ClassId)
/-- what each place is: an object (class, its references by field), a row of numbers (sort, length), a row of references -/
abbrev SHs : Type := (Nat × List (Option Nat)) ⊕ (Nat × Nat) ⊕ (Nat × List Nat)
def SHT : List SHs := [.inl (11, [some 1, some 2, none, some 7, some 8, some 50, none, some 60, some 61, some 55, some 62, some 63, some 9]),
  .inl (0, [none, none, none, none, none, none, none, none, none, some 10, some 11, some 12, some 13, some 14, some 15, some 16, some 3, some 4, some 17]),
  .inl (0, [none, none, none, none, none, none, none, none, none, some 18, some 19, some 20, some 21, some 22, some 23, some 24, some 5, some 6, some 25]),
  .inl (7, [none, some 26, some 27, some 28, some 29, none]),
  .inl (6, [none, some 30, some 31, some 32, some 33]),
  .inl (7, [none, some 34, some 35, some 36, some 37, none]),
  .inl (6, [none, some 38, some 39, some 40, some 41]),
  .inl (9, [none, some 46, some 47, some 48, none]),
  .inl (7, [none, some 42, some 43, some 44, some 45, none]),
  .inl (2, [none, none, none, some 49, none]),
  .inr (.inl (0, 6)),
  .inr (.inl (0, 6)),
  .inr (.inl (0, 6)),
  .inr (.inl (0, 6)),
  .inr (.inl (0, 16)),
  .inr (.inl (0, 6)),
  .inr (.inl (0, 6)),
  .inr (.inr (3, [64, 65, 66, 67, 68, 69])),
  .inr (.inl (0, 6)),
  .inr (.inl (0, 6)),
  .inr (.inl (0, 6)),
  .inr (.inl (0, 6)),
  .inr (.inl (0, 16)),
  .inr (.inl (0, 6)),
  .inr (.inl (0, 6)),
  .inr (.inr (3, [70, 71, 72, 73, 74, 75])),
  .inr (.inl (0, 8)),
  .inr (.inl (0, 8)),
  .inr (.inl (0, 8)),
  .inr (.inl (0, 200)),
  .inr (.inl (0, 6)),
  .inr (.inl (0, 6)),
  .inr (.inl (0, 6)),
  .inr (.inl (0, 6)),
  .inr (.inl (0, 8)),
  .inr (.inl (0, 8)),
  .inr (.inl (0, 8)),
  .inr (.inl (0, 200)),
  .inr (.inl (0, 6)),
  .inr (.inl (0, 6)),
  .inr (.inl (0, 6)),
  .inr (.inl (0, 6)),
  .inr (.inl (0, 8)),
  .inr (.inl (0, 8)),
  .inr (.inl (0, 8)),
  .inr (.inl (0, 200)),
  .inr (.inl (0, 200)),
  .inr (.inl (0, 201)),
  .inr (.inl (0, 201)),
  .inr (.inl (0, 30)),
  .inr (.inr (2, [51, 52, 53, 54])),
  .inr (.inl (0, 3)),
  .inr (.inl (0, 3)),
  .inr (.inl (0, 3)),
  .inr (.inl (0, 3)),
  .inr (.inr (2, [56, 57, 58, 59])),
  .inr (.inl (0, 40)),
  .inr (.inl (0, 40)),
  .inr (.inl (0, 40)),
  .inr (.inl (0, 40)),
  .inr (.inl (0, 4)),
  .inr (.inl (0, 4)),
  .inr (.inl (0, 4)),
  .inr (.inl (0, 4)),
  .inl (5, []),
  .inl (10, []),
  .inl (8, []),
  .inl (1, []),
  .inl (3, []),
  .inl (4, []),
  .inl (5, []),
  .inl (10, []),
  .inl (8, []),
  .inl (1, []),
  .inl (3, []),
  .inl (4, []),
  .inl (12, [some 77, some 78, some 79, none, some 80, some 81, none, some 82, none, none, none, none, none, none, some 83, some 84, none, some 85, some 86, some 87, none, none, none, none, some 88, some 89, none, some 90, none, some 91, some 92, some 93, some 94, some 95, some 96, none, none, none]),
  .inr (.inl (0, 315)),
  .inr (.inl (0, 315)),
  .inr (.inl (0, 67)),
  .inr (.inl (0, 200)),
  .inr (.inl (0, 200)),
  .inr (.inl (1, 144)),
  .inr (.inl (0, 200)),
  .inr (.inl (0, 24)),
  .inr (.inl (0, 335)),
  .inr (.inl (0, 4)),
  .inr (.inl (0, 4)),
  .inr (.inl (0, 16)),
  .inr (.inl (0, 16)),
  .inr (.inl (0, 12)),
  .inr (.inl (0, 4)),
  .inr (.inl (0, 4)),
  .inr (.inl (0, 160)),
  .inr (.inl (0, 4)),
  .inr (.inl (0, 4)),
  .inr (.inl (0, 30))]
def NC : Nat := 97
theorem SHT_len : SHT.length = NC := by decide +kernel
def fval (G : GG) (r : Option Nat) (v : Int32) : Value := match r with
  | none => .int v
  | some q => .ref (G.2.1 q)
def fvals (G : GG) (sh : List (Option Nat)) (f : Nat → Int32) : List Value := (List.range sh.length).map (fun k => fval G (sh.getD k none) (f k))
def cell (G : GG) (p : Nat) (f : Nat → Int32) : va_E := match SHT[p]? with
  | some (.inl o) => .inr (o.1, fvals G o.2 f)
  | some (.inr (.inl a)) => .inl (G.2.2 a.1, a.2, .inl f)
  | some (.inr (.inr r)) => .inl (G.2.2 r.1, r.2.length, .inr (.inr (.inr (.inr (fun i => (r.2[i]?).map G.2.1)))))
  | none => .inr (0, [])
def pic (G : GG) (m : M) : va_W := (List.range NC).map (fun p => (G.2.1 p, cell G p (m p)))
def mset (m : M) (p : Nat) (f : Nat → Int32) : M := fun q => if q = p then f else m q
theorem pic_at {G : GG} {m : M} {p : Nat} (h : p < NC) : (pic G m)[p]? = some (G.2.1 p, cell G p (m p)) := by
  unfold pic
  rw [List.getElem?_map, List.getElem?_range h]
  rfl
theorem pic_len (G : GG) (m : M) : (pic G m).length = NC := by
  unfold pic
  rw [List.length_map, List.length_range]
theorem pic_set {G : GG} {m : M} {p : Nat} {f : Nat → Int32} : (pic G m).set p (G.2.1 p, cell G p f) = pic G (mset m p f) := by
  apply List.ext_getElem?
  intro i
  by_cases hi : i < NC
  · rw [pic_at hi]
    by_cases h : p = i
    · subst h
      rw [List.getElem?_set_self (by rw [pic_len]; exact hi)]
      simp [mset]
    · rw [List.getElem?_set_ne h, pic_at hi]
      simp [mset, Ne.symm h]
  · rw [List.getElem?_eq_none (by rw [List.length_set, pic_len]; omega), List.getElem?_eq_none (by rw [pic_len]; omega)]
theorem SHT_lt {p : Nat} {x : SHs} (h : SHT[p]? = some x) : p < NC := by
  have := (List.getElem?_eq_some_iff.mp h).1
  rw [SHT_len] at this
  exact this
/-- the length of a row of numbers -/
def len (p : Nat) : Nat := match SHT[p]? with
  | some (.inr (.inl (0, n))) => n
  | _ => 0
theorem len_cell {p : Nat} (h : 0 < len p) : p < NC ∧ ∀ (G : GG) (f : Nat → Int32), cell G p f = .inl (G.2.2 0, len p, .inl f) := by
  unfold len at h
  split at h
  · next n hs =>
    refine ⟨SHT_lt hs, fun G f => ?_⟩
    unfold cell len
    rw [hs]
    rfl
  · exact absurd h (Nat.lt_irrefl 0)
/-- reading and writing a row of numbers -/
def rdI (m : M) (p : Nat) (i : Int32) : Option Int32 := if i < 0 ∨ len p ≤ i.toNatClampNeg then none else some (m p i.toNatClampNeg)
def wrI (m : M) (p : Nat) (i v : Int32) : Option M := if i < 0 ∨ len p ≤ i.toNatClampNeg then none else some (mset m p (upd (m p) i.toNatClampNeg v))
/-- a row of chars -/
def lenC (p : Nat) : Nat := match SHT[p]? with
  | some (.inr (.inl (1, n))) => n
  | _ => 0
def rdC (m : M) (p : Nat) (i : Int32) : Option Int32 := if i < 0 ∨ lenC p ≤ i.toNatClampNeg then none else some (m p i.toNatClampNeg)
theorem lenC_cell {p : Nat} (h : 0 < lenC p) : p < NC ∧ ∀ (G : GG) (f : Nat → Int32), cell G p f = .inl (G.2.2 1, lenC p, .inl f) := by
  unfold lenC at h
  split at h
  · next n hs =>
    refine ⟨SHT_lt hs, fun G f => ?_⟩
    unfold cell lenC
    rw [hs]
    rfl
  · exact absurd h (Nat.lt_irrefl 0)
/-- a row of references: the place -/
def rfs (p : Nat) : List Nat := match SHT[p]? with
  | some (.inr (.inr r)) => r.2
  | _ => []
def rdR (p : Nat) (i : Int32) : Option Nat := if i < 0 then none else (rfs p)[i.toNatClampNeg]?
/-- a constant row -/
def rdK (l : List Int32) (i : Int32) : Option Int32 := if i < 0 ∨ l.length ≤ i.toNatClampNeg then none else some (l.getD i.toNatClampNeg 0)
/-- a field of numbers -/
def wrF (m : M) (p k : Nat) (v : Int32) : M := mset m p (upd (m p) k v)
theorem fvals_set {G : GG} {sh : List (Option Nat)} {f : Nat → Int32} {k : Nat} {v : Int32} (h : sh[k]? = some none) : fvals G sh (upd f k v) = (fvals G sh f).set k (.int v) := by
  have hk := (List.getElem?_eq_some_iff.mp h).1
  apply List.ext_getElem?
  intro i
  unfold fvals
  by_cases hi : i < sh.length
  · rw [List.getElem?_map, List.getElem?_range hi]
    by_cases hki : k = i
    · subst hki
      rw [List.getElem?_set_self (by rw [List.length_map, List.length_range]; exact hk)]
      have h2 : sh.getD k none = none := by rw [List.getD_eq_getElem?_getD, h]; rfl
      show some (fval G (sh.getD k none) (upd f k v k)) = _
      rw [h2]
      simp [fval, upd]
    · rw [List.getElem?_set_ne hki, List.getElem?_map, List.getElem?_range hi]
      simp [upd, Ne.symm hki]
  · rw [List.getElem?_eq_none (by rw [List.length_map, List.length_range]; omega), List.getElem?_eq_none (by rw [List.length_set, List.length_map, List.length_range]; omega)]
theorem fvals_at {G : GG} {sh : List (Option Nat)} {f : Nat → Int32} {k : Nat} {r : Option Nat} (h : sh[k]? = some r) : (fvals G sh f)[k]? = some (fval G r (f k)) := by
  have hk := (List.getElem?_eq_some_iff.mp h).1
  unfold fvals
  rw [List.getElem?_map, List.getElem?_range hk]
  have h2 : sh.getD k none = r := by rw [List.getD_eq_getElem?_getD, h]; rfl
  show some (fval G (sh.getD k none) (f k)) = _
  rw [h2]
theorem cell_obj {G : GG} {p ci : Nat} {sh : List (Option Nat)} {f : Nat → Int32} (h : SHT[p]? = some (.inl (ci, sh))) : cell G p f = .inr (ci, fvals G sh f) := by
  unfold cell
  rw [h]
theorem cell_refs {G : GG} {p t : Nat} {l : List Nat} {f : Nat → Int32} (h : SHT[p]? = some (.inr (.inr (t, l)))) : cell G p f = .inl (G.2.2 t, l.length, .inr (.inr (.inr (.inr (fun i => (l[i]?).map G.2.1))))) := by
  unfold cell
  rw [h]
/-- the addresses of the world -/
def WA (G : GG) : Nat → Prop := fun q => ∃ p, p < NC ∧ q = G.2.1 p
def Inj (G : GG) : Prop := ∀ i j, i < NC → j < NC → G.2.1 i = G.2.1 j → i = j
theorem pic_D {G : GG} (hI : Inj G) (m : M) : va_D (WA G) (pic G m) := by
  have key : ∀ (k : Nat) (q : Nat × va_E), (pic G m)[k]? = some q → k < NC ∧ q.1 = G.2.1 k := by
    intro k q hk
    by_cases h : k < NC
    · rw [pic_at h] at hk
      cases hk
      exact ⟨h, rfl⟩
    · rw [List.getElem?_eq_none (by rw [pic_len]; omega)] at hk
      cases hk
  refine ⟨fun i j p q hi hj e => ?_, fun k q hk => ?_⟩
  · obtain ⟨h1, h2⟩ := key i p hi
    obtain ⟨h3, h4⟩ := key j q hj
    exact hI i j h1 h3 (by rw [← h2, ← h4]; exact e)
  · obtain ⟨h1, h2⟩ := key k q hk
    exact ⟨k, h1, h2⟩
def tysG (G : GG) : List (ClassId × FieldType) := [(G.2.2 0, .int), (G.2.2 1, .char), (G.2.2 2, .array .int), (G.2.2 3, .object "WreckBoard$Member")]
/-- the statics and strings: read, never written -/
def tabSelf : List Int32 := [1, 3, 5, 13, 17, 49]
def tabOrders : List Int32 := [1, 1, 2, 6, 24, 120]
def txtNames : List Int32 := [109, 101, 109, 98, 101, 114, 32, 119, 114, 101, 99, 107, 101, 114, 32, 115, 97, 118, 101, 114, 32, 99, 104, 97, 105, 114, 32, 102, 97, 114, 109, 101, 114, 32, 108, 97, 100, 32, 100, 105, 109, 32, 107, 101, 101, 112, 32, 116, 114, 105, 109, 32, 105, 102, 32, 111, 114, 32, 97, 110, 100, 32, 110, 111, 116, 32, 110, 105, 103, 104, 116, 32, 103, 114, 101, 101, 100, 32, 118, 111, 116, 101, 115, 32, 108, 105, 103, 104, 116, 32, 110, 117, 109, 98, 101, 114]
def txtSigns : List Int32 := [60, 61, 62, 40, 41, 59]
def lenS : List Nat := [96, 6]
def bytS : List (List Int32) := [txtNames, txtSigns]
def nwl : List (String × Nat × MethodName × String) := [("WreckBoard", 11, ⟨"WreckBoard$Board", "<init>", "()V"⟩, "WreckBoard"), ("WreckBoard$Board", 45, ⟨"WreckBoard$Rules", "<init>", "()V"⟩, "WreckBoard"), ("WreckBoard$Board", 52, ⟨"WreckBoard$Reports", "<init>", "()V"⟩, "WreckBoard"), ("WreckBoard$Board", 59, ⟨"WreckBoard$Member", "<init>", "()V"⟩, "WreckBoard"), ("WreckBoard$Board", 62, ⟨"WreckBoard$Wrecker", "<init>", "()V"⟩, "WreckBoard"), ("WreckBoard$Wrecker", 1, ⟨"WreckBoard$Member", "<init>", "()V"⟩, "WreckBoard"), ("WreckBoard$Board", 65, ⟨"WreckBoard$Saver", "<init>", "()V"⟩, "WreckBoard"), ("WreckBoard$Saver", 1, ⟨"WreckBoard$Member", "<init>", "()V"⟩, "WreckBoard"), ("WreckBoard$Board", 68, ⟨"WreckBoard$Chair", "<init>", "()V"⟩, "WreckBoard"), ("WreckBoard$Chair", 1, ⟨"WreckBoard$Saver", "<init>", "()V"⟩, "WreckBoard"), ("WreckBoard$Board", 71, ⟨"WreckBoard$Farmer", "<init>", "()V"⟩, "WreckBoard"), ("WreckBoard$Farmer", 1, ⟨"WreckBoard$Member", "<init>", "()V"⟩, "WreckBoard"), ("WreckBoard$Board", 74, ⟨"WreckBoard$Lad", "<init>", "()V"⟩, "WreckBoard"), ("WreckBoard$Lad", 1, ⟨"WreckBoard$Farmer", "<init>", "()V"⟩, "WreckBoard"), ("WreckBoard", 21, ⟨"WreckBoard$Tape", "<init>", "()V"⟩, "WreckBoard"), ("WreckBoard", 28, ⟨"WreckBoard$Rules", "<init>", "()V"⟩, "WreckBoard"), ("WreckBoard", 56, ⟨"WreckBoard$Deed", "<init>", "()V"⟩, "WreckBoard"), ("WreckBoard$Board", 82, ⟨"WreckBoard", "within", "(III)Z"⟩, "WreckBoard"), ("WreckBoard$Board", 89, ⟨"WreckBoard", "isIn", "(II)Z"⟩, "WreckBoard"), ("WreckBoard$Board", 127, ⟨"WreckBoard", "side", "(I)I"⟩, "WreckBoard"), ("WreckBoard$Board", 135, ⟨"WreckBoard", "isKindOrUnder", "(II)Z"⟩, "WreckBoard"), ("WreckBoard$Tape", 51, ⟨"WreckBoard", "within", "(III)Z"⟩, "WreckBoard"), ("WreckBoard$Reports", 73, ⟨"WreckBoard", "within", "(III)Z"⟩, "WreckBoard"), ("WreckBoard$Reports", 54, ⟨"WreckBoard", "side", "(I)I"⟩, "WreckBoard")]
def dcl : List MethodName := [⟨"WreckBoard$Member", "moves", "(LWreckBoard$Deed;I)I"⟩, ⟨"WreckBoard$Member", "seconds", "(LWreckBoard$Deed;I)I"⟩, ⟨"WreckBoard$Member", "bows", "(LWreckBoard$Deed;I)I"⟩, ⟨"WreckBoard$Saver", "seconds", "(LWreckBoard$Deed;I)I"⟩]
def Ro (G : GG) (U : State) (H : Heap) : Prop :=
  (va_Z "WreckBoard" "SELF_AND_ABOVE" "[I" (.ref (G.2.1 200)) (WA G) U H ∧ va_T .int (G.2.1 200) 6 (fun j => .int (tabSelf.getD j 0)) (WA G) U H) ∧
  (va_Z "WreckBoard" "ORDERS" "[I" (.ref (G.2.1 201)) (WA G) U H ∧ va_T .int (G.2.1 201) 6 (fun j => .int (tabOrders.getD j 0)) (WA G) U H) ∧
  vk_S 2 lenS bytS (fun i => G.2.1 (210 + i)) (fun i => G.2.1 (220 + i)) (WA G) U H ∧
  (vk_R "WreckBoard$Tape" 69 "member wrecker saver chair farmer lad dim keep trim if or and not night greed votes light number" (G.2.1 210) U ∧ vk_R "WreckBoard$Tape" 55 "<=>();" (G.2.1 211) U) ∧
  va_Z "java/lang/String" "COMPACT_STRINGS" "Z" (.int 1) (WA G) U H ∧
  (∀ q ∈ nwl, va_Nw (.methodLinkNest q.1 q.2.1 q.2.2.1 q.2.2.2) U) ∧
  (∃ w : Value, w.category = 1 ∧ va_Z "jdk/internal/util/Preconditions" "SIOOBE_FORMATTER" "Ljava/util/function/BiFunction;" w (WA G) U H) ∧
  ∀ y ∈ dcl, va_Nw (.declares y) U
theorem Ro.go {G : GG} {s U : State} {H0 H : Heap} (h : Ro G s H0) (hW : s.WarmedH U.vm) (hq : ∀ a : Nat, a < H0.size → ¬ WA G a → H[a]? = H0[a]?) : Ro G U H := by
  obtain ⟨⟨a1, a2⟩, ⟨b1, b2⟩, c1, ⟨d1, d2⟩, e1, f1, ⟨w, g0, g1⟩, i1⟩ := h
  have hv := hW.alike
  exact ⟨⟨(a1.moved hv).kept hq, (a2.moved hv).kept hq⟩, ⟨(b1.moved hv).kept hq, (b2.moved hv).kept hq⟩, (c1.moved hv).kept hq, ⟨d1.warm hW, d2.warm hW⟩, (e1.moved hv).kept hq, fun q hm => va_Nw.warmM hW (f1 q hm), ⟨w, g0, (g1.moved hv).kept hq⟩, fun q hm => va_Nw.warmD hW (i1 q hm)⟩
