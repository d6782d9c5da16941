/-! constructors: a world that grows; addresses are a function of places -/
abbrev AV : Type := Nat ⊕ Int32
def avV (ad : Nat → Nat) (v : AV) : Value := match v with
  | .inl p => .ref (ad p)
  | .inr i => .int i
abbrev SX : Type := (Nat × List (Option (Option Nat))) ⊕ (Nat × Nat) ⊕ (Nat × List (Option Nat))
abbrev CW : Type := List (Nat × SX)
def xval (ad : Nat → Nat) (r : Option (Option Nat)) (v : Int32) : Value := match r with
  | none => .int v
  | some q => va_rf (q.map ad)
def xvals (ad : Nat → Nat) (sh : List (Option (Option Nat))) (f : Nat → Int32) : List Value := (List.range sh.length).map (fun k => xval ad (sh.getD k none) (f k))
def cellX (ad : Nat → Nat) (cA : Nat → ClassId) (s : SX) (f : Nat → Int32) : va_E := match s with
  | .inl o => .inr (o.1, xvals ad o.2 f)
  | .inr (.inl a) => .inl (cA a.1, a.2, .inl f)
  | .inr (.inr r) => .inl (cA r.1, r.2.length, .inr (.inr (.inr (.inr (fun i => (r.2.getD i none).map ad)))))
def picX (ad : Nat → Nat) (cA : Nat → ClassId) (w : CW) (m : M) : va_W := w.map (fun e => (ad e.1, cellX ad cA e.2 (m e.1)))
def tysC (cA : Nat → ClassId) : List (ClassId × FieldType) := [(cA 0, .int), (cA 1, .char), (cA 2, .array .int), (cA 3, .object "WreckBoard$Member")]
def casl : List String := ["WreckBoard$Wrecker", "WreckBoard$Saver", "WreckBoard$Chair", "WreckBoard$Farmer", "WreckBoard$Lad"]
def cAOA (U : State) : Prop := (Cond.arrayOver (.array .int)).before #[] U = true
def StC (D : va_G) (cA : Nat → ClassId) (z : Nat) (ad : Nat → Nat) (w : CW) (m : M) : State → Prop := fun U => va_P D vwCl (picX ad cA w m) U.heap ∧ va_D (fun q => z ≤ q) (picX ad cA w m) ∧ va_K D vwCl (tysC cA) U ∧ z ≤ U.heap.size ∧ (∀ q ∈ nwl, va_Nw (.methodLinkNest q.1 q.2.1 q.2.2.1 q.2.2.2) U) ∧ va_AO "WreckBoard$Member" U ∧ cAOA U ∧ (∀ C ∈ casl, va_Nw (.castable C "WreckBoard$Member") U)
def QC (D : va_G) (cA : Nat → ClassId) (z : Nat) (ad0 : Nat → Nat) (w0 w' : CW) (m' : M) : Array Value → State → Outcome → State → Prop := fun _ st oc t => (oc = .returned none ∧ ∃ ad' : Nat → Nat, (∀ e ∈ w0, ad' e.1 = ad0 e.1) ∧ va_P D vwCl (picX ad' cA w' m') t.heap ∧ va_D (fun q => z ≤ q) (picX ad' cA w' m')) ∧ va_F (fun q => z ≤ q) st t
def rmC (lev mc ms : Nat) : Room := { frames := lev, cells := mc, slots := ms, locals := 64 * lev }
def CtC (l : Launch) (D : va_G) (cA : Nat → ClassId) (z : Nat) (y : MethodName) (cc : ByteArray) (maxL lev mc ms : Nat) (av : List AV) (w : CW) (m : M) (w' : CW) (m' : M) : Prop := ∀ ad : Nat → Nat, Met l y (wy y cc maxL none) (rmC lev mc ms) (va_Pc (av.map (avV ad)) (StC D cA z ad w m)) (QC D cA z ad w w' m') mc ms (fun q => z ≤ q)
def CEn (D : va_G) (cA : Nat → ClassId) (z : Nat) (x : Cx) (cc : ByteArray) (own : String) (lev mc ms : Nat) : Prop :=
  (xp x).tables.exec = Jvm.exec ∧ (xc x).code = cc ∧ (xc x).maxLocals = xn x ∧ (xs x).vm.findClass own = some (xm x).cls ∧ (∀ w ∈ gw, w.before (xa x) (xs x) = true) ∧ va_K D vwCl (tysC cA) (xs x) ∧ (xh x).locks = false ∧ z ≤ (xs x).heap.size ∧ lev ≤ (xR x).frames ∧ 64 * lev ≤ (xR x).locals ∧ mc ≤ (xR x).cells ∧ ms ≤ (xR x).slots ∧ (xh x).sig.returnType = none ∧ (xh x).name = "<init>" ∧ (∀ q ∈ nwl, va_Nw (.methodLinkNest q.1 q.2.1 q.2.2.1 q.2.2.2) (xs x)) ∧ va_AO "WreckBoard$Member" (xs x) ∧ cAOA (xs x) ∧ (∀ C ∈ casl, va_Nw (.castable C "WreckBoard$Member") (xs x))
theorem CEn.hx {D cA z x cc own lev mc ms} (E : CEn D cA z x cc own lev mc ms) : (xp x).tables.exec = Jvm.exec := E.1
theorem CEn.hb {D cA z x cc own lev mc ms} (E : CEn D cA z x cc own lev mc ms) : (xc x).code = cc := E.2.1
theorem CEn.hml {D cA z x cc own lev mc ms} (E : CEn D cA z x cc own lev mc ms) : (xc x).maxLocals = xn x := E.2.2.1
theorem CEn.hown {D cA z x cc own lev mc ms} (E : CEn D cA z x cc own lev mc ms) : (xs x).vm.findClass own = some (xm x).cls := E.2.2.2.1
theorem CEn.hts {D cA z x cc own lev mc ms} (E : CEn D cA z x cc own lev mc ms) : ∀ w ∈ gw, w.before (xa x) (xs x) = true := E.2.2.2.2.1
theorem CEn.hK {D cA z x cc own lev mc ms} (E : CEn D cA z x cc own lev mc ms) : va_K D vwCl (tysC cA) (xs x) := E.2.2.2.2.2.1
theorem CEn.hlocks {D cA z x cc own lev mc ms} (E : CEn D cA z x cc own lev mc ms) : (xh x).locks = false := E.2.2.2.2.2.2.1
theorem CEn.hz {D cA z x cc own lev mc ms} (E : CEn D cA z x cc own lev mc ms) : z ≤ (xs x).heap.size := E.2.2.2.2.2.2.2.1
theorem CEn.hfr {D cA z x cc own lev mc ms} (E : CEn D cA z x cc own lev mc ms) : lev ≤ (xR x).frames := E.2.2.2.2.2.2.2.2.1
theorem CEn.hlo {D cA z x cc own lev mc ms} (E : CEn D cA z x cc own lev mc ms) : 64 * lev ≤ (xR x).locals := E.2.2.2.2.2.2.2.2.2.1
theorem CEn.hce {D cA z x cc own lev mc ms} (E : CEn D cA z x cc own lev mc ms) : mc ≤ (xR x).cells := E.2.2.2.2.2.2.2.2.2.2.1
theorem CEn.hsl {D cA z x cc own lev mc ms} (E : CEn D cA z x cc own lev mc ms) : ms ≤ (xR x).slots := E.2.2.2.2.2.2.2.2.2.2.2.1
theorem CEn.hret {D cA z x cc own lev mc ms} (E : CEn D cA z x cc own lev mc ms) : (xh x).sig.returnType = none := E.2.2.2.2.2.2.2.2.2.2.2.2.1
theorem CEn.hin {D cA z x cc own lev mc ms} (E : CEn D cA z x cc own lev mc ms) : (xh x).name = "<init>" := E.2.2.2.2.2.2.2.2.2.2.2.2.2.1
theorem CEn.hnw {D cA z x cc own lev mc ms} (E : CEn D cA z x cc own lev mc ms) : ∀ q ∈ nwl, va_Nw (.methodLinkNest q.1 q.2.1 q.2.2.1 q.2.2.2) (xs x) := E.2.2.2.2.2.2.2.2.2.2.2.2.2.2.1
theorem CEn.hAO {D cA z x cc own lev mc ms} (E : CEn D cA z x cc own lev mc ms) : va_AO "WreckBoard$Member" (xs x) := E.2.2.2.2.2.2.2.2.2.2.2.2.2.2.2.1
theorem CEn.hAOA {D cA z x cc own lev mc ms} (E : CEn D cA z x cc own lev mc ms) : cAOA (xs x) := E.2.2.2.2.2.2.2.2.2.2.2.2.2.2.2.2.1
theorem CEn.hcast {D cA z x cc own lev mc ms} (E : CEn D cA z x cc own lev mc ms) : ∀ C ∈ casl, va_Nw (.castable C "WreckBoard$Member") (xs x) := E.2.2.2.2.2.2.2.2.2.2.2.2.2.2.2.2.2
def Cm (D : va_G) (cA : Nat → ClassId) (z : Nat) (x : Cx) (ad0 : Nat → Nat) (w0 wE : CW) (mE : M) (mc ms : Nat) (pc : Nat) (lv : List (Nat × AV)) (st : List AV) (w : CW) (m : M) (cells slots : Nat) : Prop :=
  ∀ ad : Nat → Nat, (∀ e ∈ w0, ad e.1 = ad0 e.1) → ∀ (H : Heap) (locs : List Loc) (ls : Array Slot), va_P D vwCl (picX ad cA w m) H → va_D (fun q => z ≤ q) (picX ad cA w m) → va_S (fun q => z ≤ q) (xs x).heap H locs → lv_has ls (xn x) (lv.map (fun e => (e.1, avV ad e.2))) → W (xp x) (xl x) (xe x) (xR x) (xs x) (xm x) (xa x) (xb x) (xh x) (xc x) H locs cells slots (MQ (xb x) (QC D cA z ad0 w0 wE mE) (xa x) (xs x) mc ms (fun q => z ≤ q)) (F0 (xm x) pc ls (st.map (avV ad)))
theorem picX_at {ad : Nat → Nat} {cA : Nat → ClassId} {w : CW} {m : M} {i : Nat} {e : Nat × SX} (h : w[i]? = some e) : (picX ad cA w m)[i]? = some (ad e.1, cellX ad cA e.2 (m e.1)) := by
  unfold picX
  rw [List.getElem?_map, h]
  rfl
theorem picX_set {ad : Nat → Nat} {cA : Nat → ClassId} {w : CW} {m : M} {i : Nat} {e : Nat × SX} : (picX ad cA w m).set i (ad e.1, cellX ad cA e.2 (m e.1)) = picX ad cA (w.set i e) m := by
  unfold picX
  rw [List.map_set]
theorem picX_mem {ad : Nat → Nat} {cA : Nat → ClassId} {A : Nat → Prop} {w : CW} {m : M} {i : Nat} {p : Nat} {s : SX} {f : Nat → Int32} (hD : va_D A (picX ad cA w m)) (h : w[i]? = some (p, s)) : (picX ad cA w m).set i (ad p, cellX ad cA s f) = picX ad cA w (mset m p f) := by
  have hi := (List.getElem?_eq_some_iff.mp h).1
  apply List.ext_getElem?
  intro j
  by_cases hj : j < w.length
  · have he : w[j]? = some w[j] := List.getElem?_eq_getElem hj
    rw [picX_at he]
    by_cases hij : i = j
    · subst hij
      rw [List.getElem?_set_self (by unfold picX; rw [List.length_map]; exact hi)]
      rw [h] at he
      rw [← Option.some.inj he]
      simp [mset]
    · rw [List.getElem?_set_ne hij, picX_at he]
      have hne : w[j].1 ≠ p := fun e => hij (hD.1 i j _ _ (picX_at h) (picX_at he) (by rw [e]))
      simp [mset, hne]
  · rw [List.getElem?_eq_none (by rw [List.length_set]; unfold picX; rw [List.length_map]; omega), List.getElem?_eq_none (by unfold picX; rw [List.length_map]; omega)]
theorem xvals_set {ad : Nat → Nat} {sh : List (Option (Option Nat))} {f : Nat → Int32} {k : Nat} {v : Int32} (h : sh[k]? = some none) : xvals ad sh (upd f k v) = (xvals ad sh f).set k (.int v) := by
  have hk := (List.getElem?_eq_some_iff.mp h).1
  apply List.ext_getElem?
  intro i
  unfold xvals
  by_cases hi : i < sh.length
  · rw [List.getElem?_map, List.getElem?_range hi]
    by_cases hki : k = i
    · subst hki
      rw [List.getElem?_set_self (by rw [List.length_map, List.length_range]; exact hk)]
      have h2 : sh.getD k none = none := by rw [List.getD_eq_getElem?_getD, h]; rfl
      show some (xval ad (sh.getD k none) (upd f k v k)) = _
      rw [h2]
      simp [xval, upd]
    · rw [List.getElem?_set_ne hki, List.getElem?_map, List.getElem?_range hi]
      simp [upd, Ne.symm hki]
  · rw [List.getElem?_eq_none (by rw [List.length_map, List.length_range]; omega), List.getElem?_eq_none (by rw [List.length_set, List.length_map, List.length_range]; omega)]
theorem xvals_setr {ad : Nat → Nat} {sh : List (Option (Option Nat))} {f : Nat → Int32} {k q : Nat} (h : k < sh.length) : xvals ad (sh.set k (some (some q))) f = (xvals ad sh f).set k (.ref (ad q)) := by
  apply List.ext_getElem?
  intro i
  unfold xvals
  rw [List.length_set]
  by_cases hi : i < sh.length
  · rw [List.getElem?_map, List.getElem?_range hi]
    by_cases hki : k = i
    · subst hki
      rw [List.getElem?_set_self (by rw [List.length_map, List.length_range]; exact h)]
      show some (xval ad ((sh.set k (some (some q))).getD k none) (f k)) = _
      rw [List.getD_eq_getElem?_getD, List.getElem?_set_self h]
      rfl
    · rw [List.getElem?_set_ne hki, List.getElem?_map, List.getElem?_range hi]
      show some (xval ad ((sh.set k (some (some q))).getD i none) (f i)) = some (xval ad (sh.getD i none) (f i))
      rw [List.getD_eq_getElem?_getD, List.getElem?_set_ne hki, ← List.getD_eq_getElem?_getD]
  · rw [List.getElem?_eq_none (by rw [List.length_map, List.length_range]; omega), List.getElem?_eq_none (by rw [List.length_set, List.length_map, List.length_range]; omega)]
theorem xvals_at {ad : Nat → Nat} {sh : List (Option (Option Nat))} {f : Nat → Int32} {k : Nat} {r : Option (Option Nat)} (h : sh[k]? = some r) : (xvals ad sh f)[k]? = some (xval ad r (f k)) := by
  have hk := (List.getElem?_eq_some_iff.mp h).1
  unfold xvals
  rw [List.getElem?_map, List.getElem?_range hk]
  have h2 : sh.getD k none = r := by rw [List.getD_eq_getElem?_getD, h]; rfl
  show some (xval ad (sh.getD k none) (f k)) = _
  rw [h2]
/-- a place that is nowhere yet gets an address -/
theorem picX_fresh {ad : Nat → Nat} {cA : Nat → ClassId} {w : CW} {m : M} {p q : Nat} (h : ∀ e ∈ w, e.1 ≠ p ∧ (match e.2 with | .inl o => ∀ r ∈ o.2, r ≠ some (some p) | .inr (.inl _) => True | .inr (.inr r) => ∀ y ∈ r.2, y ≠ some p)) : picX (fun r => if r = p then q else ad r) cA w m = picX ad cA w m := by
  unfold picX
  apply List.map_congr_left
  intro e he
  obtain ⟨h1, h2⟩ := h e he
  obtain ⟨a, s⟩ := e
  have ha : (if a = p then q else ad a) = ad a := if_neg h1
  refine Prod.ext ha ?_
  rcases s with o | a2 | r
  · show Sum.inr (o.1, xvals _ o.2 _) = Sum.inr (o.1, xvals _ o.2 _)
    congr 2
    unfold xvals
    apply List.map_congr_left
    intro k hk
    have hk2 : k < o.2.length := List.mem_range.mp hk
    rw [List.getD_eq_getElem?_getD, List.getElem?_eq_getElem hk2]
    have h3 := h2 _ (List.getElem_mem hk2)
    show xval _ o.2[k] _ = xval _ o.2[k] _
    cases hr : o.2[k] with
    | none => rfl
    | some v =>
      cases v with
      | none => rfl
      | some u =>
        have hu : u ≠ p := fun e => h3 (by rw [hr, e])
        show va_rf (some (if u = p then q else ad u)) = _
        rw [if_neg hu]
        rfl
  · rfl
  · show Sum.inl (cA r.1, r.2.length, _) = Sum.inl (cA r.1, r.2.length, _)
    congr 6
    refine congrArg Sum.inr ?_
    funext i
    rw [List.getD_eq_getElem?_getD]
    by_cases hi : i < r.2.length
    · rw [List.getElem?_eq_getElem hi]
      have h3 := h2 _ (List.getElem_mem hi)
      show Option.map _ r.2[i] = Option.map _ r.2[i]
      cases hr : r.2[i] with
      | none => rfl
      | some u =>
        have hu : u ≠ p := fun e => h3 (by rw [hr, e])
        show some (if u = p then q else ad u) = _
        rw [if_neg hu]
        rfl
    · rw [List.getElem?_eq_none (Nat.not_lt.mp hi)]
      rfl
/-- the same as a test -/
def freshP (p : Nat) (w : CW) : Bool := w.all (fun e => e.1 != p && (match e.2 with | .inl o => o.2.all (fun r => decide (r ≠ some (some p))) | .inr (.inl _) => true | .inr (.inr r) => r.2.all (fun y => decide (y ≠ some p))))
theorem fresh_of {p : Nat} {w : CW} (h : freshP p w = true) : ∀ e ∈ w, e.1 ≠ p ∧ (match e.2 with | .inl o => ∀ r ∈ o.2, r ≠ some (some p) | .inr (.inl _) => True | .inr (.inr r) => ∀ y ∈ r.2, y ≠ some p) := by
  intro e he
  have h1 := List.all_eq_true.mp h e he
  obtain ⟨a, s⟩ := e
  rw [Bool.and_eq_true] at h1
  refine ⟨by simpa using h1.1, ?_⟩
  have h2 := h1.2
  rcases s with o | a2 | r
  · intro r hr
    exact of_decide_eq_true (List.all_eq_true.mp h2 r hr)
  · trivial
  · intro y hy
    exact of_decide_eq_true (List.all_eq_true.mp h2 y hy)
def noP (p : Nat) (l : List AV) : Bool := l.all (fun v => decide (v ≠ .inl p))
theorem noP_map {p q : Nat} {ad : Nat → Nat} {l : List AV} (h : noP p l = true) : l.map (avV (fun r => if r = p then q else ad r)) = l.map (avV ad) := by
  apply List.map_congr_left
  intro v hv
  have := of_decide_eq_true (List.all_eq_true.mp h v hv)
  cases v with
  | inl r =>
    have hr : r ≠ p := fun e => this (by rw [e])
    show Value.ref (if r = p then q else ad r) = Value.ref (ad r)
    rw [if_neg hr]
  | inr i => rfl
theorem noP_lv {p q : Nat} {ad : Nat → Nat} {l : List (Nat × AV)} (h : noP p (l.map Prod.snd) = true) : l.map (fun e => (e.1, avV (fun r => if r = p then q else ad r) e.2)) = l.map (fun e => (e.1, avV ad e.2)) := by
  apply List.map_congr_left
  intro e he
  have := of_decide_eq_true (List.all_eq_true.mp h e.2 (List.mem_map.mpr ⟨e, he, rfl⟩))
  obtain ⟨a, v⟩ := e
  cases v with
  | inl r =>
    have hr : r ≠ p := fun e => this (by rw [e])
    show (a, Value.ref (if r = p then q else ad r)) = (a, Value.ref (ad r))
    rw [if_neg hr]
  | inr i => rfl
