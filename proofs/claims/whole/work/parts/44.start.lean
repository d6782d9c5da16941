/-! from the law's entry: the two constructors, the statics, then the loop -/
def toSX (x : SHs) : SX := match x with
  | .inl o => .inl (o.1, o.2.map (Option.map some))
  | .inr (.inl a) => .inr (.inl a)
  | .inr (.inr r) => .inr (.inr (r.1, r.2.map some))
theorem cell_toSX {D : va_G} {ad : Nat → Nat} {cA : Nat → ClassId} {p : Nat} {x : SHs} {f : Nat → Int32} (h : SHT[p]? = some x) : cellX ad cA (toSX x) f = cell (D, ad, cA) p f := by
  unfold cell
  rw [h]
  rcases x with o | a | r
  · show Sum.inr (o.1, xvals ad (o.2.map (Option.map some)) f) = Sum.inr (o.1, fvals (D, ad, cA) o.2 f)
    congr 2
    unfold xvals fvals
    rw [List.length_map]
    apply List.map_congr_left
    intro k hk
    have hk2 := List.mem_range.mp hk
    rw [List.getD_eq_getElem?_getD, List.getD_eq_getElem?_getD, List.getElem?_map, List.getElem?_eq_getElem hk2]
    show xval ad (Option.map some o.2[k]) (f k) = fval (D, ad, cA) o.2[k] (f k)
    cases o.2[k] <;> rfl
  · rfl
  · show Sum.inl (cA r.1, (r.2.map some).length, _) = Sum.inl (cA r.1, r.2.length, _)
    rw [List.length_map]
    congr 6
    refine congrArg Sum.inr ?_
    funext i
    rw [List.getD_eq_getElem?_getD, List.getElem?_map]
    cases r.2[i]? <;> rfl
/-- all places and references of a world are below 97 -/
def lowW (w : CW) : Bool := w.all (fun e => decide (e.1 < 97) && (match e.2 with | .inl o => o.2.all (fun r => match r with | some (some q) => decide (q < 97) | _ => true) | .inr (.inl _) => true | .inr (.inr r) => r.2.all (fun y => match y with | some q => decide (q < 97) | none => true)))
theorem picX_congr {ad ad' : Nat → Nat} {cA : Nat → ClassId} {w : CW} {m : M} (h : ∀ p, p < 97 → ad p = ad' p) (hw : lowW w = true) : picX ad cA w m = picX ad' cA w m := by
  unfold picX
  apply List.map_congr_left
  intro e he
  have h1 := List.all_eq_true.mp hw e he
  rw [Bool.and_eq_true] at h1
  obtain ⟨a, s⟩ := e
  refine Prod.ext (h a (of_decide_eq_true h1.1)) ?_
  have h2 := h1.2
  rcases s with o | a2 | r
  · show Sum.inr (o.1, xvals ad o.2 _) = Sum.inr (o.1, xvals ad' o.2 _)
    congr 2
    unfold xvals
    apply List.map_congr_left
    intro k hk
    have hk2 : k < o.2.length := List.mem_range.mp hk
    rw [List.getD_eq_getElem?_getD, List.getElem?_eq_getElem hk2]
    have h3 := List.all_eq_true.mp h2 _ (List.getElem_mem hk2)
    show xval ad o.2[k] _ = xval ad' o.2[k] _
    cases hr : o.2[k] with
    | none => rfl
    | some v =>
      cases v with
      | none => rfl
      | some u =>
        rw [hr] at h3
        show Value.ref (ad u) = Value.ref (ad' u)
        rw [h u (of_decide_eq_true h3)]
  · rfl
  · show Sum.inl (cA r.1, r.2.length, _) = Sum.inl (cA r.1, r.2.length, _)
    congr 6
    refine congrArg Sum.inr ?_
    funext i
    rw [List.getD_eq_getElem?_getD]
    by_cases hi : i < r.2.length
    · rw [List.getElem?_eq_getElem hi]
      have h3 := List.all_eq_true.mp h2 _ (List.getElem_mem hi)
      show Option.map ad r.2[i] = Option.map ad' r.2[i]
      cases hr : r.2[i] with
      | none => rfl
      | some u =>
        rw [hr] at h3
        show some (ad u) = some (ad' u)
        rw [h u (of_decide_eq_true h3)]
    · rw [List.getElem?_eq_none (Nat.not_lt.mp hi)]
      rfl
theorem low_cwr : lowW cwr41 = true := by decide +kernel
theorem cwr_at {p : Nat} (hp : p < 97) : ∃ (x : SHs) (i : Nat), SHT[p]? = some x ∧ cwr41[i]? = some (p, toSX x) := by
  match p, hp with
  | 0, _ => exact ⟨_, 0, rfl, rfl⟩
  | 1, _ => exact ⟨_, 1, rfl, rfl⟩
  | 2, _ => exact ⟨_, 26, rfl, rfl⟩
  | 3, _ => exact ⟨_, 9, rfl, rfl⟩
  | 4, _ => exact ⟨_, 14, rfl, rfl⟩
  | 5, _ => exact ⟨_, 34, rfl, rfl⟩
  | 6, _ => exact ⟨_, 39, rfl, rfl⟩
  | 7, _ => exact ⟨_, 51, rfl, rfl⟩
  | 8, _ => exact ⟨_, 55, rfl, rfl⟩
  | 9, _ => exact ⟨_, 74, rfl, rfl⟩
  | 10, _ => exact ⟨_, 2, rfl, rfl⟩
  | 11, _ => exact ⟨_, 3, rfl, rfl⟩
  | 12, _ => exact ⟨_, 4, rfl, rfl⟩
  | 13, _ => exact ⟨_, 5, rfl, rfl⟩
  | 14, _ => exact ⟨_, 6, rfl, rfl⟩
  | 15, _ => exact ⟨_, 7, rfl, rfl⟩
  | 16, _ => exact ⟨_, 8, rfl, rfl⟩
  | 17, _ => exact ⟨_, 19, rfl, rfl⟩
  | 18, _ => exact ⟨_, 27, rfl, rfl⟩
  | 19, _ => exact ⟨_, 28, rfl, rfl⟩
  | 20, _ => exact ⟨_, 29, rfl, rfl⟩
  | 21, _ => exact ⟨_, 30, rfl, rfl⟩
  | 22, _ => exact ⟨_, 31, rfl, rfl⟩
  | 23, _ => exact ⟨_, 32, rfl, rfl⟩
  | 24, _ => exact ⟨_, 33, rfl, rfl⟩
  | 25, _ => exact ⟨_, 44, rfl, rfl⟩
  | 26, _ => exact ⟨_, 10, rfl, rfl⟩
  | 27, _ => exact ⟨_, 11, rfl, rfl⟩
  | 28, _ => exact ⟨_, 12, rfl, rfl⟩
  | 29, _ => exact ⟨_, 13, rfl, rfl⟩
  | 30, _ => exact ⟨_, 15, rfl, rfl⟩
  | 31, _ => exact ⟨_, 16, rfl, rfl⟩
  | 32, _ => exact ⟨_, 17, rfl, rfl⟩
  | 33, _ => exact ⟨_, 18, rfl, rfl⟩
  | 34, _ => exact ⟨_, 35, rfl, rfl⟩
  | 35, _ => exact ⟨_, 36, rfl, rfl⟩
  | 36, _ => exact ⟨_, 37, rfl, rfl⟩
  | 37, _ => exact ⟨_, 38, rfl, rfl⟩
  | 38, _ => exact ⟨_, 40, rfl, rfl⟩
  | 39, _ => exact ⟨_, 41, rfl, rfl⟩
  | 40, _ => exact ⟨_, 42, rfl, rfl⟩
  | 41, _ => exact ⟨_, 43, rfl, rfl⟩
  | 42, _ => exact ⟨_, 56, rfl, rfl⟩
  | 43, _ => exact ⟨_, 57, rfl, rfl⟩
  | 44, _ => exact ⟨_, 58, rfl, rfl⟩
  | 45, _ => exact ⟨_, 59, rfl, rfl⟩
  | 46, _ => exact ⟨_, 52, rfl, rfl⟩
  | 47, _ => exact ⟨_, 53, rfl, rfl⟩
  | 48, _ => exact ⟨_, 54, rfl, rfl⟩
  | 49, _ => exact ⟨_, 75, rfl, rfl⟩
  | 50, _ => exact ⟨_, 60, rfl, rfl⟩
  | 51, _ => exact ⟨_, 61, rfl, rfl⟩
  | 52, _ => exact ⟨_, 62, rfl, rfl⟩
  | 53, _ => exact ⟨_, 63, rfl, rfl⟩
  | 54, _ => exact ⟨_, 64, rfl, rfl⟩
  | 55, _ => exact ⟨_, 67, rfl, rfl⟩
  | 56, _ => exact ⟨_, 68, rfl, rfl⟩
  | 57, _ => exact ⟨_, 69, rfl, rfl⟩
  | 58, _ => exact ⟨_, 70, rfl, rfl⟩
  | 59, _ => exact ⟨_, 71, rfl, rfl⟩
  | 60, _ => exact ⟨_, 65, rfl, rfl⟩
  | 61, _ => exact ⟨_, 66, rfl, rfl⟩
  | 62, _ => exact ⟨_, 72, rfl, rfl⟩
  | 63, _ => exact ⟨_, 73, rfl, rfl⟩
  | 64, _ => exact ⟨_, 20, rfl, rfl⟩
  | 65, _ => exact ⟨_, 21, rfl, rfl⟩
  | 66, _ => exact ⟨_, 22, rfl, rfl⟩
  | 67, _ => exact ⟨_, 23, rfl, rfl⟩
  | 68, _ => exact ⟨_, 24, rfl, rfl⟩
  | 69, _ => exact ⟨_, 25, rfl, rfl⟩
  | 70, _ => exact ⟨_, 45, rfl, rfl⟩
  | 71, _ => exact ⟨_, 46, rfl, rfl⟩
  | 72, _ => exact ⟨_, 47, rfl, rfl⟩
  | 73, _ => exact ⟨_, 48, rfl, rfl⟩
  | 74, _ => exact ⟨_, 49, rfl, rfl⟩
  | 75, _ => exact ⟨_, 50, rfl, rfl⟩
  | 76, _ => exact ⟨_, 76, rfl, rfl⟩
  | 77, _ => exact ⟨_, 77, rfl, rfl⟩
  | 78, _ => exact ⟨_, 78, rfl, rfl⟩
  | 79, _ => exact ⟨_, 79, rfl, rfl⟩
  | 80, _ => exact ⟨_, 80, rfl, rfl⟩
  | 81, _ => exact ⟨_, 81, rfl, rfl⟩
  | 82, _ => exact ⟨_, 82, rfl, rfl⟩
  | 83, _ => exact ⟨_, 83, rfl, rfl⟩
  | 84, _ => exact ⟨_, 84, rfl, rfl⟩
  | 85, _ => exact ⟨_, 85, rfl, rfl⟩
  | 86, _ => exact ⟨_, 86, rfl, rfl⟩
  | 87, _ => exact ⟨_, 87, rfl, rfl⟩
  | 88, _ => exact ⟨_, 88, rfl, rfl⟩
  | 89, _ => exact ⟨_, 89, rfl, rfl⟩
  | 90, _ => exact ⟨_, 90, rfl, rfl⟩
  | 91, _ => exact ⟨_, 91, rfl, rfl⟩
  | 92, _ => exact ⟨_, 92, rfl, rfl⟩
  | 93, _ => exact ⟨_, 93, rfl, rfl⟩
  | 94, _ => exact ⟨_, 94, rfl, rfl⟩
  | 95, _ => exact ⟨_, 95, rfl, rfl⟩
  | 96, _ => exact ⟨_, 96, rfl, rfl⟩
  | p + 97, h => exact absurd h (by omega)
theorem fin_P {D : va_G} {ad : Nat → Nat} {cA : Nat → ClassId} {m : M} {H : Heap} (hP : va_P D vwCl (picX ad cA cwr41 m) H) : va_P D vwCl (pic (D, ad, cA) m) H := by
  intro k q hk
  by_cases h : k < NC
  · rw [pic_at h] at hk
    cases hk
    obtain ⟨x, i, h1, h2⟩ := cwr_at h
    have h3 := hP i _ (picX_at h2)
    rw [cell_toSX (D := D) h1] at h3
    exact h3
  · rw [List.getElem?_eq_none (by rw [pic_len]; omega)] at hk
    cases hk
theorem fin_I {D : va_G} {ad : Nat → Nat} {cA : Nat → ClassId} {m : M} {A : Nat → Prop} (hD : va_D A (picX ad cA cwr41 m)) : Inj (D, ad, cA) ∧ ∀ q, q < NC → A (ad q) := by
  refine ⟨fun i j hi hj e => ?_, fun q hq => ?_⟩
  · obtain ⟨x, a, h1, h2⟩ := cwr_at hi
    obtain ⟨y, b, h3, h4⟩ := cwr_at hj
    have hab := hD.1 a b _ _ (picX_at h2) (picX_at h4) e
    subst hab
    rw [h2] at h4
    exact (congrArg Prod.fst (Option.some.inj h4))
  · obtain ⟨x, a, h1, h2⟩ := cwr_at hq
    exact hD.2 a _ (picX_at h2)
theorem arrOver_facts {s : State} {args : Array Value} {t : FieldType} (ht : t = .array .int ∨ t = .object "WreckBoard$Member") (h : (Cond.arrayOver t).before args s = true) : ∃ c : ClassId, ArrOfT s c t ∧ va_RA s c t := by
  rcases ht with rfl | rfl
  · have h0 : (Cond.arrayOver (.array .int)).before args s = true := h
    unfold Cond.before Cond.holds at h0
    simp only [Cond.value, beq_iff_eq] at h0
    cases hc : s.vm.findClass (FieldType.array .int).toString with
    | none => simp [hc] at h0
    | some comp =>
      simp only [hc, Option.bind_some, Option.bind_eq_some_iff, Option.map_eq_some_iff] at h0
      obtain ⟨c, hi, k, hk, hb⟩ := h0
      cases hkind : k.kind with
      | array component ty =>
        rw [hkind] at hb
        simp only [Bool.and_eq_true, decide_eq_true_eq] at hb
        obtain ⟨rfl, hb2⟩ := hb
        exact ⟨c, fun N z => ⟨(fun k h => by cases h), k, hk, component, hkind⟩, hb2⟩
      | _ => rw [hkind] at hb; simp at hb
  · obtain ⟨comp, c, k, f1, f2, f3, f4, f5⟩ := Cond.arrayOver_spec h
    exact ⟨c, fun N z => ⟨(fun k h => by cases h), k, f3, comp, f4⟩, k, comp, f3, f4, f1, f5⟩
theorem arrCls_facts {s : State} {args : Array Value} {t : FieldType} (ht : t = .int ∨ t = .char) (h : (Cond.arrayClass t).before args s = true) : ∃ c : ClassId, ArrOfT s c t ∧ va_RA s c t := by
  obtain ⟨c, k, comp, f1, f2, f3⟩ := Cond.arrayClass_spec h
  refine ⟨c, fun N z => ⟨(fun k h => by cases h), k, f2, comp, f3⟩, ?_⟩
  rcases ht with rfl | rfl <;> exact f1
/-- a constructor's run, seen from the law -/
theorem w_ctor {p : Program} {l : Launch} {e : Env} {R : Room} {s : State} {mi : MethodId} {args : Array Value} {below : List Frame} {meth : Method} {c : Code} {H : Heap} {locs : List Loc} {cells slots mc ms : Nat} {Q : State → Prop} {pc : Nat} {ls : Array Slot} {rest st0 : List Value} {aa : Array Value} {D : va_G} {cA : Nat → ClassId} {ad : Nat → Nat} {w w' : CW} {m' : M}
    (hr : va_Run p l e R s mi args below meth c H locs cells slots mc ms (F0 mi pc ls st0) rest (QC D cA s.heap.size ad w w' m' aa) (fun q => s.heap.size ≤ q)) (hS : va_S (fun q => s.heap.size ≤ q) s.heap H locs)
    (kk : ∀ (ad' : Nat → Nat) (H1 : Heap) (locs1 : List Loc), (∀ e ∈ w, ad' e.1 = ad e.1) → va_P D vwCl (picX ad' cA w' m') H1 → va_D (fun q => s.heap.size ≤ q) (picX ad' cA w' m') → va_S (fun q => s.heap.size ≤ q) s.heap H1 locs1 → W p l e R s mi args below meth c H1 locs1 (cells + mc) (slots + ms) Q (F0 mi (pc + 3) ls rest)) : W p l e R s mi args below meth c H locs cells slots Q (F0 mi pc ls st0) := by
  intro T hT X
  obtain ⟨v, st₀, t, T', L, h0, X', hL, e1, e2, ⟨⟨hv, ad', hag, hPt, hDt⟩, hz, hk⟩, stp⟩ := hr T hT X
  cases hv
  rw [h0] at hz hk
  obtain ⟨t2, a1, b1⟩ := kk ad' T'.heap (locs ++ L) hag (by rw [e1]; exact hPt) hDt ⟨Nat.le_trans hS.1 (by rw [e1]; exact hz), fun q h1 h2 => by rw [e1, hk q (Nat.lt_of_lt_of_le h1 hS.1) h2]; exact hS.2.1 q h1 h2, fun q hq => by
    rcases List.mem_append.mp hq with h | h
    · exact hS.2.2 q h
    · exact hL q h⟩ T' rfl X'
  exact ⟨t2, stp t2 a1, b1⟩
theorem nwl_in : nwl.all (fun q => decide (Cond.methodLinkNest q.1 q.2.1 q.2.2.1 q.2.2.2 ∈ lw_tbl)) = true := by decide +kernel
theorem dcl_in : dcl.all (fun y => decide (Cond.declares y ∈ lw_tbl)) = true := by decide +kernel
set_option maxRecDepth 100000 in
set_option maxHeartbeats 4000000 in
/-- the statics and strings at the law's start -/
theorem start_Ro {s : State} {b : Nat} {D : va_G} {cA : Nat → ClassId} {ad3 : Nat → Nat} (hts : ∀ w ∈ lw_tbl, w.before #[Value.ref b] s = true) (hgv : (Jvm.Cond.and given_1 narrow_1).before #[Value.ref b] s = true) (had : ∀ q, q < NC → s.heap.size ≤ ad3 q) :
    ∃ ad : Nat → Nat, (∀ p, p < 97 → ad3 p = ad p) ∧ Ro (D, ad, cA) s s.heap := by
  have hs := flat_of_before _ hgv
  have hA : ∀ a : Nat, a < s.heap.size → ¬ (fun q : Nat => s.heap.size ≤ q) a := fun a h => Nat.not_le.mpr h
  obtain ⟨t1, ht1, hT1⟩ := va_Tof (args := #[Value.ref b]) (s := s) (tm := .static "WreckBoard" "SELF_AND_ABOVE" "[I") (ty := .int) (N := 6) (f := fun j => .int (tabSelf.getD j 0)) (A := fun q : Nat => s.heap.size ≤ q) (by decide) (hs _ (by decide +kernel)) (va_eqt (hs _ (by decide +kernel))) (fun j hj => va_eqt (hs _ (by revert j; decide +kernel))) hA
  obtain ⟨t2, ht2, hT2⟩ := va_Tof (args := #[Value.ref b]) (s := s) (tm := .static "WreckBoard" "ORDERS" "[I") (ty := .int) (N := 6) (f := fun j => .int (tabOrders.getD j 0)) (A := fun q : Nat => s.heap.size ≤ q) (by decide) (hs _ (by decide +kernel)) (va_eqt (hs _ (by decide +kernel))) (fun j hj => va_eqt (hs _ (by revert j; decide +kernel))) hA
  have hZ1 := va_Zof (A := fun q : Nat => s.heap.size ≤ q) (hts _ (List.mem_of_getElem? (i := 519) (by decide +kernel) : Cond.laysStatic "WreckBoard" "SELF_AND_ABOVE" "[I" ∈ lw_tbl)) (hts _ (gw_in W91)) ht1 hA
  have hZ2 := va_Zof (A := fun q : Nat => s.heap.size ≤ q) (hts _ (List.mem_of_getElem? (i := 898) (by decide +kernel) : Cond.laysStatic "WreckBoard" "ORDERS" "[I" ∈ lw_tbl)) (hts _ (gw_in W91)) ht2 hA
  have hZ3 := va_Zof (A := fun q : Nat => s.heap.size ≤ q) (hts _ (List.mem_of_getElem? (i := 633) (by decide +kernel) : Cond.laysStatic "java/lang/String" "COMPACT_STRINGS" "Z" ∈ lw_tbl)) (hts _ (List.mem_of_getElem? (i := 105) (by decide +kernel) : Cond.initialized "java/lang/String" ∈ lw_tbl)) (va_eqt (z := 1) (hs _ (by decide +kernel))) hA
  obtain ⟨w, hw1, hw2⟩ := Cond.isRef_spec (t := .static "jdk/internal/util/Preconditions" "SIOOBE_FORMATTER" "Ljava/util/function/BiFunction;") (hs _ (by decide +kernel))
  have hZ4 := va_Zof (A := fun q : Nat => s.heap.size ≤ q) (hts _ (List.mem_of_getElem? (i := 672) (by decide +kernel) : Cond.laysStatic "jdk/internal/util/Preconditions" "SIOOBE_FORMATTER" "Ljava/util/function/BiFunction;" ∈ lw_tbl)) (hts _ (List.mem_of_getElem? (i := 108) (by decide +kernel) : Cond.initialized "jdk/internal/util/Preconditions" ∈ lw_tbl)) hw1 hA
  obtain ⟨adK, adV, hS, hSt⟩ := vk_Sof (args := #[Value.ref b]) (s := s) (N := 2) (tm := fun i => if i = 0 then .string "WreckBoard$Tape" 69 else .string "WreckBoard$Tape" 55) (len := lenS) (byt := bytS) (A := fun q : Nat => s.heap.size ≤ q) (by decide) (fun i hi => hs _ (by revert i; decide +kernel)) (fun i hi => hs _ (by revert i; decide +kernel)) (fun i hi => hs _ (by revert i; decide +kernel)) (fun i hi => hs _ (by revert i; decide +kernel)) (fun i hi j hj => hs _ (by revert i j; decide +kernel)) (fun i j hi hj hij => by
    have h01 : (Cond.not (Cond.eq (.string "WreckBoard$Tape" 69) (.string "WreckBoard$Tape" 55))).before #[Value.ref b] s = true ∨ (Cond.not (Cond.eq (.string "WreckBoard$Tape" 55) (.string "WreckBoard$Tape" 69))).before #[Value.ref b] s = true := by
      first | exact Or.inl (hs _ (by decide +kernel)) | exact Or.inr (hs _ (by decide +kernel))
    match i, j, hi, hj, hij with
    | 0, 0, _, _, h => exact absurd rfl h
    | 0, 1, _, _, _ => exact h01
    | 1, 0, _, _, _ => exact h01.symm
    | 1, 1, _, _, h => exact absurd rfl h
    | i + 2, _, h, _, _ => omega
    | _, j + 2, _, h, _ => omega) hA
  refine ⟨fun p => if p < 97 then ad3 p else if p = 200 then t1 else if p = 201 then t2 else if p = 210 then adK 0 else if p = 211 then adK 1 else if p = 220 then adV 0 else adV 1, fun p hp => (if_pos hp).symm, ?_⟩
  have hAB : ∀ q, WA (D, (fun p => if p < 97 then ad3 p else if p = 200 then t1 else if p = 201 then t2 else if p = 210 then adK 0 else if p = 211 then adK 1 else if p = 220 then adV 0 else adV 1), cA) q → (fun q : Nat => s.heap.size ≤ q) q := by
    intro q ⟨r, hr, e⟩
    have hr2 : r < 97 := hr
    show s.heap.size ≤ q
    rw [e]
    show s.heap.size ≤ (if r < 97 then ad3 r else _)
    rw [if_pos hr2]
    exact had r hr
  refine ⟨⟨hZ1.narrow hAB, hT1.narrow hAB⟩, ⟨hZ2.narrow hAB, hT2.narrow hAB⟩, ?_, ⟨?_, ?_⟩, hZ3.narrow hAB, ?_, ⟨w, ?_, hZ4.narrow hAB⟩, ?_⟩
  · have h2 := hS.narrow hAB
    refine ⟨fun i hi => ?_, fun i j hi hj e => ?_⟩
    · match i, hi with
      | 0, hi => exact h2.1 0 hi
      | 1, hi => exact h2.1 1 hi
      | i + 2, hi => omega
    · match i, j, hi, hj, e with
      | 0, 0, _, _, _ => rfl
      | 0, 1, hi, hj, e => exact h2.2 0 1 hi hj e
      | 1, 0, hi, hj, e => exact h2.2 1 0 hi hj e
      | 1, 1, _, _, _ => rfl
      | i + 2, _, h, _, _ => omega
      | _, j + 2, _, h, _ => omega
  · exact vk_R.of (hts _ (List.mem_of_getElem? (i := 710) (by decide +kernel))) (hSt 0 (by decide))
  · exact vk_R.of (hts _ (List.mem_of_getElem? (i := 619) (by decide +kernel))) (hSt 1 (by decide))
  · intro q hq
    refine va_Nw.of rfl (hts (.methodLinkNest q.1 q.2.1 q.2.2.1 q.2.2.2) ?_)
    exact of_decide_eq_true (List.all_eq_true.mp nwl_in q hq)
  · cases w <;> first | rfl | (simp [Value.isRef] at hw2)
  · intro y hy
    exact va_Nw.of rfl (hts (.declares y) (of_decide_eq_true (List.all_eq_true.mp dcl_in y hy)))
