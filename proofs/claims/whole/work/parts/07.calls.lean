/-- a method's room by its level: no method here makes a cell -/
def rmL (lev : Nat) : Room := { frames := lev, cells := 0, slots := 0, locals := 64 * lev }
/-- a method's start: the world holds the memory -/
def St (G : GG) (m : M) : State → Prop := fun U => va_P G.1 vwCl (pic G m) U.heap ∧ va_K G.1 vwCl (tysG G) U ∧ Inj G ∧ Ro G U U.heap
/-- the contract of one run: from the memory m with these arguments, this answer and the memory m' -/
def Ct (l : Launch) (G : GG) (y : MethodName) (cc : ByteArray) (maxL : Nat) (ret : Option FieldType) (lev : Nat) (av : List Value) (m : M) (rv : Option Value) (m' : M) : Prop := Met l y (wy y cc maxL ret) (rmL lev) (va_Pc av (St G m)) (QR G rv m') 0 0 (WA G)
theorem ct_of {l : Launch} {G : GG} {y : MethodName} {cc : ByteArray} {maxL : Nat} {ret : Option FieldType} {lev : Nat} {av : List Value} {m : M} {rv : Option Value} {m' : M} {α : Type} {o : Option α} {K : α → Option (Option Value × M)} (hy : plainName y.cls = true) (hn : (lg_sl av).length ≤ maxL) (ho : o.bind K = some (rv, m')) (body : ∀ x : Cx, xl x = l → xn x = maxL → En G x cc y.cls lev ret → Sm G x 0 (lv_args 0 av) [] m o K) : Ct l G y cc maxL ret lev av m rv m' := by
  refine Met.ofW (cc := cc) (maxL := maxL) (ret := ret) hy rfl ?_
  intro p e s mi args below meth c s₁ B hml hv
  obtain ⟨rfl, hP, hK, hI, hR⟩ := hv
  have hts := atoms_spec (ws := wy y cc maxL ret) B.pre
  have hlocks := B.notSynchronized
  rw [lg_entry_eq]
  have hl := lv_entry av (n := maxL) hn
  exact body (p, l, e, (headSpec (wy y cc maxL ret) (rmL lev)).room, s, mi, av.toArray, below, meth, c, maxL) rfl rfl ⟨B.exec, B.bytes, hml, findClass_of_methodNamed B.named, fun w h => hts w (List.mem_cons_of_mem _ h), hK, hI, hlocks, hR, Nat.le_refl _, Nat.le_refl _, B.returns⟩ rv m' ho s.heap [] _ hP va_S.rf hl
theorem Ro.same {G : GG} {u U : State} {H : Heap} (hv : u.vm = U.vm) (h : Ro G u H) : Ro G U H := by
  obtain ⟨⟨a1, a2⟩, ⟨b1, b2⟩, c1, ⟨d1, d2⟩, e1, f1, ⟨w, g0, g1⟩, i1⟩ := h
  have ha : u.vm.Alike U.vm := by rw [hv]; exact Vm.Alike.refl _
  exact ⟨⟨a1.moved ha, a2.moved ha⟩, ⟨b1.moved ha, b2.moved ha⟩, c1.moved ha, ⟨d1.same hv.symm, d2.same hv.symm⟩, e1.moved ha, fun q hm => (f1 q hm).same rfl hv, ⟨w, g0, g1.moved ha⟩, fun q hm => (i1 q hm).same rfl hv⟩
theorem blind {G : GG} {m : M} {av : List Value} : FrameBlind (va_Pc av (St G m)) := fun a U g mk q => ⟨q.1, q.2.1, va_K.moved (u := U) (U := U.calling g mk a) (Vm.Alike.refl U.vm) q.2.2.1, q.2.2.2.1, Ro.same (u := U) (U := U.calling g mk a) rfl q.2.2.2.2⟩
/-- what a call's descriptor must be -/
def mdq (y : MethodName) (n : Nat) : Prop := y.cls ≠ "java/lang/invoke/MethodHandle" ∧ y.cls ≠ "java/lang/invoke/VarHandle" ∧ (parseMethodDescriptor y.desc).map (fun d => d.parameters.length) = some n
def mnI (a b : Int32) : Int32 := if b < a then b else a
def mxI (a b : Int32) : Int32 := if a < b then b else a
section CL
variable {α β : Type} {G : GG} {x : Cx} {cc : ByteArray} {own : String} {lev : Nat} {ret : Option FieldType} {pc : Nat} {lv lv' : List (Nat × Value)} {st st0 : List Value} {m : M} {o o1 o2 : Option α} {K : α → Option (Option Value × M)}
theorem pre_ok {av : List Value} {H : Heap} {locs : List Loc} (E : En G x cc own lev ret) (hP : va_P G.1 vwCl (pic G m) H) (hS : va_S (WA G) (xs x).heap H locs) : ∀ U : State, U.heap = H → (xs x).WarmedH U.vm → va_Pc av (St G m) av.toArray U := fun U hU hW => ⟨rfl, by rw [hU]; exact hP, va_K.moved hW.alike E.hK, E.hI, Ro.go E.hRo hW (by rw [hU]; exact hS.2.1)⟩
theorem s_run {rv1 : Option Value} {m1 : M} {rest : List Value} {aa : Array Value} (hr : ∀ (H : Heap) (locs : List Loc) (ls : Array Slot), va_P G.1 vwCl (pic G m) H → va_S (WA G) (xs x).heap H locs → lv_has ls (xn x) lv → va_Run (xp x) (xl x) (xe x) (xR x) (xs x) (xm x) (xa x) (xb x) (xh x) (xc x) H locs 0 0 0 0 (F0 (xm x) pc ls st0) rest (QR G rv1 m1 aa) (WA G)) (k : Sm G x (pc + 3) lv (rv1.toList ++ rest) m1 o K) : Sm G x pc lv st0 m o K := by
  intro rv m' ho H locs ls hP hS hl T hT X
  obtain ⟨v, st₀, t, T', L, h0, X', hL, e1, e2, ⟨⟨hv, hPt⟩, hz, hk⟩, st⟩ := hr H locs ls hP hS hl T hT X
  cases hv
  rw [h0] at hz hk
  obtain ⟨t2, a1, b1⟩ := k rv m' ho T'.heap (locs ++ L) ls (by rw [e1]; exact hPt) ⟨Nat.le_trans hS.1 (by rw [e1]; exact hz), fun q h1 h2 => by rw [e1, hk q (Nat.lt_of_lt_of_le h1 hS.1) h2]; exact hS.2.1 q h1 h2, fun q hq => by
    rcases List.mem_append.mp hq with h | h
    · exact hS.2.2 q h
    · exact hL q h⟩ hl T' rfl X'
  exact ⟨t2, st t2 a1, b1⟩
theorem s_bd {γ : Type} {fo : Option γ} {k1 : γ → Option α} (h : ∀ z, fo = some z → Sm G x pc lv st m (k1 z) K) : Sm G x pc lv st m (Option.bind fo k1) K := by
  cases fo with
  | none => intro rv m' ho; cases ho
  | some z => exact h z rfl
/-- an instance method of the receiver's own class -/
theorem s_cV {y : MethodName} {bytes : ByteArray} {maxL lev' index n q ci N : Nat} {ret' : Option FieldType} {C : String} {T : u_T} {sh : List (Option Nat)} {As rest : List Value} {rv1 : Option Value} {m1 : M} (E : En G x cc own lev ret) (hM : Ct (xl x) G y bytes maxL ret' lev' (.ref (G.2.1 q) :: As) m rv1 m1) (hd : mdq y n) (hl : Cond.methodLink own index y ∈ gw) (hi : Cond.instanceMethod y ∈ gw) (hsel : Cond.selects C y y ∈ gw) (hini : Cond.initialized y.cls ∈ gw) (hcode : Cond.code y bytes maxL ret' ∈ gw) (hs : SHT[q]? = some (.inl (ci, sh))) (hc : vwCl[ci]? = some (C, T, N)) (hn : As.length = n) (hst : st0 = As.reverse ++ .ref (G.2.1 q) :: rest) (hroom : (rest.map fun v => v.category).sum ≤ 8) (hlev : lev' + 1 ≤ lev ∧ 8 + (maxL + 11) + 64 * lev' ≤ 64 * lev) (d : decode cc pc = .ok (.invokevirtual index, 3)) (k : Sm G x (pc + 3) lv (rv1.toList ++ rest) m1 o K) : Sm G x pc lv st0 m o K :=
  s_run (fun H locs ls hP hS hlv => va_runV ⟨E.hx, E.hb, E.hml, E.hown, E.hts⟩ hM ⟨callB_of n E.hts (gw_call hcode) rfl rfl rfl (E.hts _ hini) (E.hts _ hl) hd ⟨Nat.le_trans hlev.1 E.hfr, Nat.le_trans hlev.2 E.hlo⟩, E.hts _ hi, E.hts _ hsel⟩ ⟨blind, va_recv E.hK hP hc (by rw [pic_at (SHT_lt hs), cell_obj hs]), pre_ok E hP hS⟩ rfl hn hlv.1 hst (lv_room hroom) d ⟨Nat.zero_le _, Nat.zero_le _⟩) k
/-- a static method -/
theorem s_cS {y : MethodName} {bytes : ByteArray} {maxL lev' index n : Nat} {ret' : Option FieldType} {As rest : List Value} {rv1 : Option Value} {m1 : M} (E : En G x cc own lev ret) (hM : Ct (xl x) G y bytes maxL ret' lev' As m rv1 m1) (hd : mdq y n) (hl : Cond.methodLink own index y ∈ gw) (hi : Cond.static y ∈ gw) (hini : Cond.initialized y.cls ∈ gw) (hcode : Cond.code y bytes maxL ret' ∈ gw) (hn : As.length = n) (hst : st0 = As.reverse ++ rest) (hroom : (rest.map fun v => v.category).sum ≤ 8) (hlev : lev' + 1 ≤ lev ∧ 8 + (maxL + 11) + 64 * lev' ≤ 64 * lev) (d : decode cc pc = .ok (.invokestatic index, 3)) (k : Sm G x (pc + 3) lv (rv1.toList ++ rest) m1 o K) : Sm G x pc lv st0 m o K :=
  s_run (fun H locs ls hP hS hlv => va_runS ⟨E.hx, E.hb, E.hml, E.hown, E.hts⟩ hM ⟨callB_of n E.hts (gw_call hcode) rfl rfl rfl (E.hts _ hini) (E.hts _ hl) hd ⟨Nat.le_trans hlev.1 E.hfr, Nat.le_trans hlev.2 E.hlo⟩, E.hts _ hi⟩ ⟨blind, pre_ok E hP hS⟩ rfl hn hlv.1 hst (lv_room hroom) d ⟨Nat.zero_le _, Nat.zero_le _⟩) k
/-- a nest mate's private static method -/
theorem s_cSN {y : MethodName} {bytes : ByteArray} {maxL lev' index n : Nat} {host : String} {ret' : Option FieldType} {As rest : List Value} {rv1 : Option Value} {m1 : M} (E : En G x cc own lev ret) (hM : Ct (xl x) G y bytes maxL ret' lev' As m rv1 m1) (hd : mdq y n) (hl : (own, index, y, host) ∈ nwl) (hi : Cond.static y ∈ gw) (hini : Cond.initialized y.cls ∈ gw) (hcode : Cond.code y bytes maxL ret' ∈ gw) (hn : As.length = n) (hst : st0 = As.reverse ++ rest) (hroom : (rest.map fun v => v.category).sum ≤ 8) (hlev : lev' + 1 ≤ lev ∧ 8 + (maxL + 11) + 64 * lev' ≤ 64 * lev) (d : decode cc pc = .ok (.invokestatic index, 3)) (k : Sm G x (pc + 3) lv (rv1.toList ++ rest) m1 o K) : Sm G x pc lv st0 m o K :=
  s_run (fun H locs ls hP hS hlv => va_runSN ⟨E.hx, E.hb, E.hml, E.hown, E.hts⟩ hM ⟨va_cnB n E.hts (gw_call hcode) rfl rfl rfl (E.hRo.2.2.2.2.2.1 _ hl) (E.hts _ hini) hd ⟨Nat.le_trans hlev.1 E.hfr, Nat.le_trans hlev.2 E.hlo⟩, E.hts _ hi, trivial⟩ ⟨blind, pre_ok E hP hS⟩ rfl hn hlv.1 hst (lv_room hroom) d ⟨Nat.zero_le _, Nat.zero_le _⟩) k
/-- a boolean that isn't known to be one -/
theorem w_zretN {p : Program} {l : Launch} {e : Env} {R : Room} {s : State} {mi : MethodId} {args : Array Value} {below : List Frame} {meth : Method} {c : Code} {H : Heap} {locs : List Loc} {cells slots : Nat} {Qc : Array Value → State → Outcome → State → Prop} {free : Addr → Prop} {v : Int32} (hexec : p.tables.exec = Jvm.exec) (hb : c.code = cc) (hr : meth.sig.returnType = some .boolean)
    (hq : ∀ t : State, t.heap = H → s.WarmedH t.vm → Qc args s (.returned (some (.int (v &&& 1)))) t) (hf : ∀ q ∈ locs, free q.base)
    {ls : Array Slot} (hdg : decode cc pc = .ok (.ireturn, 1)) (hlocks : meth.locks = false) : W p l e R s mi args below meth c H locs cells slots (MQ below Qc args s cells slots free) (F0 mi pc ls [.int v]) := by
  intro T hT X
  obtain ⟨fs, hret, hrun, hended, hW, hframe⟩ := X.leave (v := some (.int (v &&& 1))) (fun h => by rw [hr] at h; cases h)
  have hmeth' : T.vm.method? mi = some meth := X.method'
  refine ⟨T.setFrames fs, ?_, .returned (some (.int (v &&& 1))), hrun, hended, hq _ hT hW, locs, ⟨⟨_, rfl⟩, hW, hframe⟩, hf⟩
  jvm_step X.here [X.here.top, hexec, hb, hdg, hmeth', hr, narrow]
  (try refine ⟨rfl, ?_⟩); (try refine ⟨rfl, ?_⟩)
  first | (intro acts; rw [hret _ acts rfl rfl rfl]) | rw [hret _ _ rfl rfl rfl]
  exact Steps.refl _
theorem s_zretN {v : Int32} {a : α} (E : En G x cc own lev (some .boolean)) (hK : K a = some (some (.int (v &&& 1)), m)) (d : decode cc pc = .ok (.ireturn, 1)) : Sm G x pc lv [.int v] m (some a) K := by
  intro rv m' ho H locs ls hP hS hl
  have h := hK.symm.trans ho
  cases h
  exact w_zretN E.hx E.hb E.hret (fun t ht _ => ⟨⟨rfl, by rw [ht]; exact hP⟩, hS.F ht⟩) hS.2.2 d E.hlocks
theorem s_mmin {index : Nat} {a b : Int32} (E : En G x cc own lev ret) (hl : Cond.methodLink own index Lib.Math.min.name ∈ gw) (hstat : Cond.static Lib.Math.min.name ∈ gw) (hini : Cond.initialized "java/lang/Math" ∈ gw) (hcode : Cond.code Lib.Math.min.name Lib.Math.min.code 2 (some .int) ∈ gw) (hlev : 1 ≤ lev) (hroom : (st.map fun v => v.category).sum ≤ 8) (d : decode cc pc = .ok (.invokestatic index, 3)) (k : Sm G x (pc + 3) lv (.int (mnI a b) :: st) m o K) : Sm G x pc lv (.int b :: .int a :: st) m o K :=
  fun rv m' ho H locs ls hP hS hlv => va_mmin E.hx E.hb (E.hml.trans hlv.1.symm) E.hown (E.hts _ hl) (E.hts _ hstat) (E.hts _ hini) (E.hts _ hcode) (Nat.le_trans hlev E.hfr) (by have := E.hlo; omega) (Nat.zero_le _) (Nat.zero_le _) d (k rv m' ho H locs ls hP hS hlv)
theorem s_mmax {index : Nat} {a b : Int32} (E : En G x cc own lev ret) (hl : Cond.methodLink own index Lib.Math.max.name ∈ gw) (hstat : Cond.static Lib.Math.max.name ∈ gw) (hini : Cond.initialized "java/lang/Math" ∈ gw) (hcode : Cond.code Lib.Math.max.name Lib.Math.max.code 2 (some .int) ∈ gw) (hlev : 1 ≤ lev) (hroom : (st.map fun v => v.category).sum ≤ 8) (d : decode cc pc = .ok (.invokestatic index, 3)) (k : Sm G x (pc + 3) lv (.int (mxI a b) :: st) m o K) : Sm G x pc lv (.int b :: .int a :: st) m o K :=
  fun rv m' ho H locs ls hP hS hlv => va_mmax E.hx E.hb (E.hml.trans hlv.1.symm) E.hown (E.hts _ hl) (E.hts _ hstat) (E.hts _ hini) (E.hts _ hcode) (Nat.le_trans hlev E.hfr) (by have := E.hlo; omega) (Nat.zero_le _) (Nat.zero_le _) d (k rv m' ho H locs ls hP hS hlv)
end CL
