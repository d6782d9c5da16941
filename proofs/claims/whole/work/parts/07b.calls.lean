section SU2
variable {p : Program} {l : Launch} {e : Env} {R : Room} {s : State} {m : MethodId} {args : Array Value} {below : List Frame} {meth : Method} {c : Code}
/-- super.m(..) where the superclass itself inherits it -/
theorem w_callSU2 {T : State} {locs : List Loc} {cells slots : Nat} (X : Stand p l e R s m args below meth c T locs cells slots) (hexec : p.tables.exec = Jvm.exec) {own owner : String} {index : Nat} {x y : MethodName} {bytes : ByteArray} {maxL : Nat} {ret : Option FieldType} (hyx : y = ⟨owner, x.name, x.desc⟩)
    (hown : s.vm.findClass own = some m.cls) (hlink : (Cond.methodLink own index x).before args s = true) (hsame : (Cond.sameMethod x.cls owner x.name x.desc).before args s = true) (hsup : (Cond.superclass own x.cls).before args s = true) (hsup2 : (Cond.superclass x.cls owner).before args s = true)
    (hinst : (Cond.instanceMethod y).before args s = true) (hcode : (Cond.code y bytes maxL ret).before args s = true) (hno : x.name ≠ "<init>")
    {W : Nat} {Pre : Pt → Array Value → Prop} {Post : Pt → Array Value → Option Value → Pt → Prop} (hK : Back l R p e below s args y 3 W Pre Post)
    {b : Addr} {cellB : Cell} {kB : Class} (hcell : T.heap[b]? = some cellB) (hobj : cellB.vm.isStatics = false) (hkB : s.vm.classes[cellB.cls]? = some kB)
    {g : JFrame} (hg : g.method = m) (hsize : g.locals.size = c.maxLocals) {argsL rest : List Value} (hlen : ∀ sig, parseMethodDescriptor y.desc = some sig → argsL.length = sig.parameters.length)
    (hstack : g.stack = argsL.reverse ++ .ref b :: rest) (hW : 2 * g.monitorRoom + (rest.map fun v => v.category).sum ≤ W) (hdg : decode c.code g.pc = .ok (.invokespecial index, 3))
    (hpre : ∀ vm₁, s.WarmedH vm₁ → Pre ⟨T.setVm vm₁, locs, cells, slots⟩ (Value.ref b :: argsL).toArray) :
    ∃ (v : Option Value) (vm₁ : Vm) (B : Pt), s.WarmedH vm₁ ∧ Stand p l e R s m args below meth c B.U B.locs B.cells B.slots ∧ Post ⟨T.setVm vm₁, locs, cells, slots⟩ (Value.ref b :: argsL).toArray v B ∧
      ∀ target, Steps p.tables e below (B.U.setTop { g with pc := g.pc + 3, stack := v.toList ++ rest }) target → Steps p.tables e below (T.setTop g) target := by
  subst hyx
  obtain ⟨mk, methM, hnamed, hmethM, hstM, habM⟩ := Cond.instanceMethod_spec hinst
  obtain ⟨methM', cM, hmethM', -, -, -, -, -, -, hsigM⟩ := Cond.code_spec hnamed hcode
  cases hmethM.symm.trans hmethM'
  obtain ⟨ps, dk, kp, hps, hdk, hkp, hsuper, -, -, hnid⟩ := Cond.superclass_spec hown hsup
  obtain ⟨ps2, dk2, kp2, hps2, hdk2, hkp2, hsuper2, -, -, -⟩ := Cond.superclass_spec hps hsup2
  have hpm : ps2 = mk.cls := Option.some.inj (hps2.symm.trans (findClass_of_methodNamed hnamed))
  have hsub : s.vm.isSubclass ps mk.cls = true := by
    rw [← hpm]
    have hlt := (Array.getElem?_eq_some_iff.mp hdk2).1
    obtain ⟨n, hn⟩ : ∃ n, s.vm.classes.size = n + 1 := ⟨s.vm.classes.size - 1, by omega⟩
    unfold Vm.isSubclass
    rw [hn]
    simp [Vm.isSubclassAux, hdk2, hsuper2]
  obtain ⟨vm₁, X₁, hstep₁⟩ := X.invokespecialUp hexec hown hlink hsame hnamed hmethM hstM habM hno hdk hnid hps hsuper hsub (a := b) (cell := cellB) hcell
    (fun z h => by rw [h] at hobj; cases hobj) hkB (g := g) hg (argsL := argsL) (rest := rest) (hlen _ hsigM) hstack hdg
  obtain ⟨v, B, X', hpost, hsteps⟩ := hK m meth c ⟨T.setVm vm₁, locs, cells, slots⟩ { g with stack := rest } (.invokespecial index) mk (Value.ref b :: argsL).toArray X₁ hg hsize hdg hW (X₁.named hnamed) (hpre vm₁ X₁.warmed)
  exact ⟨v, vm₁, B, X₁.warmed, X', hpost, fun target h => hstep₁ _ (by rw [doInvoke_state]; exact hsteps.trans h)⟩
end SU2
section CL2
variable {α β : Type} {G : GG} {x : Cx} {cc : ByteArray} {own : String} {lev : Nat} {ret : Option FieldType} {pc : Nat} {lv lv' : List (Nat × Value)} {st st0 : List Value} {m : M} {o o1 o2 : Option α} {K : α → Option (Option Value × M)}
/-- an instance method that the receiver's class takes from another (overriding, or inherited) -/
theorem s_cU {z y : MethodName} {bytes b0 : ByteArray} {maxL m0 lev' index n q ci N : Nat} {ret' r0 : Option FieldType} {C owner : String} {T : u_T} {sh : List (Option Nat)} {As rest : List Value} {rv1 : Option Value} {m1 : M} (E : En G x cc own lev ret) (hM : Ct (xl x) G y bytes maxL ret' lev' (.ref (G.2.1 q) :: As) m rv1 m1) (hd : owner ≠ "java/lang/invoke/MethodHandle" ∧ owner ≠ "java/lang/invoke/VarHandle" ∧ (parseMethodDescriptor z.desc).map (fun d => d.parameters.length) = some n) (hl : Cond.methodLink own index z ∈ gw) (hsm : Cond.sameMethod z.cls owner z.name z.desc ∈ gw) (hi0 : Cond.instanceMethod ⟨owner, z.name, z.desc⟩ ∈ gw) (hc0 : Cond.code ⟨owner, z.name, z.desc⟩ b0 m0 r0 ∈ gw) (hsel : Cond.selects C z y ∈ gw) (hi : Cond.instanceMethod y ∈ gw) (hini : Cond.initialized y.cls ∈ gw) (hcode : Cond.code y bytes maxL ret' ∈ gw) (hs : SHT[q]? = some (.inl (ci, sh))) (hc : vwCl[ci]? = some (C, T, N)) (hn : As.length = n) (hst : st0 = As.reverse ++ .ref (G.2.1 q) :: rest) (hroom : (rest.map fun v => v.category).sum ≤ 8) (hlev : lev' + 1 ≤ lev ∧ 8 + (maxL + 11) + 64 * lev' ≤ 64 * lev) (d : decode cc pc = .ok (.invokevirtual index, 3)) (k : Sm G x (pc + 3) lv (rv1.toList ++ rest) m1 o K) : Sm G x pc lv st0 m o K :=
  s_run (fun H locs ls hP hS hlv => va_runU (owner := owner) ⟨E.hx, E.hb, E.hml, E.hown, E.hts⟩ hM ⟨⟨rfl, rfl, Nat.le_trans hlev.1 E.hfr, Nat.le_trans hlev.2 E.hlo, pay_in E.hts (gw_call hcode), List.mem_cons_self⟩, E.hts _ hcode, E.hts _ hini, ⟨hd.1, hd.2.1⟩, fun sig h => by have h2 := hd.2.2; rw [h] at h2; exact (Option.some.inj h2).symm, E.hts _ hl, E.hts _ hsm, va_Decl.of (E.hts _ hi0) (E.hts _ hc0), E.hts _ hsel, E.hts _ hi⟩ ⟨blind, va_recv E.hK hP hc (by rw [pic_at (SHT_lt hs), cell_obj hs]), pre_ok E hP hS⟩ rfl hn hlv.1 hst (lv_room hroom) d ⟨Nat.zero_le _, Nat.zero_le _⟩) k
/-- super.m(..) -/
theorem s_cSU {y : MethodName} {bytes : ByteArray} {maxL lev' index n q ci N : Nat} {ret' : Option FieldType} {C : String} {T : u_T} {sh : List (Option Nat)} {As rest : List Value} {rv1 : Option Value} {m1 : M} (E : En G x cc own lev ret) (hM : Ct (xl x) G y bytes maxL ret' lev' (.ref (G.2.1 q) :: As) m rv1 m1) (hd : y.name ≠ "<init>" ∧ (parseMethodDescriptor y.desc).map (fun d => d.parameters.length) = some n) (hl : Cond.methodLink own index y ∈ gw) (hsm : Cond.sameMethod y.cls y.cls y.name y.desc ∈ gw) (hsup : Cond.superclass own y.cls ∈ gw) (hi : Cond.instanceMethod y ∈ gw) (hini : Cond.initialized y.cls ∈ gw) (hcode : Cond.code y bytes maxL ret' ∈ gw) (hs : SHT[q]? = some (.inl (ci, sh))) (hc : vwCl[ci]? = some (C, T, N)) (hn : As.length = n) (hst : st0 = As.reverse ++ .ref (G.2.1 q) :: rest) (hroom : (rest.map fun v => v.category).sum ≤ 8) (hlev : lev' + 1 ≤ lev ∧ 8 + (maxL + 11) + 64 * lev' ≤ 64 * lev) (d : decode cc pc = .ok (.invokespecial index, 3)) (k : Sm G x (pc + 3) lv (rv1.toList ++ rest) m1 o K) : Sm G x pc lv st0 m o K :=
  s_run (fun H locs ls hP hS hlv => va_runSU (E.hK.1 ci _ hc).2 ⟨E.hx, E.hb, E.hml, E.hown, E.hts⟩ hM ⟨⟨rfl, rfl, Nat.le_trans hlev.1 E.hfr, Nat.le_trans hlev.2 E.hlo, pay_in E.hts (gw_call hcode), List.mem_cons_self⟩, E.hts _ hl, E.hts _ hsm, E.hts _ hsup, E.hts _ hi, E.hts _ hini, E.hts _ hcode, hd.1, fun sig h => by have h2 := hd.2; rw [h] at h2; exact (Option.some.inj h2).symm⟩ ⟨blind, va_recv E.hK hP hc (by rw [pic_at (SHT_lt hs), cell_obj hs]), pre_ok E hP hS⟩ rfl hn hlv.1 hst (lv_room hroom) d ⟨Nat.zero_le _, Nat.zero_le _⟩) k
/-- super.m(..), inherited by the superclass -/
theorem s_cSU2 {z y : MethodName} {bytes : ByteArray} {maxL lev' index n q ci N : Nat} {ret' : Option FieldType} {C owner : String} {T : u_T} {sh : List (Option Nat)} {As rest : List Value} {rv1 : Option Value} {m1 : M} (E : En G x cc own lev ret) (hM : Ct (xl x) G y bytes maxL ret' lev' (.ref (G.2.1 q) :: As) m rv1 m1) (hyz : y = ⟨owner, z.name, z.desc⟩) (hd : z.name ≠ "<init>" ∧ (parseMethodDescriptor y.desc).map (fun d => d.parameters.length) = some n) (hl : Cond.methodLink own index z ∈ gw) (hsm : Cond.sameMethod z.cls owner z.name z.desc ∈ gw) (hsup : Cond.superclass own z.cls ∈ gw) (hsup2 : Cond.superclass z.cls owner ∈ gw) (hi : Cond.instanceMethod y ∈ gw) (hini : Cond.initialized y.cls ∈ gw) (hcode : Cond.code y bytes maxL ret' ∈ gw) (hs : SHT[q]? = some (.inl (ci, sh))) (hc : vwCl[ci]? = some (C, T, N)) (hn : As.length = n) (hst : st0 = As.reverse ++ .ref (G.2.1 q) :: rest) (hroom : (rest.map fun v => v.category).sum ≤ 8) (hlev : lev' + 1 ≤ lev ∧ 8 + (maxL + 11) + 64 * lev' ≤ 64 * lev) (d : decode cc pc = .ok (.invokespecial index, 3)) (k : Sm G x (pc + 3) lv (rv1.toList ++ rest) m1 o K) : Sm G x pc lv st0 m o K := by
  refine s_run (aa := (Value.ref (G.2.1 q) :: As).toArray) (fun H locs ls hP hS hlv => ?_) k
  obtain ⟨cellB, hcB, hoB, hclB⟩ := va_recv E.hK hP hc (by rw [pic_at (SHT_lt hs), cell_obj hs])
  obtain ⟨hfc, kB, hkB, -⟩ := (E.hK.1 ci _ hc).2
  have hcc : G.1.1 ci = cellB.cls := Option.some.inj (hfc.symm.trans hclB)
  rw [hcc] at hkB
  have hKb : Back (xl x) (xR x) (xp x) (xe x) (xb x) (xs x) (xa x) y 3 8 (PreOf (xR x) 0 0 (va_Pc (.ref (G.2.1 q) :: As) (St G m))) (PostOf (QR G rv1 m1) 0 0 (WA G)) := back_of (bytes := bytes) (maxL := maxL) (ret := ret') hM blind rfl rfl (Nat.le_trans hlev.1 E.hfr) (Nat.le_trans hlev.2 E.hlo) (pay_in E.hts (gw_call hcode)) List.mem_cons_self (fun a' U hW => word_at hW (Or.inl (by first | rfl | simp [Cond.onTables, Cond.keeps, Cond.steady])) (E.hts _ hini))
  intro T2 hT X
  obtain ⟨v, vm₁, ⟨U', l2, c2, s2⟩, hW₁, X', ⟨g', mk, t, L, e1, e2, hq, h1, hL, h2, h3⟩, stp⟩ := w_callSU2 X E.hx (bytes := bytes) (maxL := maxL) (ret := ret') hyz E.hown (E.hts _ hl) (E.hts _ hsm) (E.hts _ hsup) (E.hts _ hsup2) (E.hts _ hi) (E.hts _ hcode) hd.1 hKb (by rw [hT]; exact hcB) hoB hkB (g := F0 (xm x) pc ls st0) rfl (hlv.1.trans E.hml.symm) (argsL := As) (rest := rest) (fun sig h => hn.trans (by have h2 := hd.2; rw [h] at h2; exact (Option.some.inj h2).symm)) hst (lv_room hroom) (by rw [E.hb]; exact d)
    (fun vm₁ hW₁ => ⟨Nat.zero_le _, Nat.zero_le _, pre_ok E hP hS (T2.setVm vm₁) hT hW₁⟩)
  dsimp only [Pt.U, Pt.locs, Pt.cells, Pt.slots] at X' e1 e2 h1 h2 h3 stp
  subst h1; subst h2; subst h3
  exact ⟨v, (T2.setVm vm₁).calling g' mk (Value.ref (G.2.1 q) :: As).toArray, t, U', L, hT, X', hL, e1, e2, hq, stp⟩
/-- nothing is said -/
theorem s_none : Sm G x pc lv st m (none : Option α) K := fun rv m' ho => by cases ho
/-- an end that is narrowed -/
theorem w_nret {p : Program} {l : Launch} {e : Env} {R : Room} {s : State} {mi : MethodId} {args : Array Value} {below : List Frame} {meth : Method} {c : Code} {H : Heap} {locs : List Loc} {cells slots : Nat} {Qc : Array Value → State → Outcome → State → Prop} {free : Addr → Prop} {v u : Int32} {ty : FieldType} (hexec : p.tables.exec = Jvm.exec) (hb : c.code = cc) (hr : meth.sig.returnType = some ty) (hnr : narrow ty (.int v) = .int u)
    (hq : ∀ t : State, t.heap = H → s.WarmedH t.vm → Qc args s (.returned (some (.int u))) t) (hf : ∀ q ∈ locs, free q.base)
    {ls : Array Slot} (hdg : decode cc pc = .ok (.ireturn, 1)) (hlocks : meth.locks = false) : W p l e R s mi args below meth c H locs cells slots (MQ below Qc args s cells slots free) (F0 mi pc ls [.int v]) := by
  intro T hT X
  obtain ⟨fs, hret, hrun, hended, hW, hframe⟩ := X.leave (v := some (.int u)) (fun h => by rw [hr] at h; cases h)
  have hmeth' : T.vm.method? mi = some meth := X.method'
  refine ⟨T.setFrames fs, ?_, .returned (some (.int u)), hrun, hended, hq _ hT hW, locs, ⟨⟨_, rfl⟩, hW, hframe⟩, hf⟩
  jvm_step X.here [X.here.top, hexec, hb, hdg, hmeth', hr, hnr]
  (try refine ⟨rfl, ?_⟩); (try refine ⟨rfl, ?_⟩)
  first | (intro acts; rw [hret _ acts rfl rfl rfl]) | rw [hret _ _ rfl rfl rfl]
  exact Steps.refl _
theorem s_nret {v u : Int32} {ty : FieldType} {a : α} (E : En G x cc own lev (some ty)) (hnr : narrow ty (.int v) = .int u) (hK : K a = some (some (.int u), m)) (d : decode cc pc = .ok (.ireturn, 1)) : Sm G x pc lv [.int v] m (some a) K := by
  intro rv m' ho H locs ls hP hS hl
  have h := hK.symm.trans ho
  cases h
  exact w_nret E.hx E.hb E.hret hnr (fun t ht _ => ⟨⟨rfl, by rw [ht]; exact hP⟩, hS.F ht⟩) hS.2.2 d E.hlocks
-- strings: constants, read only
theorem s_ldcN (E : En G x cc "WreckBoard$Tape" lev ret) (d : decode cc pc = .ok (.ldc 69, 2)) (k : Sm G x (pc + 2) lv (.ref (G.2.1 210) :: st) m o K) : Sm G x pc lv st m o K :=
  fun rv m' ho H locs ls hP hS hl => va_ldcS E.hx E.hb E.hown E.hRo.2.2.2.1.1 d (k rv m' ho H locs ls hP hS hl)
theorem s_ldcG (E : En G x cc "WreckBoard$Tape" lev ret) (d : decode cc pc = .ok (.ldc 55, 2)) (k : Sm G x (pc + 2) lv (.ref (G.2.1 211) :: st) m o K) : Sm G x pc lv st m o K :=
  fun rv m' ho H locs ls hP hS hl => va_ldcS E.hx E.hb E.hown E.hRo.2.2.2.1.2 d (k rv m' ho H locs ls hP hS hl)
theorem s_strv {index : Nat} (i : Nat) (hi : i < 2) (E : En G x cc own lev ret) (hl : Cond.fieldLink own index "java/lang/String" "value" "[B" ∈ gw) (d : decode cc pc = .ok (.getfield index, 3)) (k : Sm G x (pc + 3) lv (.ref (G.2.1 (220 + i)) :: st) m o K) : Sm G x pc lv (.ref (G.2.1 (210 + i)) :: st) m o K :=
  fun rv m' ho H locs ls hP hS hlv => vk_getf E.hx E.hb (E.hRo.2.2.1.1 i hi).2.2.1 hS E.hown (E.hts _ hl) (fun _ h => h) d (k rv m' ho H locs ls hP hS hlv)
theorem s_strc {index : Nat} (i : Nat) (hi : i < 2) (E : En G x cc own lev ret) (hl : Cond.fieldLink own index "java/lang/String" "coder" "B" ∈ gw) (d : decode cc pc = .ok (.getfield index, 3)) (k : Sm G x (pc + 3) lv (.int (0 : Int32) :: st) m o K) : Sm G x pc lv (.ref (G.2.1 (210 + i)) :: st) m o K :=
  fun rv m' ho H locs ls hP hS hlv => vk_getf E.hx E.hb (E.hRo.2.2.1.1 i hi).2.1 hS E.hown (E.hts _ hl) (fun _ h => h) d (k rv m' ho H locs ls hP hS hlv)
theorem s_getCS {index : Nat} (E : En G x cc own lev ret) (hl : Cond.fieldLink own index "java/lang/String" "COMPACT_STRINGS" "Z" ∈ gw) (d : decode cc pc = .ok (.getstatic index, 3)) (k : Sm G x (pc + 3) lv (.int (1 : Int32) :: st) m o K) : Sm G x pc lv st m o K :=
  fun rv m' ho H locs ls hP hS hlv => va_gets E.hx E.hb E.hRo.2.2.2.2.1 hS E.hown (E.hts _ hl) (fun _ h => h) d (k rv m' ho H locs ls hP hS hlv)
theorem s_getSI {index : Nat} (E : En G x cc own lev ret) (hl : Cond.fieldLink own index "jdk/internal/util/Preconditions" "SIOOBE_FORMATTER" "Ljava/util/function/BiFunction;" ∈ gw) (d : decode cc pc = .ok (.getstatic index, 3)) (k : ∀ w : Value, w.category = 1 → Sm G x (pc + 3) lv (w :: st) m o K) : Sm G x pc lv st m o K := by
  intro rv m' ho H locs ls hP hS hlv
  obtain ⟨w, hw, hZ⟩ := E.hRo.2.2.2.2.2.2.1
  exact va_gets E.hx E.hb hZ hS E.hown (E.hts _ hl) (fun _ h => h) d (k w hw rv m' ho H locs ls hP hS hlv)
theorem s_strb {i : Int32} {k1 : Int32 → Option α} (j : Nat) (hj : j < 2) {l : List Int32} (hl : l = bytS.getD j []) (hlen : l.length = lenS.getD j 0) (E : En G x cc own lev ret) (d : decode cc pc = .ok (.baload, 1)) (k : ∀ v, Sm G x (pc + 1) lv (.int v :: st) m (k1 v) K) : Sm G x pc lv (.int i :: .ref (G.2.1 (220 + j)) :: st) m (Option.bind (rdK l i) k1) K := by
  intro rv m' ho H locs ls hP hS hlv
  unfold rdK at ho
  by_cases h : i < 0 ∨ l.length ≤ i.toNatClampNeg
  · rw [if_pos h] at ho
    cases ho
  · rw [if_neg h] at ho
    rw [hlen] at h
    exact va_tb E.hx E.hb (E.hRo.2.2.1.1 j hj).2.2.2 hS h (by rw [← hl]) d (k _ rv m' ho H locs ls hP hS hlv)
theorem s_strl {v : Int32} (j : Nat) (hj : j < 2) (hv : Int32.ofNat (lenS.getD j 0) = v) (E : En G x cc own lev ret) (d : decode cc pc = .ok (.arraylength, 1)) (k : Sm G x (pc + 1) lv (.int v :: st) m o K) : Sm G x pc lv (.ref (G.2.1 (220 + j)) :: st) m o K :=
  fun rv m' ho H locs ls hP hS hlv => va_tlen E.hx E.hb (E.hRo.2.2.1.1 j hj).2.2.2 hS hv d (k rv m' ho H locs ls hP hS hlv)
/-- a method of a string constant -/
theorem s_cT {y : MethodName} {bytes : ByteArray} {maxL lev' index n : Nat} {ret' : Option FieldType} {As rest : List Value} {rv1 : Option Value} {m1 : M} (i : Nat) (hi2 : i < 2) (E : En G x cc own lev ret) (hM : Ct (xl x) G y bytes maxL ret' lev' (.ref (G.2.1 (210 + i)) :: As) m rv1 m1) (hd : mdq y n) (hl : Cond.methodLink own index y ∈ gw) (hi : Cond.instanceMethod y ∈ gw) (hsel : Cond.selects "java/lang/String" y y ∈ gw) (hini : Cond.initialized y.cls ∈ gw) (hcode : Cond.code y bytes maxL ret' ∈ gw) (hn : As.length = n) (hst : st0 = As.reverse ++ .ref (G.2.1 (210 + i)) :: rest) (hroom : (rest.map fun v => v.category).sum ≤ 8) (hlev : lev' + 1 ≤ lev ∧ 8 + (maxL + 11) + 64 * lev' ≤ 64 * lev) (d : decode cc pc = .ok (.invokevirtual index, 3)) (k : Sm G x (pc + 3) lv (rv1.toList ++ rest) m1 o K) : Sm G x pc lv st0 m o K :=
  s_run (fun H locs ls hP hS hlv => va_runV (C := "java/lang/String") ⟨E.hx, E.hb, E.hml, E.hown, E.hts⟩ hM ⟨callB_of n E.hts (gw_call hcode) rfl rfl rfl (E.hts _ hini) (E.hts _ hl) hd ⟨Nat.le_trans hlev.1 E.hfr, Nat.le_trans hlev.2 E.hlo⟩, E.hts _ hi, E.hts _ hsel⟩ ⟨blind, vk_recv E.hRo.2.2.1 hi2 hS, pre_ok E hP hS⟩ rfl hn hlv.1 hst (lv_room hroom) d ⟨Nat.zero_le _, Nat.zero_le _⟩) k
/-- System.arraycopy of numbers -/
def cpI (m : M) (p : Nat) (sp : Int32) (q : Nat) (dp n : Int32) : Option M := if sp < 0 ∨ dp < 0 ∨ n < 0 ∨ len p < sp.toNatClampNeg + n.toNatClampNeg ∨ len q < dp.toNatClampNeg + n.toNatClampNeg ∨ len p = 0 ∨ len q = 0 then none else some (mset m q (va_cpy (m p) (m q) sp.toNatClampNeg dp.toNatClampNeg n.toNatClampNeg))
theorem s_copy {index p q : Nat} {sp dp n : Int32} {k1 : M → Option α} (E : En G x cc own lev ret) (hl : Cond.methodLink own index arraycopyName ∈ gw) (hnat : Cond.native arraycopyName ∈ gw) (hstat : Cond.static arraycopyName ∈ gw) (hini : Cond.initialized "java/lang/System" ∈ gw) (hlev : 1 ≤ lev) (hroom : (st.map fun v => v.category).sum ≤ 8) (d : decode cc pc = .ok (.invokestatic index, 3)) (k : ∀ m1, Sm G x (pc + 3) lv st m1 (k1 m1) K) : Sm G x pc lv (.int n :: .int dp :: .ref (G.2.1 q) :: .int sp :: .ref (G.2.1 p) :: st) m (Option.bind (cpI m p sp q dp n) k1) K := by
  intro rv m' ho H locs ls hP hS hlv
  unfold cpI at ho
  by_cases h : sp < 0 ∨ dp < 0 ∨ n < 0 ∨ len p < sp.toNatClampNeg + n.toNatClampNeg ∨ len q < dp.toNatClampNeg + n.toNatClampNeg ∨ len p = 0 ∨ len q = 0
  · rw [if_pos h] at ho
    cases ho
  · rw [if_neg h] at ho
    simp only [not_or] at h
    obtain ⟨g1, g2, g3, g4, g5, g6, g7⟩ := h
    obtain ⟨h1, h2⟩ := len_cell (p := p) (by omega)
    obtain ⟨h3, h4⟩ := len_cell (p := q) (by omega)
    refine va_copyi E.hx E.hb (E.hml.trans hlv.1.symm) E.hown (E.hts _ hl) (E.hts _ hnat) (E.hts _ hstat) (E.hts _ hini) E.hK hP (pic_D E.hI m) hS p q 0 0 (by rw [pic_at h1, h2]) (by rw [pic_at h3, h4]) rfl rfl rfl g1 g2 g3 (by omega) (by omega) (fun i _ => rfl) (Nat.le_trans hlev E.hfr) (by have h8 := E.hlo; have h9 : nativeFrameWords "java/lang/System" "arraycopy" 5 + 11 ≤ 40 := (by decide +kernel); omega) d (fun H1 locs1 hP1 _ hS1 => k _ rv m' ho H1 locs1 ls ?_ hS1 hlv)
    rw [← h4, pic_set] at hP1
    exact hP1
end CL2
