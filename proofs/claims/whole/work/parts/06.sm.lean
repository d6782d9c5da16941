/-- where a method is: program, launch, environment, room, state at its entry, method, arguments, the frames below, its code, the size of its locals -/
abbrev Cx : Type := Program × Launch × Env × Room × State × MethodId × Array Value × List Frame × Method × Code × Nat
abbrev xp (x : Cx) : Program := x.1
abbrev xl (x : Cx) : Launch := x.2.1
abbrev xe (x : Cx) : Env := x.2.2.1
abbrev xR (x : Cx) : Room := x.2.2.2.1
abbrev xs (x : Cx) : State := x.2.2.2.2.1
abbrev xm (x : Cx) : MethodId := x.2.2.2.2.2.1
abbrev xa (x : Cx) : Array Value := x.2.2.2.2.2.2.1
abbrev xb (x : Cx) : List Frame := x.2.2.2.2.2.2.2.1
abbrev xh (x : Cx) : Method := x.2.2.2.2.2.2.2.2.1
abbrev xc (x : Cx) : Code := x.2.2.2.2.2.2.2.2.2.1
abbrev xn (x : Cx) : Nat := x.2.2.2.2.2.2.2.2.2.2
/-- the end of a method: this answer, this memory -/
def QR (G : GG) (rv : Option Value) (m' : M) : Array Value → State → Outcome → State → Prop := fun _ st oc t => (oc = .returned rv ∧ va_P G.1 vwCl (pic G m') t.heap) ∧ va_F (WA G) st t
/-- the walk from here on does what the pure function o (and K behind it) says, where that says anything -/
def Sm {α : Type} (G : GG) (x : Cx) (pc : Nat) (lv : List (Nat × Value)) (st : List Value) (m : M) (o : Option α) (K : α → Option (Option Value × M)) : Prop :=
  ∀ (rv : Option Value) (m' : M), o.bind K = some (rv, m') → ∀ (H : Heap) (locs : List Loc) (ls : Array Slot), va_P G.1 vwCl (pic G m) H → va_S (WA G) (xs x).heap H locs → lv_has ls (xn x) lv → W (xp x) (xl x) (xe x) (xR x) (xs x) (xm x) (xa x) (xb x) (xh x) (xc x) H locs 0 0 (MQ (xb x) (QR G rv m') (xa x) (xs x) 0 0 (WA G)) (F0 (xm x) pc ls st)
/-- what holds all through a method's body -/
def En (G : GG) (x : Cx) (cc : ByteArray) (own : String) (lev : Nat) (ret : Option FieldType) : Prop :=
  (xp x).tables.exec = Jvm.exec ∧ (xc x).code = cc ∧ (xc x).maxLocals = xn x ∧ (xs x).vm.findClass own = some (xm x).cls ∧ (∀ w ∈ gw, w.before (xa x) (xs x) = true) ∧ va_K G.1 vwCl (tysG G) (xs x) ∧ Inj G ∧ (xh x).locks = false ∧ Ro G (xs x) (xs x).heap ∧ lev ≤ (xR x).frames ∧ 64 * lev ≤ (xR x).locals ∧ (xh x).sig.returnType = ret
theorem En.hx {G x cc own lev ret} (E : En G x cc own lev ret) : (xp x).tables.exec = Jvm.exec := E.1
theorem En.hb {G x cc own lev ret} (E : En G x cc own lev ret) : (xc x).code = cc := E.2.1
theorem En.hml {G x cc own lev ret} (E : En G x cc own lev ret) : (xc x).maxLocals = xn x := E.2.2.1
theorem En.hown {G x cc own lev ret} (E : En G x cc own lev ret) : (xs x).vm.findClass own = some (xm x).cls := E.2.2.2.1
theorem En.hts {G x cc own lev ret} (E : En G x cc own lev ret) : ∀ w ∈ gw, w.before (xa x) (xs x) = true := E.2.2.2.2.1
theorem En.hK {G x cc own lev ret} (E : En G x cc own lev ret) : va_K G.1 vwCl (tysG G) (xs x) := E.2.2.2.2.2.1
theorem En.hI {G x cc own lev ret} (E : En G x cc own lev ret) : Inj G := E.2.2.2.2.2.2.1
theorem En.hlocks {G x cc own lev ret} (E : En G x cc own lev ret) : (xh x).locks = false := E.2.2.2.2.2.2.2.1
theorem En.hRo {G x cc own lev ret} (E : En G x cc own lev ret) : Ro G (xs x) (xs x).heap := E.2.2.2.2.2.2.2.2.1
theorem En.hfr {G x cc own lev ret} (E : En G x cc own lev ret) : lev ≤ (xR x).frames := E.2.2.2.2.2.2.2.2.2.1
theorem En.hlo {G x cc own lev ret} (E : En G x cc own lev ret) : 64 * lev ≤ (xR x).locals := E.2.2.2.2.2.2.2.2.2.2.1
theorem En.hret {G x cc own lev ret} (E : En G x cc own lev ret) : (xh x).sig.returnType = ret := E.2.2.2.2.2.2.2.2.2.2.2
/-- a value that gets a name -/
def lt {α β : Type} (a : α) (k : α → Option β) : Option β := k a
/-- division and remainder -/
def dvI (a b : Int32) : Option Int32 := if b = 0 then none else some (a / b)
def rmI (a b : Int32) : Option Int32 := if b = 0 then none else some (a - a / b * b)
/-- a loop: until its body comes out -/
def iter {S R : Type} (body : S → Option (S ⊕ R)) : Nat → S → Option R
  | 0, _ => none
  | n + 1, s => (body s).bind (fun z => match z with
    | .inl s' => iter body n s'
    | .inr r => some r)
/-- as many turns as no loop here needs -/
def FU : Nat := 4000
section SM
variable {α β : Type} {G : GG} {x : Cx} {cc : ByteArray} {own : String} {lev : Nat} {ret : Option FieldType} {pc : Nat} {lv lv' : List (Nat × Value)} {st : List Value} {m : M} {o o1 o2 : Option α} {K : α → Option (Option Value × M)}

theorem s_iconst {n : Int} {v : Int32} (E : En G x cc own lev ret) (d : decode cc pc = .ok (.iconst n, 1)) (hv : Int32.ofInt n = v) (k : Sm G x (pc + 1) lv (.int v :: st) m o K) : Sm G x pc lv (st) m o K :=
  fun rv m' ho H locs ls hP hS hl => lv_iconst E.hx E.hb d hv (k rv m' ho H locs ls hP hS hl)
theorem s_bipush {n : Int} {v : Int32} (E : En G x cc own lev ret) (d : decode cc pc = .ok (.bipush n, 2)) (hv : (Int8.ofInt n).toInt32 = v) (k : Sm G x (pc + 2) lv (.int v :: st) m o K) : Sm G x pc lv (st) m o K :=
  fun rv m' ho H locs ls hP hS hl => lv_bipush E.hx E.hb d hv (k rv m' ho H locs ls hP hS hl)
theorem s_sipush {n : Int} {v : Int32} (E : En G x cc own lev ret) (d : decode cc pc = .ok (.sipush n, 3)) (hv : (Int16.ofInt n).toInt32 = v) (k : Sm G x (pc + 3) lv (.int v :: st) m o K) : Sm G x pc lv (st) m o K :=
  fun rv m' ho H locs ls hP hS hl => lv_sipush E.hx E.hb d hv (k rv m' ho H locs ls hP hS hl)
theorem s_lconst {n : Fin 2} {v : Int64} (E : En G x cc own lev ret) (d : decode cc pc = .ok (.lconst n, 1)) (hv : Int64.ofNat (n : Nat) = v) (k : Sm G x (pc + 1) lv (.long v :: st) m o K) : Sm G x pc lv (st) m o K :=
  fun rv m' ho H locs ls hP hS hl => lv_lconst E.hx E.hb d hv (k rv m' ho H locs ls hP hS hl)
theorem s_ldc {index : Nat} {v : Int32} (E : En G x cc own lev ret) (d : decode cc pc = .ok (.ldc index, 2)) (hw : Jvm.Cond.constant own index v ∈ gw) (k : Sm G x (pc + 2) lv (.int v :: st) m o K) : Sm G x pc lv (st) m o K :=
  fun rv m' ho H locs ls hP hS hl => lv_ldc E.hx E.hb E.hown (E.hts _ hw) d (k rv m' ho H locs ls hP hS hl)
theorem s_ldcw {index : Nat} {v : Int32} (E : En G x cc own lev ret) (d : decode cc pc = .ok (.ldc_w index, 3)) (hw : Jvm.Cond.constant own index v ∈ gw) (k : Sm G x (pc + 3) lv (.int v :: st) m o K) : Sm G x pc lv (st) m o K :=
  fun rv m' ho H locs ls hP hS hl => lv_ldcw E.hx E.hb E.hown (E.hts _ hw) d (k rv m' ho H locs ls hP hS hl)
theorem s_ldc2 {index : Nat} {v : Int64} (E : En G x cc own lev ret) (d : decode cc pc = .ok (.ldc2_w index, 3)) (hw : Jvm.Cond.constantLong own index v ∈ gw) (k : Sm G x (pc + 3) lv (.long v :: st) m o K) : Sm G x pc lv (st) m o K :=
  fun rv m' ho H locs ls hP hS hl => lv_ldc2 E.hx E.hb E.hown (E.hts _ hw) d (k rv m' ho H locs ls hP hS hl)
theorem s_iload_n {k4 : Fin 4} {i : Nat} {v : Int32} (q : Nat) (E : En G x cc own lev ret) (d : decode cc pc = .ok (.iload_n k4, 1)) (hi : (k4 : Nat) = i) (hq : lv[q]? = some (i, .int v)) (k : Sm G x (pc + 1) lv (.int v :: st) m o K) : Sm G x pc lv (st) m o K :=
  fun rv m' ho H locs ls hP hS hl => lv_iload_n E.hx E.hb d hi (lv_at hl q hq) (k rv m' ho H locs ls hP hS hl)
theorem s_iload {i : Nat} {v : Int32} (q : Nat) (E : En G x cc own lev ret) (d : decode cc pc = .ok (.iload i, 2)) (hq : lv[q]? = some (i, .int v)) (k : Sm G x (pc + 2) lv (.int v :: st) m o K) : Sm G x pc lv (st) m o K :=
  fun rv m' ho H locs ls hP hS hl => lv_iload E.hx E.hb d (lv_at hl q hq) (k rv m' ho H locs ls hP hS hl)
theorem s_lload_n {k4 : Fin 4} {i : Nat} {v : Int64} (q : Nat) (E : En G x cc own lev ret) (d : decode cc pc = .ok (.lload_n k4, 1)) (hi : (k4 : Nat) = i) (hq : lv[q]? = some (i, .long v)) (k : Sm G x (pc + 1) lv (.long v :: st) m o K) : Sm G x pc lv (st) m o K :=
  fun rv m' ho H locs ls hP hS hl => lv_lload_n E.hx E.hb d hi (lv_at hl q hq) (k rv m' ho H locs ls hP hS hl)
theorem s_lload {i : Nat} {v : Int64} (q : Nat) (E : En G x cc own lev ret) (d : decode cc pc = .ok (.lload i, 2)) (hq : lv[q]? = some (i, .long v)) (k : Sm G x (pc + 2) lv (.long v :: st) m o K) : Sm G x pc lv (st) m o K :=
  fun rv m' ho H locs ls hP hS hl => lv_lload E.hx E.hb d (lv_at hl q hq) (k rv m' ho H locs ls hP hS hl)
theorem s_aload_n {k4 : Fin 4} {i : Nat} {v : Nat} (q : Nat) (E : En G x cc own lev ret) (d : decode cc pc = .ok (.aload_n k4, 1)) (hi : (k4 : Nat) = i) (hq : lv[q]? = some (i, .ref v)) (k : Sm G x (pc + 1) lv (.ref v :: st) m o K) : Sm G x pc lv (st) m o K :=
  fun rv m' ho H locs ls hP hS hl => lv_aload_n E.hx E.hb d hi (lv_at hl q hq) (k rv m' ho H locs ls hP hS hl)
theorem s_aload {i : Nat} {v : Nat} (q : Nat) (E : En G x cc own lev ret) (d : decode cc pc = .ok (.aload i, 2)) (hq : lv[q]? = some (i, .ref v)) (k : Sm G x (pc + 2) lv (.ref v :: st) m o K) : Sm G x pc lv (st) m o K :=
  fun rv m' ho H locs ls hP hS hl => lv_aload E.hx E.hb d (lv_at hl q hq) (k rv m' ho H locs ls hP hS hl)
theorem s_iadd {a b : Int32} (E : En G x cc own lev ret) (d : decode cc pc = .ok (.iadd, 1))  (k : Sm G x (pc + 1) lv (.int (a + b) :: st) m o K) : Sm G x pc lv (.int b :: .int a :: st) m o K :=
  fun rv m' ho H locs ls hP hS hl => lv_iadd E.hx E.hb d (k rv m' ho H locs ls hP hS hl)
theorem s_isub {a b : Int32} (E : En G x cc own lev ret) (d : decode cc pc = .ok (.isub, 1))  (k : Sm G x (pc + 1) lv (.int (a - b) :: st) m o K) : Sm G x pc lv (.int b :: .int a :: st) m o K :=
  fun rv m' ho H locs ls hP hS hl => lv_isub E.hx E.hb d (k rv m' ho H locs ls hP hS hl)
theorem s_imul {a b : Int32} (E : En G x cc own lev ret) (d : decode cc pc = .ok (.imul, 1))  (k : Sm G x (pc + 1) lv (.int (a * b) :: st) m o K) : Sm G x pc lv (.int b :: .int a :: st) m o K :=
  fun rv m' ho H locs ls hP hS hl => lv_imul E.hx E.hb d (k rv m' ho H locs ls hP hS hl)
theorem s_iand {a b : Int32} (E : En G x cc own lev ret) (d : decode cc pc = .ok (.iand, 1))  (k : Sm G x (pc + 1) lv (.int (a &&& b) :: st) m o K) : Sm G x pc lv (.int b :: .int a :: st) m o K :=
  fun rv m' ho H locs ls hP hS hl => lv_iand E.hx E.hb d (k rv m' ho H locs ls hP hS hl)
theorem s_ior {a b : Int32} (E : En G x cc own lev ret) (d : decode cc pc = .ok (.ior, 1))  (k : Sm G x (pc + 1) lv (.int (a ||| b) :: st) m o K) : Sm G x pc lv (.int b :: .int a :: st) m o K :=
  fun rv m' ho H locs ls hP hS hl => lv_ior E.hx E.hb d (k rv m' ho H locs ls hP hS hl)
theorem s_ixor {a b : Int32} (E : En G x cc own lev ret) (d : decode cc pc = .ok (.ixor, 1))  (k : Sm G x (pc + 1) lv (.int (a ^^^ b) :: st) m o K) : Sm G x pc lv (.int b :: .int a :: st) m o K :=
  fun rv m' ho H locs ls hP hS hl => lv_ixor E.hx E.hb d (k rv m' ho H locs ls hP hS hl)
theorem s_ishl {a b : Int32} (E : En G x cc own lev ret) (d : decode cc pc = .ok (.ishl, 1))  (k : Sm G x (pc + 1) lv (.int (a <<< (b &&& 31)) :: st) m o K) : Sm G x pc lv (.int b :: .int a :: st) m o K :=
  fun rv m' ho H locs ls hP hS hl => lv_ishl E.hx E.hb d (k rv m' ho H locs ls hP hS hl)
theorem s_ishr {a b : Int32} (E : En G x cc own lev ret) (d : decode cc pc = .ok (.ishr, 1))  (k : Sm G x (pc + 1) lv (.int (a >>> (b &&& 31)) :: st) m o K) : Sm G x pc lv (.int b :: .int a :: st) m o K :=
  fun rv m' ho H locs ls hP hS hl => lv_ishr E.hx E.hb d (k rv m' ho H locs ls hP hS hl)
theorem s_iushr {a b : Int32} (E : En G x cc own lev ret) (d : decode cc pc = .ok (.iushr, 1))  (k : Sm G x (pc + 1) lv (.int ((a.toUInt32 >>> (b.toUInt32 &&& Int32.toUInt32 31)).toInt32) :: st) m o K) : Sm G x pc lv (.int b :: .int a :: st) m o K :=
  fun rv m' ho H locs ls hP hS hl => lv_iushr E.hx E.hb d rfl (k rv m' ho H locs ls hP hS hl)
theorem s_ladd {a b : Int64} (E : En G x cc own lev ret) (d : decode cc pc = .ok (.ladd, 1))  (k : Sm G x (pc + 1) lv (.long (a + b) :: st) m o K) : Sm G x pc lv (.long b :: .long a :: st) m o K :=
  fun rv m' ho H locs ls hP hS hl => lv_ladd E.hx E.hb d (k rv m' ho H locs ls hP hS hl)
theorem s_lsub {a b : Int64} (E : En G x cc own lev ret) (d : decode cc pc = .ok (.lsub, 1))  (k : Sm G x (pc + 1) lv (.long (a - b) :: st) m o K) : Sm G x pc lv (.long b :: .long a :: st) m o K :=
  fun rv m' ho H locs ls hP hS hl => lv_lsub E.hx E.hb d (k rv m' ho H locs ls hP hS hl)
theorem s_lmul {a b : Int64} (E : En G x cc own lev ret) (d : decode cc pc = .ok (.lmul, 1))  (k : Sm G x (pc + 1) lv (.long (a * b) :: st) m o K) : Sm G x pc lv (.long b :: .long a :: st) m o K :=
  fun rv m' ho H locs ls hP hS hl => lv_lmul E.hx E.hb d (k rv m' ho H locs ls hP hS hl)
theorem s_land {a b : Int64} (E : En G x cc own lev ret) (d : decode cc pc = .ok (.land, 1))  (k : Sm G x (pc + 1) lv (.long (a &&& b) :: st) m o K) : Sm G x pc lv (.long b :: .long a :: st) m o K :=
  fun rv m' ho H locs ls hP hS hl => lv_land E.hx E.hb d (k rv m' ho H locs ls hP hS hl)
theorem s_lor {a b : Int64} (E : En G x cc own lev ret) (d : decode cc pc = .ok (.lor, 1))  (k : Sm G x (pc + 1) lv (.long (a ||| b) :: st) m o K) : Sm G x pc lv (.long b :: .long a :: st) m o K :=
  fun rv m' ho H locs ls hP hS hl => lv_lor E.hx E.hb d (k rv m' ho H locs ls hP hS hl)
theorem s_lxor {a b : Int64} (E : En G x cc own lev ret) (d : decode cc pc = .ok (.lxor, 1))  (k : Sm G x (pc + 1) lv (.long (a ^^^ b) :: st) m o K) : Sm G x pc lv (.long b :: .long a :: st) m o K :=
  fun rv m' ho H locs ls hP hS hl => lv_lxor E.hx E.hb d (k rv m' ho H locs ls hP hS hl)
theorem s_lshl {a : Int64} {b : Int32} (E : En G x cc own lev ret) (d : decode cc pc = .ok (.lshl, 1))  (k : Sm G x (pc + 1) lv (.long (a <<< (b.toInt64 &&& 63)) :: st) m o K) : Sm G x pc lv (.int b :: .long a :: st) m o K :=
  fun rv m' ho H locs ls hP hS hl => lv_lshl E.hx E.hb d rfl (k rv m' ho H locs ls hP hS hl)
theorem s_lshr {a : Int64} {b : Int32} (E : En G x cc own lev ret) (d : decode cc pc = .ok (.lshr, 1))  (k : Sm G x (pc + 1) lv (.long (a >>> (b.toInt64 &&& 63)) :: st) m o K) : Sm G x pc lv (.int b :: .long a :: st) m o K :=
  fun rv m' ho H locs ls hP hS hl => lv_lshr E.hx E.hb d rfl (k rv m' ho H locs ls hP hS hl)
theorem s_lushr {a : Int64} {b : Int32} (E : En G x cc own lev ret) (d : decode cc pc = .ok (.lushr, 1))  (k : Sm G x (pc + 1) lv (.long ((a.toUInt64 >>> (b.toInt64.toUInt64 &&& Int64.toUInt64 63)).toInt64) :: st) m o K) : Sm G x pc lv (.int b :: .long a :: st) m o K :=
  fun rv m' ho H locs ls hP hS hl => lv_lushr E.hx E.hb d rfl (k rv m' ho H locs ls hP hS hl)
theorem s_idivc {a b : Int32} (E : En G x cc own lev ret) (d : decode cc pc = .ok (.idiv, 1)) (hne : ¬ b = 0) (k : Sm G x (pc + 1) lv (.int (a / b) :: st) m o K) : Sm G x pc lv (.int b :: .int a :: st) m o K :=
  fun rv m' ho H locs ls hP hS hl => lv_idiv E.hx E.hb d hne (k rv m' ho H locs ls hP hS hl)
theorem s_iremc {a b : Int32} (E : En G x cc own lev ret) (d : decode cc pc = .ok (.irem, 1)) (hne : ¬ b = 0) (k : Sm G x (pc + 1) lv (.int (a - a / b * b) :: st) m o K) : Sm G x pc lv (.int b :: .int a :: st) m o K :=
  fun rv m' ho H locs ls hP hS hl => lv_irem E.hx E.hb d hne (k rv m' ho H locs ls hP hS hl)
theorem s_ineg {a : Int32} (E : En G x cc own lev ret) (d : decode cc pc = .ok (.ineg, 1))  (k : Sm G x (pc + 1) lv (.int (-a) :: st) m o K) : Sm G x pc lv (.int a :: st) m o K :=
  fun rv m' ho H locs ls hP hS hl => lv_ineg E.hx E.hb d (k rv m' ho H locs ls hP hS hl)
theorem s_i2l {a : Int32} (E : En G x cc own lev ret) (d : decode cc pc = .ok (.i2l, 1))  (k : Sm G x (pc + 1) lv (.long a.toInt64 :: st) m o K) : Sm G x pc lv (.int a :: st) m o K :=
  fun rv m' ho H locs ls hP hS hl => lv_i2l E.hx E.hb d rfl (k rv m' ho H locs ls hP hS hl)
theorem s_l2i {a : Int64} (E : En G x cc own lev ret) (d : decode cc pc = .ok (.l2i, 1))  (k : Sm G x (pc + 1) lv (.int a.toInt32 :: st) m o K) : Sm G x pc lv (.long a :: st) m o K :=
  fun rv m' ho H locs ls hP hS hl => lv_l2i E.hx E.hb d rfl (k rv m' ho H locs ls hP hS hl)
theorem s_i2b {a : Int32} (E : En G x cc own lev ret) (d : decode cc pc = .ok (.i2b, 1))  (k : Sm G x (pc + 1) lv (.int a.toInt8.toInt32 :: st) m o K) : Sm G x pc lv (.int a :: st) m o K :=
  fun rv m' ho H locs ls hP hS hl => lv_i2b E.hx E.hb d rfl (k rv m' ho H locs ls hP hS hl)
theorem s_i2s {a : Int32} (E : En G x cc own lev ret) (d : decode cc pc = .ok (.i2s, 1))  (k : Sm G x (pc + 1) lv (.int a.toInt16.toInt32 :: st) m o K) : Sm G x pc lv (.int a :: st) m o K :=
  fun rv m' ho H locs ls hP hS hl => lv_i2s E.hx E.hb d rfl (k rv m' ho H locs ls hP hS hl)
theorem s_i2c {a : Int32} (E : En G x cc own lev ret) (d : decode cc pc = .ok (.i2c, 1))  (k : Sm G x (pc + 1) lv (.int (a.toUInt32 % 65536).toInt32 :: st) m o K) : Sm G x pc lv (.int a :: st) m o K :=
  fun rv m' ho H locs ls hP hS hl => lv_i2c E.hx E.hb d rfl (k rv m' ho H locs ls hP hS hl)
theorem s_dup {va : Value} (E : En G x cc own lev ret) (d : decode cc pc = .ok (.dup, 1)) (hc : va.category = 1) (k : Sm G x (pc + 1) lv (va :: va :: st) m o K) : Sm G x pc lv (va :: st) m o K :=
  fun rv m' ho H locs ls hP hS hl => lv_dup E.hx E.hb d hc (k rv m' ho H locs ls hP hS hl)
theorem s_dup2 {va vb : Value} (E : En G x cc own lev ret) (d : decode cc pc = .ok (.dup2, 1)) (hc : va.category = 1) (hc2 : vb.category = 1) (k : Sm G x (pc + 1) lv (va :: vb :: va :: vb :: st) m o K) : Sm G x pc lv (va :: vb :: st) m o K :=
  fun rv m' ho H locs ls hP hS hl => lv_dup2_11 E.hx E.hb d hc hc2 (k rv m' ho H locs ls hP hS hl)
theorem s_pop {va : Value} (E : En G x cc own lev ret) (d : decode cc pc = .ok (.pop, 1)) (hc : va.category = 1) (k : Sm G x (pc + 1) lv (st) m o K) : Sm G x pc lv (va :: st) m o K :=
  fun rv m' ho H locs ls hP hS hl => lv_pop E.hx E.hb d hc (k rv m' ho H locs ls hP hS hl)
theorem s_idiv {a b : Int32} {k1 : Int32 → Option α} (E : En G x cc own lev ret) (d : decode cc pc = .ok (.idiv, 1)) (k : ∀ v, Sm G x (pc + 1) lv (.int v :: st) m (k1 v) K) : Sm G x pc lv (.int b :: .int a :: st) m (Option.bind (dvI a b) k1) K := by
  intro rv m' ho H locs ls hP hS hl
  unfold dvI at ho
  by_cases h : b = 0
  · rw [if_pos h] at ho
    cases ho
  · rw [if_neg h] at ho
    exact lv_idiv E.hx E.hb d h (k _ rv m' ho H locs ls hP hS hl)
theorem s_irem {a b : Int32} {k1 : Int32 → Option α} (E : En G x cc own lev ret) (d : decode cc pc = .ok (.irem, 1)) (k : ∀ v, Sm G x (pc + 1) lv (.int v :: st) m (k1 v) K) : Sm G x pc lv (.int b :: .int a :: st) m (Option.bind (rmI a b) k1) K := by
  intro rv m' ho H locs ls hP hS hl
  unfold rmI at ho
  by_cases h : b = 0
  · rw [if_pos h] at ho
    cases ho
  · rw [if_neg h] at ho
    exact lv_irem E.hx E.hb d h (k _ rv m' ho H locs ls hP hS hl)
theorem s_istore_n {k4 : Fin 4} {i : Nat} {v : Int32} (ks : List Nat) (E : En G x cc own lev ret) (d : decode cc pc = .ok (.istore_n k4, 1)) (hi : (k4 : Nat) = i) (hn : i < xn x) (hv : lv_pick ((i, Value.int v) :: lv.filter (fun q => !(q.1 == i) && !(q.1 + 1 == i && q.2.category == 2))) ks = lv') (k : Sm G x (pc + 1) lv' st m o K) : Sm G x pc lv (.int v :: st) m o K :=
  fun rv m' ho H locs ls hP hS hl => lv_istore_n E.hx E.hb d hi hl hn rfl (fun ls' hl' => k rv m' ho H locs ls' hP hS (lv_sub hl' ks hv))
theorem s_istore {i : Nat} {v : Int32} (ks : List Nat) (E : En G x cc own lev ret) (d : decode cc pc = .ok (.istore i, 2)) (hn : i < xn x) (hv : lv_pick ((i, Value.int v) :: lv.filter (fun q => !(q.1 == i) && !(q.1 + 1 == i && q.2.category == 2))) ks = lv') (k : Sm G x (pc + 2) lv' st m o K) : Sm G x pc lv (.int v :: st) m o K :=
  fun rv m' ho H locs ls hP hS hl => lv_istore E.hx E.hb d hl hn rfl (fun ls' hl' => k rv m' ho H locs ls' hP hS (lv_sub hl' ks hv))
theorem s_lstore_n {k4 : Fin 4} {i : Nat} {v : Int64} (ks : List Nat) (E : En G x cc own lev ret) (d : decode cc pc = .ok (.lstore_n k4, 1)) (hi : (k4 : Nat) = i) (hn : i + 1 < xn x) (hv : lv_pick ((i, Value.long v) :: lv.filter (fun q => !(q.1 == i) && (!(q.1 == i + 1) && !(q.1 + 1 == i && q.2.category == 2)))) ks = lv') (k : Sm G x (pc + 1) lv' st m o K) : Sm G x pc lv (.long v :: st) m o K :=
  fun rv m' ho H locs ls hP hS hl => lv_lstore_n E.hx E.hb d hi hl hn rfl (fun ls' hl' => k rv m' ho H locs ls' hP hS (lv_sub hl' ks hv))
theorem s_lstore {i : Nat} {v : Int64} (ks : List Nat) (E : En G x cc own lev ret) (d : decode cc pc = .ok (.lstore i, 2)) (hn : i + 1 < xn x) (hv : lv_pick ((i, Value.long v) :: lv.filter (fun q => !(q.1 == i) && (!(q.1 == i + 1) && !(q.1 + 1 == i && q.2.category == 2)))) ks = lv') (k : Sm G x (pc + 2) lv' st m o K) : Sm G x pc lv (.long v :: st) m o K :=
  fun rv m' ho H locs ls hP hS hl => lv_lstore E.hx E.hb d hl hn rfl (fun ls' hl' => k rv m' ho H locs ls' hP hS (lv_sub hl' ks hv))
theorem s_astore_n {k4 : Fin 4} {i : Nat} {v : Nat} (ks : List Nat) (E : En G x cc own lev ret) (d : decode cc pc = .ok (.astore_n k4, 1)) (hi : (k4 : Nat) = i) (hn : i < xn x) (hv : lv_pick ((i, Value.ref v) :: lv.filter (fun q => !(q.1 == i) && !(q.1 + 1 == i && q.2.category == 2))) ks = lv') (k : Sm G x (pc + 1) lv' st m o K) : Sm G x pc lv (.ref v :: st) m o K :=
  fun rv m' ho H locs ls hP hS hl => lv_astore_n E.hx E.hb d hi hl hn rfl (fun ls' hl' => k rv m' ho H locs ls' hP hS (lv_sub hl' ks hv))
theorem s_astore {i : Nat} {v : Nat} (ks : List Nat) (E : En G x cc own lev ret) (d : decode cc pc = .ok (.astore i, 2)) (hn : i < xn x) (hv : lv_pick ((i, Value.ref v) :: lv.filter (fun q => !(q.1 == i) && !(q.1 + 1 == i && q.2.category == 2))) ks = lv') (k : Sm G x (pc + 2) lv' st m o K) : Sm G x pc lv (.ref v :: st) m o K :=
  fun rv m' ho H locs ls hP hS hl => lv_astore E.hx E.hb d hl hn rfl (fun ls' hl' => k rv m' ho H locs ls' hP hS (lv_sub hl' ks hv))
theorem s_iinc {i : Nat} {n : Int} {a v : Int32} (q : Nat) (ks : List Nat) (E : En G x cc own lev ret) (d : decode cc pc = .ok (.iinc i n, 3)) (hq : lv[q]? = some (i, .int a)) (hv : Int32.ofInt n = v) (hn : i < xn x) (hv2 : lv_pick ((i, Value.int (a + v)) :: lv.filter (fun q => !(q.1 == i) && !(q.1 + 1 == i && q.2.category == 2))) ks = lv') (k : Sm G x (pc + 3) lv' st m o K) : Sm G x pc lv st m o K :=
  fun rv m' ho H locs ls hP hS hl => lv_iinc E.hx E.hb d hl hq (by rw [hv]) hn rfl (fun ls' hl' => k rv m' ho H locs ls' hP hS (lv_sub hl' ks hv2))
theorem s_iincL {i : Nat} {n : Int} {a v : Int32} {k1 : Int32 → Option α} (q : Nat) (ks : List Nat) (f : Int32 → List (Nat × Value)) (E : En G x cc own lev ret) (d : decode cc pc = .ok (.iinc i n, 3)) (hq : lv[q]? = some (i, .int a)) (hv : Int32.ofInt n = v) (hn : i < xn x) (hv2 : ∀ w : Int32, lv_pick ((i, Value.int w) :: lv.filter (fun q => !(q.1 == i) && !(q.1 + 1 == i && q.2.category == 2))) ks = f w) (k : ∀ w, Sm G x (pc + 3) (f w) st m (k1 w) K) : Sm G x pc lv st m (lt (a + v) k1) K :=
  s_iinc q ks E d hq hv hn (hv2 _) (k _)
/-- fewer locals -/
theorem s_sub (ks : List Nat) (h : lv_pick lv ks = lv') (k : Sm G x pc lv' st m o K) : Sm G x pc lv st m o K :=
  fun rv m' ho H locs ls hP hS hl => k rv m' ho H locs ls hP hS (lv_sub hl ks h)
theorem s_if_eq {a : Int32} {off : Int} (tgt : Nat) (E : En G x cc own lev ret) (d : decode cc pc = .ok (.ifCond .eq off, 3)) (ht : (pc : Int) + off = (tgt : Int)) (kt : Sm G x tgt lv st m o1 K) (kf : Sm G x (pc + 3) lv st m o2 K) : Sm G x pc lv (.int a :: st) m (if a = 0 then o1 else o2) K :=
  fun rv m' ho H locs ls hP hS hl => lv_if_eq E.hx E.hb d ht (fun c => kt rv m' (by rw [if_pos c] at ho; exact ho) H locs ls hP hS hl) (fun c => kf rv m' (by rw [if_neg c] at ho; exact ho) H locs ls hP hS hl)
theorem s_icmp_eq {a b : Int32} {off : Int} (tgt : Nat) (E : En G x cc own lev ret) (d : decode cc pc = .ok (.if_icmp .eq off, 3)) (ht : (pc : Int) + off = (tgt : Int)) (kt : Sm G x tgt lv st m o1 K) (kf : Sm G x (pc + 3) lv st m o2 K) : Sm G x pc lv (.int b :: .int a :: st) m (if a = b then o1 else o2) K :=
  fun rv m' ho H locs ls hP hS hl => lv_icmp_eq E.hx E.hb d ht (fun c => kt rv m' (by rw [if_pos c] at ho; exact ho) H locs ls hP hS hl) (fun c => kf rv m' (by rw [if_neg c] at ho; exact ho) H locs ls hP hS hl)
theorem s_if_ne {a : Int32} {off : Int} (tgt : Nat) (E : En G x cc own lev ret) (d : decode cc pc = .ok (.ifCond .ne off, 3)) (ht : (pc : Int) + off = (tgt : Int)) (kt : Sm G x tgt lv st m o1 K) (kf : Sm G x (pc + 3) lv st m o2 K) : Sm G x pc lv (.int a :: st) m (if a = 0 then o2 else o1) K :=
  fun rv m' ho H locs ls hP hS hl => lv_if_ne E.hx E.hb d ht (fun c => kt rv m' (by rw [if_neg c] at ho; exact ho) H locs ls hP hS hl) (fun c => kf rv m' (by rw [if_pos c] at ho; exact ho) H locs ls hP hS hl)
theorem s_icmp_ne {a b : Int32} {off : Int} (tgt : Nat) (E : En G x cc own lev ret) (d : decode cc pc = .ok (.if_icmp .ne off, 3)) (ht : (pc : Int) + off = (tgt : Int)) (kt : Sm G x tgt lv st m o1 K) (kf : Sm G x (pc + 3) lv st m o2 K) : Sm G x pc lv (.int b :: .int a :: st) m (if a = b then o2 else o1) K :=
  fun rv m' ho H locs ls hP hS hl => lv_icmp_ne E.hx E.hb d ht (fun c => kt rv m' (by rw [if_neg c] at ho; exact ho) H locs ls hP hS hl) (fun c => kf rv m' (by rw [if_pos c] at ho; exact ho) H locs ls hP hS hl)
theorem s_if_lt {a : Int32} {off : Int} (tgt : Nat) (E : En G x cc own lev ret) (d : decode cc pc = .ok (.ifCond .lt off, 3)) (ht : (pc : Int) + off = (tgt : Int)) (kt : Sm G x tgt lv st m o1 K) (kf : Sm G x (pc + 3) lv st m o2 K) : Sm G x pc lv (.int a :: st) m (if a < 0 then o1 else o2) K :=
  fun rv m' ho H locs ls hP hS hl => lv_if_lt E.hx E.hb d ht (fun c => kt rv m' (by rw [if_pos c] at ho; exact ho) H locs ls hP hS hl) (fun c => kf rv m' (by rw [if_neg c] at ho; exact ho) H locs ls hP hS hl)
theorem s_icmp_lt {a b : Int32} {off : Int} (tgt : Nat) (E : En G x cc own lev ret) (d : decode cc pc = .ok (.if_icmp .lt off, 3)) (ht : (pc : Int) + off = (tgt : Int)) (kt : Sm G x tgt lv st m o1 K) (kf : Sm G x (pc + 3) lv st m o2 K) : Sm G x pc lv (.int b :: .int a :: st) m (if a < b then o1 else o2) K :=
  fun rv m' ho H locs ls hP hS hl => lv_icmp_lt E.hx E.hb d ht (fun c => kt rv m' (by rw [if_pos c] at ho; exact ho) H locs ls hP hS hl) (fun c => kf rv m' (by rw [if_neg c] at ho; exact ho) H locs ls hP hS hl)
theorem s_if_ge {a : Int32} {off : Int} (tgt : Nat) (E : En G x cc own lev ret) (d : decode cc pc = .ok (.ifCond .ge off, 3)) (ht : (pc : Int) + off = (tgt : Int)) (kt : Sm G x tgt lv st m o1 K) (kf : Sm G x (pc + 3) lv st m o2 K) : Sm G x pc lv (.int a :: st) m (if 0 ≤ a then o1 else o2) K :=
  fun rv m' ho H locs ls hP hS hl => lv_if_ge E.hx E.hb d ht (fun c => kt rv m' (by rw [if_pos c] at ho; exact ho) H locs ls hP hS hl) (fun c => kf rv m' (by rw [if_neg c] at ho; exact ho) H locs ls hP hS hl)
theorem s_icmp_ge {a b : Int32} {off : Int} (tgt : Nat) (E : En G x cc own lev ret) (d : decode cc pc = .ok (.if_icmp .ge off, 3)) (ht : (pc : Int) + off = (tgt : Int)) (kt : Sm G x tgt lv st m o1 K) (kf : Sm G x (pc + 3) lv st m o2 K) : Sm G x pc lv (.int b :: .int a :: st) m (if b ≤ a then o1 else o2) K :=
  fun rv m' ho H locs ls hP hS hl => lv_icmp_ge E.hx E.hb d ht (fun c => kt rv m' (by rw [if_pos c] at ho; exact ho) H locs ls hP hS hl) (fun c => kf rv m' (by rw [if_neg c] at ho; exact ho) H locs ls hP hS hl)
theorem s_if_gt {a : Int32} {off : Int} (tgt : Nat) (E : En G x cc own lev ret) (d : decode cc pc = .ok (.ifCond .gt off, 3)) (ht : (pc : Int) + off = (tgt : Int)) (kt : Sm G x tgt lv st m o1 K) (kf : Sm G x (pc + 3) lv st m o2 K) : Sm G x pc lv (.int a :: st) m (if 0 < a then o1 else o2) K :=
  fun rv m' ho H locs ls hP hS hl => lv_if_gt E.hx E.hb d ht (fun c => kt rv m' (by rw [if_pos c] at ho; exact ho) H locs ls hP hS hl) (fun c => kf rv m' (by rw [if_neg c] at ho; exact ho) H locs ls hP hS hl)
theorem s_icmp_gt {a b : Int32} {off : Int} (tgt : Nat) (E : En G x cc own lev ret) (d : decode cc pc = .ok (.if_icmp .gt off, 3)) (ht : (pc : Int) + off = (tgt : Int)) (kt : Sm G x tgt lv st m o1 K) (kf : Sm G x (pc + 3) lv st m o2 K) : Sm G x pc lv (.int b :: .int a :: st) m (if b < a then o1 else o2) K :=
  fun rv m' ho H locs ls hP hS hl => lv_icmp_gt E.hx E.hb d ht (fun c => kt rv m' (by rw [if_pos c] at ho; exact ho) H locs ls hP hS hl) (fun c => kf rv m' (by rw [if_neg c] at ho; exact ho) H locs ls hP hS hl)
theorem s_if_le {a : Int32} {off : Int} (tgt : Nat) (E : En G x cc own lev ret) (d : decode cc pc = .ok (.ifCond .le off, 3)) (ht : (pc : Int) + off = (tgt : Int)) (kt : Sm G x tgt lv st m o1 K) (kf : Sm G x (pc + 3) lv st m o2 K) : Sm G x pc lv (.int a :: st) m (if a ≤ 0 then o1 else o2) K :=
  fun rv m' ho H locs ls hP hS hl => lv_if_le E.hx E.hb d ht (fun c => kt rv m' (by rw [if_pos c] at ho; exact ho) H locs ls hP hS hl) (fun c => kf rv m' (by rw [if_neg c] at ho; exact ho) H locs ls hP hS hl)
theorem s_icmp_le {a b : Int32} {off : Int} (tgt : Nat) (E : En G x cc own lev ret) (d : decode cc pc = .ok (.if_icmp .le off, 3)) (ht : (pc : Int) + off = (tgt : Int)) (kt : Sm G x tgt lv st m o1 K) (kf : Sm G x (pc + 3) lv st m o2 K) : Sm G x pc lv (.int b :: .int a :: st) m (if a ≤ b then o1 else o2) K :=
  fun rv m' ho H locs ls hP hS hl => lv_icmp_le E.hx E.hb d ht (fun c => kt rv m' (by rw [if_pos c] at ho; exact ho) H locs ls hP hS hl) (fun c => kf rv m' (by rw [if_neg c] at ho; exact ho) H locs ls hP hS hl)
theorem s_goto {off : Int} (tgt : Nat) (E : En G x cc own lev ret) (d : decode cc pc = .ok (.goto off, 3)) (ht : (pc : Int) + off = (tgt : Int)) (k : Sm G x tgt lv st m o K) : Sm G x pc lv st m o K :=
  fun rv m' ho H locs ls hP hS hl => lv_goto E.hx E.hb d ht (k rv m' ho H locs ls hP hS hl)
/-- a switch, case by case -/
theorem s_case {a c : Int32} (k1 : a = c → Sm G x pc lv st m o1 K) (k2 : ¬ a = c → Sm G x pc lv st m o2 K) : Sm G x pc lv st m (if a = c then o1 else o2) K := by
  by_cases h : a = c
  · rw [if_pos h]; exact k1 h
  · rw [if_neg h]; exact k2 h
theorem s_tabIn {a c : Int32} {dflt lo hi off : Int} {offs : Array Int} {n : Nat} (tgt : Nat) (E : En G x cc own lev ret) (d : decode cc pc = .ok (.tableswitch dflt lo hi offs, n)) (h : a = c) (h1 : ¬ c.toInt < lo) (h2 : ¬ hi < c.toInt) (ho : offs[(c.toInt - lo).toNat]? = some off) (ht : (pc : Int) + off = (tgt : Int)) (k : Sm G x tgt lv st m o K) : Sm G x pc lv (.int a :: st) m o K := by
  subst h
  exact fun rv m' ho' H locs ls hP hS hl => lv_tableIn E.hx E.hb d h1 h2 ho ht (k rv m' ho' H locs ls hP hS hl)
theorem s_tabOut {a : Int32} {dflt lo hi : Int} {offs : Array Int} {n : Nat} (tgt : Nat) (E : En G x cc own lev ret) (d : decode cc pc = .ok (.tableswitch dflt lo hi offs, n)) (h : a.toInt < lo ∨ hi < a.toInt) (ht : (pc : Int) + dflt = (tgt : Int)) (k : Sm G x tgt lv st m o K) : Sm G x pc lv (.int a :: st) m o K :=
  fun rv m' ho' H locs ls hP hS hl => lv_tableOut E.hx E.hb d h ht (k rv m' ho' H locs ls hP hS hl)
theorem s_look {a : Int32} {dflt off : Int} {ps : Array (Int × Int)} {n : Nat} (tgt : Nat) (E : En G x cc own lev ret) (d : decode cc pc = .ok (.lookupswitch dflt ps, n)) (hp : (ps.toList.zip (ps.toList.drop 1)).all (fun (a, next) => a.1 < next.1) = true) (h : Op.lookupswitch.offset ps.toList dflt a.toInt = off) (ht : (pc : Int) + off = (tgt : Int)) (k : Sm G x tgt lv st m o K) : Sm G x pc lv (.int a :: st) m o K :=
  fun rv m' ho' H locs ls hP hS hl => lv_lookup E.hx E.hb d hp h ht (k rv m' ho' H locs ls hP hS hl)
theorem ne_toInt {a c : Int32} (h : ¬ a = c) : a.toInt ≠ c.toInt := fun e => h (Int32.toInt_inj.mp e)
/-- a value gets a name -/
theorem s_lt {γ : Type} {a : γ} {k1 : γ → Option α} (f : γ → List (Nat × Value)) (g : γ → List Value) (h : f a = lv) (h2 : g a = st) (k : ∀ v, Sm G x pc (f v) (g v) m (k1 v) K) : Sm G x pc lv st m (lt a k1) K := by
  subst h; subst h2; exact k a
theorem s_ltm {k1 : M → Option α} {m0 : M} (h : m0 = m) (k : ∀ v, Sm G x pc lv st v (k1 v) K) : Sm G x pc lv st m (lt m0 k1) K := by
  subst h; exact k m0
-- fields
theorem s_geti {C : String} {T : u_T} {N ci k index : Nat} {sh : List (Option Nat)} (q : Nat) (E : En G x cc own lev ret) (hs : SHT[q]? = some (.inl (ci, sh))) (hk : sh[k]? = some none) (hc : vwCl[ci]? = some (C, T, N)) (hin : ∀ w ∈ u_ws C T N, w ∈ gw) (hkN : k < N) (hl : Cond.fieldLink own index (T k).1 (T k).2.1 (T k).2.2.1 ∈ gw) (d : decode cc pc = .ok (.getfield index, 3))
    (kk : Sm G x (pc + 3) lv (.int (m q k) :: st) m o K) : Sm G x pc lv (.ref (G.2.1 q) :: st) m o K :=
  fun rv m' ho H locs ls hP hS hlv => va_get E.hx E.hb E.hts hin E.hown E.hK hP q (by rw [pic_at (SHT_lt hs), cell_obj hs]) hc k hkN (E.hts _ hl) (fun _ h => h) (fvals_at hk) d (kk rv m' ho H locs ls hP hS hlv)
theorem s_getr {C : String} {T : u_T} {N ci k index q2 : Nat} {sh : List (Option Nat)} (q : Nat) (E : En G x cc own lev ret) (hs : SHT[q]? = some (.inl (ci, sh))) (hk : sh[k]? = some (some q2)) (hc : vwCl[ci]? = some (C, T, N)) (hin : ∀ w ∈ u_ws C T N, w ∈ gw) (hkN : k < N) (hl : Cond.fieldLink own index (T k).1 (T k).2.1 (T k).2.2.1 ∈ gw) (d : decode cc pc = .ok (.getfield index, 3))
    (kk : Sm G x (pc + 3) lv (.ref (G.2.1 q2) :: st) m o K) : Sm G x pc lv (.ref (G.2.1 q) :: st) m o K :=
  fun rv m' ho H locs ls hP hS hlv => va_get E.hx E.hb E.hts hin E.hown E.hK hP q (by rw [pic_at (SHT_lt hs), cell_obj hs]) hc k hkN (E.hts _ hl) (fun _ h => h) (fvals_at hk) d (kk rv m' ho H locs ls hP hS hlv)
theorem s_put {C : String} {T : u_T} {N ci k index : Nat} {sh : List (Option Nat)} {v : Int32} {ty : FieldType} (q : Nat) (E : En G x cc own lev ret) (hs : SHT[q]? = some (.inl (ci, sh))) (hk : sh[k]? = some none) (hc : vwCl[ci]? = some (C, T, N)) (hin : ∀ w ∈ u_ws C T N, w ∈ gw) (ty0 : Nat → FieldType) (hty : ∀ k, k < N → parseFieldDescriptor (T k).2.2.1 = some (ty0 k)) (hnm : ∀ a, a < N → ∀ b, b < N → a ≠ b → (T a).2.1 ≠ (T b).2.1) (hkN : k < N) (hl : Cond.fieldLink own index (T k).1 (T k).2.1 (T k).2.2.1 ∈ gw) (hfin : (T k).2.2.2 = false) (hd : parseFieldDescriptor (T k).2.2.1 = some ty) (hn : narrow ty (.int v) = .int v) (hf : fits ty (.int v) = true) (d : decode cc pc = .ok (.putfield index, 3))
    (kk : Sm G x (pc + 3) lv st (wrF m q k v) o K) : Sm G x pc lv (.int v :: .ref (G.2.1 q) :: st) m o K := by
  intro rv m' ho H locs ls hP hS hlv
  have hkl := (List.getElem?_eq_some_iff.mp hk).1
  refine va_put E.hx E.hb E.hts hin ty0 hty hnm E.hown E.hK hP (pic_D E.hI m) hS q (by rw [pic_at (SHT_lt hs), cell_obj hs]) hc k hkN (E.hts _ hl) (fun _ h => h) hfin hd hn hf (by unfold fvals; rw [List.length_map, List.length_range]; exact hkl) d (fun H1 locs1 hP1 _ hS1 => kk rv m' ho H1 locs1 ls ?_ hS1 hlv)
  rw [← fvals_set hk, ← cell_obj hs, pic_set] at hP1
  exact hP1
-- rows of numbers
theorem s_iald {p : Nat} {i : Int32} {k1 : Int32 → Option α} (E : En G x cc own lev ret) (d : decode cc pc = .ok (.iaload, 1)) (k : ∀ v, Sm G x (pc + 1) lv (.int v :: st) m (k1 v) K) : Sm G x pc lv (.int i :: .ref (G.2.1 p) :: st) m (Option.bind (rdI m p i) k1) K := by
  intro rv m' ho H locs ls hP hS hl
  unfold rdI at ho
  by_cases h : i < 0 ∨ len p ≤ i.toNatClampNeg
  · rw [if_pos h] at ho
    cases ho
  · rw [if_neg h] at ho
    obtain ⟨h1, h2⟩ := len_cell (p := p) (by have := fun z => h (Or.inr z); omega)
    exact va_iald E.hx E.hb E.hK hP p 0 (by rw [pic_at h1, h2]) rfl h d (k _ rv m' ho H locs ls hP hS hl)
theorem s_iast {p : Nat} {i v : Int32} {k1 : M → Option α} (E : En G x cc own lev ret) (d : decode cc pc = .ok (.iastore, 1)) (k : ∀ m1, Sm G x (pc + 1) lv st m1 (k1 m1) K) : Sm G x pc lv (.int v :: .int i :: .ref (G.2.1 p) :: st) m (Option.bind (wrI m p i v) k1) K := by
  intro rv m' ho H locs ls hP hS hl
  unfold wrI at ho
  by_cases h : i < 0 ∨ len p ≤ i.toNatClampNeg
  · rw [if_pos h] at ho
    cases ho
  · rw [if_neg h] at ho
    obtain ⟨h1, h2⟩ := len_cell (p := p) (by have := fun z => h (Or.inr z); omega)
    refine va_iast E.hx E.hb E.hK hP (pic_D E.hI m) hS p 0 (by rw [pic_at h1, h2]) rfl h d (fun H1 locs1 hP1 _ hS1 => k _ rv m' ho H1 locs1 ls ?_ hS1 hl)
    rw [← h2, pic_set] at hP1
    exact hP1
theorem s_cald {p : Nat} {i : Int32} {k1 : Int32 → Option α} (E : En G x cc own lev ret) (d : decode cc pc = .ok (.caload, 1)) (k : ∀ v, Sm G x (pc + 1) lv (.int v :: st) m (k1 v) K) : Sm G x pc lv (.int i :: .ref (G.2.1 p) :: st) m (Option.bind (rdC m p i) k1) K := by
  intro rv m' ho H locs ls hP hS hl
  unfold rdC at ho
  by_cases h : i < 0 ∨ lenC p ≤ i.toNatClampNeg
  · rw [if_pos h] at ho
    cases ho
  · rw [if_neg h] at ho
    obtain ⟨h1, h2⟩ := lenC_cell (p := p) (by have := fun z => h (Or.inr z); omega)
    exact va_cald E.hx E.hb E.hK hP p 1 (by rw [pic_at h1, h2]) rfl h d (k _ rv m' ho H locs ls hP hS hl)
/-- a row's length -/
theorem s_alen {p n : Nat} {v : Int32} (E : En G x cc own lev ret) (hn : len p = n) (h0 : 0 < n) (hv : Int32.ofNat n = v) (d : decode cc pc = .ok (.arraylength, 1)) (k : Sm G x (pc + 1) lv (.int v :: st) m o K) : Sm G x pc lv (.ref (G.2.1 p) :: st) m o K := by
  intro rv m' ho H locs ls hP hS hl
  subst hn
  obtain ⟨h1, h2⟩ := len_cell (p := p) h0
  exact va_alen E.hx E.hb E.hK hP p 0 (x := (len p, .inl (m p))) (by rw [pic_at h1, h2]) (ty := .int) rfl hv d (k rv m' ho H locs ls hP hS hl)
def lenI (p : Nat) : Option Int32 := if 0 < len p then some (Int32.ofNat (len p)) else none
theorem s_alenS {p : Nat} {k1 : Int32 → Option α} (E : En G x cc own lev ret) (d : decode cc pc = .ok (.arraylength, 1)) (k : ∀ v, Sm G x (pc + 1) lv (.int v :: st) m (k1 v) K) : Sm G x pc lv (.ref (G.2.1 p) :: st) m (Option.bind (lenI p) k1) K := by
  intro rv m' ho H locs ls hP hS hl
  unfold lenI at ho
  by_cases h : 0 < len p
  · rw [if_pos h] at ho
    exact s_alen E rfl h rfl d (k _) rv m' ho H locs ls hP hS hl
  · rw [if_neg h] at ho
    cases ho
/-- a row of references -/
theorem s_aald {p : Nat} {i : Int32} {k1 : Nat → Option α} (E : En G x cc own lev ret) (d : decode cc pc = .ok (.aaload, 1)) (k : ∀ r, Sm G x (pc + 1) lv (.ref (G.2.1 r) :: st) m (k1 r) K) : Sm G x pc lv (.int i :: .ref (G.2.1 p) :: st) m (Option.bind (rdR p i) k1) K := by
  intro rv m' ho H locs ls hP hS hl
  unfold rdR at ho
  by_cases h : i < 0
  · rw [if_pos h] at ho
    cases ho
  · rw [if_neg h] at ho
    cases hr : (rfs p)[i.toNatClampNeg]? with
    | none => rw [hr] at ho; cases ho
    | some r =>
      rw [hr] at ho
      unfold rfs at hr
      split at hr
      · next t hs =>
        obtain ⟨t, l⟩ := t
        have hlt : i.toNatClampNeg < l.length := (List.getElem?_eq_some_iff.mp hr).1
        have hin : vp_in i l.length := fun z => z.elim h (fun z => by omega)
        have hT : ∃ (t0 : Nat) (ty : FieldType), ty.isReference = true ∧ (tysG G)[t0]? = some (G.2.2 t, ty) := by
          have hall : ∀ y ∈ SHT, (match y with | .inr (.inr (a, _)) => a == 2 || a == 3 | _ => true) = true := by decide +kernel
          have := hall _ (List.mem_of_getElem? hs)
          simp at this
          rcases this with e | e
          · exact ⟨2, .array .int, rfl, by rw [e]; rfl⟩
          · exact ⟨3, .object "WreckBoard$Member", rfl, by rw [e]; rfl⟩
        obtain ⟨t0, ty, hty, ht⟩ := hT
        have hc := hP p _ (by rw [pic_at (SHT_lt hs), cell_refs hs])
        exact W.aald (v := va_rf ((l[i.toNatClampNeg]?).map G.2.1)) (ty := ty) E.hx E.hb hc ((E.hK.2 t0 _ ht).1 l.length (fun j => va_rf ((l[j]?).map G.2.1))) hty (fun q => by cases q) (by show ¬ (i < 0 ∨ (arrV _ _ _).slots.size ≤ _); rw [arrV_size]; exact hin) (by show (arrV _ _ _).slots[_]? = _; rw [arrV_read _ _ hlt]) rfl rfl d (by rw [hr]; exact k r rv m' ho H locs ls hP hS hl)
      · cases hr
-- statics
theorem s_getsS {index : Nat} (E : En G x cc own lev ret) (hl : Cond.fieldLink own index "WreckBoard" "SELF_AND_ABOVE" "[I" ∈ gw) (d : decode cc pc = .ok (.getstatic index, 3)) (k : Sm G x (pc + 3) lv (.ref (G.2.1 200) :: st) m o K) : Sm G x pc lv st m o K :=
  fun rv m' ho H locs ls hP hS hlv => va_gets E.hx E.hb E.hRo.1.1 hS E.hown (E.hts _ hl) (fun _ h => h) d (k rv m' ho H locs ls hP hS hlv)
theorem s_getsO {index : Nat} (E : En G x cc own lev ret) (hl : Cond.fieldLink own index "WreckBoard" "ORDERS" "[I" ∈ gw) (d : decode cc pc = .ok (.getstatic index, 3)) (k : Sm G x (pc + 3) lv (.ref (G.2.1 201) :: st) m o K) : Sm G x pc lv st m o K :=
  fun rv m' ho H locs ls hP hS hlv => va_gets E.hx E.hb E.hRo.2.1.1 hS E.hown (E.hts _ hl) (fun _ h => h) d (k rv m' ho H locs ls hP hS hlv)
theorem s_staS {i : Int32} {k1 : Int32 → Option α} (E : En G x cc own lev ret) (d : decode cc pc = .ok (.iaload, 1)) (k : ∀ v, Sm G x (pc + 1) lv (.int v :: st) m (k1 v) K) : Sm G x pc lv (.int i :: .ref (G.2.1 200) :: st) m (Option.bind (rdK tabSelf i) k1) K := by
  intro rv m' ho H locs ls hP hS hl
  unfold rdK at ho
  by_cases h : i < 0 ∨ tabSelf.length ≤ i.toNatClampNeg
  · rw [if_pos h] at ho
    cases ho
  · rw [if_neg h] at ho
    exact va_ti E.hx E.hb E.hRo.1.2 hS h rfl d (k _ rv m' ho H locs ls hP hS hl)
theorem s_staO {i : Int32} {k1 : Int32 → Option α} (E : En G x cc own lev ret) (d : decode cc pc = .ok (.iaload, 1)) (k : ∀ v, Sm G x (pc + 1) lv (.int v :: st) m (k1 v) K) : Sm G x pc lv (.int i :: .ref (G.2.1 201) :: st) m (Option.bind (rdK tabOrders i) k1) K := by
  intro rv m' ho H locs ls hP hS hl
  unfold rdK at ho
  by_cases h : i < 0 ∨ tabOrders.length ≤ i.toNatClampNeg
  · rw [if_pos h] at ho
    cases ho
  · rw [if_neg h] at ho
    exact va_ti E.hx E.hb E.hRo.2.1.2 hS h rfl d (k _ rv m' ho H locs ls hP hS hl)
theorem s_lenO {v : Int32} (E : En G x cc own lev ret) (hv : Int32.ofNat 6 = v) (d : decode cc pc = .ok (.arraylength, 1)) (k : Sm G x (pc + 1) lv (.int v :: st) m o K) : Sm G x pc lv (.ref (G.2.1 201) :: st) m o K :=
  fun rv m' ho H locs ls hP hS hl => va_tlen E.hx E.hb E.hRo.2.1.2 hS hv d (k rv m' ho H locs ls hP hS hl)
-- ends
theorem s_iret {v : Int32} {a : α} (E : En G x cc own lev (some .int)) (hK : K a = some (some (.int v), m)) (d : decode cc pc = .ok (.ireturn, 1)) : Sm G x pc lv [.int v] m (some a) K := by
  intro rv m' ho H locs ls hP hS hl
  have h := hK.symm.trans ho
  cases h
  have hlocks := E.hlocks
  exact W.iret E.hx E.hb E.hret (fun t ht _ => ⟨⟨rfl, by rw [ht]; exact hP⟩, hS.F ht⟩) hS.2.2 d
/-- a boolean -/
theorem s_zret {v : Int32} {a : α} (E : En G x cc own lev (some .boolean)) (hn : v &&& 1 = v) (hK : K a = some (some (.int v), m)) (d : decode cc pc = .ok (.ireturn, 1)) : Sm G x pc lv [.int v] m (some a) K := by
  intro rv m' ho H locs ls hP hS hl
  have h := hK.symm.trans ho
  cases h
  have hlocks := E.hlocks
  exact W.zret E.hx E.hb E.hret (by show Value.int (v &&& 1) = _; rw [hn]) (fun t ht _ => ⟨⟨rfl, by rw [ht]; exact hP⟩, hS.F ht⟩) hS.2.2 d
theorem s_lret {v : Int64} {a : α} (E : En G x cc own lev (some .long)) (hK : K a = some (some (.long v), m)) (d : decode cc pc = .ok (.lreturn, 1)) : Sm G x pc lv [.long v] m (some a) K := by
  intro rv m' ho H locs ls hP hS hl
  have h := hK.symm.trans ho
  cases h
  have hlocks := E.hlocks
  exact W.lret E.hx E.hb E.hret (fun t ht _ => ⟨⟨rfl, by rw [ht]; exact hP⟩, hS.F ht⟩) hS.2.2 d
theorem s_vret {a : α} (E : En G x cc own lev none) (hK : K a = some (none, m)) (d : decode cc pc = .ok (.return_, 1)) : Sm G x pc lv [] m (some a) K := by
  intro rv m' ho H locs ls hP hS hl
  have h := hK.symm.trans ho
  cases h
  have hlocks := E.hlocks
  exact W.vret E.hx E.hb E.hret (fun t ht _ => ⟨⟨rfl, by rw [ht]; exact hP⟩, hS.F ht⟩) hS.2.2 d
/-- what comes behind -/
theorem s_out {γ : Type} {o3 : Option γ} {K3 : γ → Option (Option Value × M)} {a : α} (h : K a = o3.bind K3) (k : Sm G x pc lv st m o3 K3) : Sm G x pc lv st m (some a) K :=
  fun rv m' ho => k rv m' (by rw [← h]; exact ho)
/-- the loop -/
theorem s_loop {S R : Type} {head : Nat} {body : S → Option (S ⊕ R)} {rest : R → Option α} (lvf : S → List (Nat × Value)) (mf : S → M)
    (hb : ∀ (K2 : S ⊕ R → Option (Option Value × M)), (∀ s', Sm G x head (lvf s') [] (mf s') (some (.inl s')) K2) → (∀ r, K2 (.inr r) = (rest r).bind K) → ∀ s, Sm G x head (lvf s) [] (mf s) (body s) K2) :
    ∀ (n : Nat) (s : S), Sm G x head (lvf s) [] (mf s) (Option.bind (iter body n s) rest) K := by
  intro n
  induction n with
  | zero => intro s rv m' ho; cases ho
  | succ n ih =>
    intro s rv m' ho
    refine hb (fun z => match z with | .inl s' => (Option.bind (iter body n s') rest).bind K | .inr r => (rest r).bind K) (fun s' rv m' ho => ih s' rv m' ho) (fun r => rfl) s rv m' ?_
    rw [← ho]
    show _ = ((Option.bind ((body s).bind _) rest).bind K)
    cases body s with
    | none => rfl
    | some z => cases z <;> rfl
end SM
