def LEn (l : Launch) (p : Program) (e : Env) (s : State) (mi : MethodId) (meth : Method) (c : Code) (G : GG) (b L : Nat) (xs : Nat → Int32) : Prop :=
  p.tables.exec = Jvm.exec ∧ c.code = code ∧ c.maxLocals = 4 ∧ s.vm.findClass RL = some mi.cls ∧ (∀ w ∈ gw, w.before #[Value.ref b] s = true) ∧ va_K G.1 vwCl (tysG G) s ∧ Inj G ∧ meth.locks = false ∧ Ro G s s.heap ∧ meth.sig.returnType = ret ∧ va_X b L xs s s.heap ∧ b < s.heap.size ∧ (∀ q, q < NC → s.heap.size ≤ G.2.1 q) ∧ L ≤ 2560
def Lm (l : Launch) (p : Program) (e : Env) (s : State) (mi : MethodId) (below : List Frame) (meth : Method) (c : Code) (G : GG) (b cells slots pc i : Nat) (st : List Value) (m : M) : Prop :=
  ∀ (H : Heap) (locs : List Loc) (ls : Array Slot), va_P G.1 vwCl (pic G m) H → va_S (fun q => s.heap.size ≤ q) s.heap H locs → lv_has ls 4 [(0, .ref b), (1, .ref (G.2.1 0)), (2, .ref (G.2.1 76)), (3, .int (nI i))] → W p l e room_1 s mi #[Value.ref b] below meth c H locs cells slots (lw_Z below #[Value.ref b] s) (F0 mi pc ls st)
section LM
variable {l : Launch} {p : Program} {e : Env} {s : State} {mi : MethodId} {below : List Frame} {meth : Method} {c : Code} {G : GG} {b L : Nat} {xs : Nat → Int32} {cells slots pc i : Nat} {st st0 : List Value} {m : M}
theorem l_aload0 (E : LEn l p e s mi meth c G b L xs) (d : decode code pc = .ok (.aload_n 0, 1)) (k : Lm l p e s mi below meth c G b cells slots (pc + 1) i (.ref b :: st) m) : Lm l p e s mi below meth c G b cells slots pc i st m :=
  fun H locs ls hP hS hl => lv_aload_n E.1 E.2.1 d rfl (lv_at hl 0 rfl) (k H locs ls hP hS hl)
theorem l_aload1 (E : LEn l p e s mi meth c G b L xs) (d : decode code pc = .ok (.aload_n 1, 1)) (k : Lm l p e s mi below meth c G b cells slots (pc + 1) i (.ref (G.2.1 0) :: st) m) : Lm l p e s mi below meth c G b cells slots pc i st m :=
  fun H locs ls hP hS hl => lv_aload_n E.1 E.2.1 d rfl (lv_at hl 1 rfl) (k H locs ls hP hS hl)
theorem l_aload2 (E : LEn l p e s mi meth c G b L xs) (d : decode code pc = .ok (.aload_n 2, 1)) (k : Lm l p e s mi below meth c G b cells slots (pc + 1) i (.ref (G.2.1 76) :: st) m) : Lm l p e s mi below meth c G b cells slots pc i st m :=
  fun H locs ls hP hS hl => lv_aload_n E.1 E.2.1 d rfl (lv_at hl 2 rfl) (k H locs ls hP hS hl)
theorem l_iload3 (E : LEn l p e s mi meth c G b L xs) (d : decode code pc = .ok (.iload_n 3, 1)) (k : Lm l p e s mi below meth c G b cells slots (pc + 1) i (.int (nI i) :: st) m) : Lm l p e s mi below meth c G b cells slots pc i st m :=
  fun H locs ls hP hS hl => lv_iload_n E.1 E.2.1 d rfl (lv_at hl 3 rfl) (k H locs ls hP hS hl)
theorem l_iconst {n : Int} {v : Int32} (E : LEn l p e s mi meth c G b L xs) (d : decode code pc = .ok (.iconst n, 1)) (hv : Int32.ofInt n = v) (k : Lm l p e s mi below meth c G b cells slots (pc + 1) i (.int v :: st) m) : Lm l p e s mi below meth c G b cells slots pc i st m :=
  fun H locs ls hP hS hl => lv_iconst E.1 E.2.1 d hv (k H locs ls hP hS hl)
theorem l_bipush {n : Int} {v : Int32} (E : LEn l p e s mi meth c G b L xs) (d : decode code pc = .ok (.bipush n, 2)) (hv : (Int8.ofInt n).toInt32 = v) (k : Lm l p e s mi below meth c G b cells slots (pc + 2) i (.int v :: st) m) : Lm l p e s mi below meth c G b cells slots pc i st m :=
  fun H locs ls hP hS hl => lv_bipush E.1 E.2.1 d hv (k H locs ls hP hS hl)
theorem l_ldc2 {index : Nat} {v : Int64} (E : LEn l p e s mi meth c G b L xs) (d : decode code pc = .ok (.ldc2_w index, 3)) (hw : Jvm.Cond.constantLong "WreckBoardLaw" index v ∈ gw) (k : Lm l p e s mi below meth c G b cells slots (pc + 3) i (.long v :: st) m) : Lm l p e s mi below meth c G b cells slots pc i st m :=
  fun H locs ls hP hS hl => lv_ldc2 E.1 E.2.1 E.2.2.2.1 (E.2.2.2.2.1 _ hw) d (k H locs ls hP hS hl)
theorem l_iadd {x y : Int32} (E : LEn l p e s mi meth c G b L xs) (d : decode code pc = .ok (.iadd, 1)) (k : Lm l p e s mi below meth c G b cells slots (pc + 1) i (.int (x + y) :: st) m) : Lm l p e s mi below meth c G b cells slots pc i (.int y :: .int x :: st) m :=
  fun H locs ls hP hS hl => lv_iadd E.1 E.2.1 d (k H locs ls hP hS hl)
theorem l_isub {x y : Int32} (E : LEn l p e s mi meth c G b L xs) (d : decode code pc = .ok (.isub, 1)) (k : Lm l p e s mi below meth c G b cells slots (pc + 1) i (.int (x - y) :: st) m) : Lm l p e s mi below meth c G b cells slots pc i (.int y :: .int x :: st) m :=
  fun H locs ls hP hS hl => lv_isub E.1 E.2.1 d (k H locs ls hP hS hl)
theorem l_iand {x y : Int32} (E : LEn l p e s mi meth c G b L xs) (d : decode code pc = .ok (.iand, 1)) (k : Lm l p e s mi below meth c G b cells slots (pc + 1) i (.int (x &&& y) :: st) m) : Lm l p e s mi below meth c G b cells slots pc i (.int y :: .int x :: st) m :=
  fun H locs ls hP hS hl => lv_iand E.1 E.2.1 d (k H locs ls hP hS hl)
theorem l_i2l {x : Int32} (E : LEn l p e s mi meth c G b L xs) (d : decode code pc = .ok (.i2l, 1)) (k : Lm l p e s mi below meth c G b cells slots (pc + 1) i (.long x.toInt64 :: st) m) : Lm l p e s mi below meth c G b cells slots pc i (.int x :: st) m :=
  fun H locs ls hP hS hl => lv_i2l E.1 E.2.1 d rfl (k H locs ls hP hS hl)
theorem l_lshl {x : Int64} {y : Int32} (E : LEn l p e s mi meth c G b L xs) (d : decode code pc = .ok (.lshl, 1)) (k : Lm l p e s mi below meth c G b cells slots (pc + 1) i (.long (x <<< (y.toInt64 &&& 63)) :: st) m) : Lm l p e s mi below meth c G b cells slots pc i (.int y :: .long x :: st) m :=
  fun H locs ls hP hS hl => lv_lshl E.1 E.2.1 d rfl (k H locs ls hP hS hl)
theorem l_lor {x y : Int64} (E : LEn l p e s mi meth c G b L xs) (d : decode code pc = .ok (.lor, 1)) (k : Lm l p e s mi below meth c G b cells slots (pc + 1) i (.long (x ||| y) :: st) m) : Lm l p e s mi below meth c G b cells slots pc i (.long y :: .long x :: st) m :=
  fun H locs ls hP hS hl => lv_lor E.1 E.2.1 d (k H locs ls hP hS hl)
theorem l_land {x y : Int64} (E : LEn l p e s mi meth c G b L xs) (d : decode code pc = .ok (.land, 1)) (k : Lm l p e s mi below meth c G b cells slots (pc + 1) i (.long (x &&& y) :: st) m) : Lm l p e s mi below meth c G b cells slots pc i (.long y :: .long x :: st) m :=
  fun H locs ls hP hS hl => lv_land E.1 E.2.1 d (k H locs ls hP hS hl)
theorem l_bA (E : LEn l p e s mi meth c G b L xs) : ¬ (fun q : Nat => s.heap.size ≤ q) b := Nat.not_le.mpr E.2.2.2.2.2.2.2.2.2.2.2.1
/-- an int of the script -/
theorem l_iald {a : Int32} {k0 : Nat} (E : LEn l p e s mi meth c G b L xs) (ha : a = nI k0) (hin : i + k0 < L) (d : decode code pc = .ok (.iaload, 1)) (k : Lm l p e s mi below meth c G b cells slots (pc + 1) i (.int (xs (i + k0)) :: st) m) : Lm l p e s mi below meth c G b cells slots pc i (.int (nI i + a) :: .ref b :: st) m := by
  intro H locs ls hP hS hl
  have hL := E.2.2.2.2.2.2.2.2.2.2.2.2.2
  have h1 : nI i + a = nI (i + k0) := by rw [ha, nI_add]
  have h2 := va_sld (A := fun q => s.heap.size ≤ q) (Q := lw_Z below #[Value.ref b] s) (R := room_1) (m := mi) (below := below) (meth := meth) (ls := ls) (cells := cells) (slots := slots) (rest := st) (p := p) (l := l) (e := e) (args := #[Value.ref b]) (pc := pc) E.1 E.2.1 E.2.2.2.2.2.2.2.2.2.2.1 E.2.2.2.2.2.2.2.2.2.2.2.1 (l_bA E) hS (i := nI i + a) (by rw [h1]; exact vp_in_nI hin (by omega)) d
  rw [h1, nI_clamp (by omega)] at h2
  rw [h1]
  exact h2 (k H locs ls hP hS hl)
theorem l_iald0 (E : LEn l p e s mi meth c G b L xs) (hin : i < L) (d : decode code pc = .ok (.iaload, 1)) (k : Lm l p e s mi below meth c G b cells slots (pc + 1) i (.int (xs i) :: st) m) : Lm l p e s mi below meth c G b cells slots pc i (.int (nI i) :: .ref b :: st) m := by
  intro H locs ls hP hS hl
  have hL := E.2.2.2.2.2.2.2.2.2.2.2.2.2
  have h2 := va_sld (A := fun q => s.heap.size ≤ q) (Q := lw_Z below #[Value.ref b] s) (R := room_1) (m := mi) (below := below) (meth := meth) (ls := ls) (cells := cells) (slots := slots) (rest := st) (p := p) (l := l) (e := e) (args := #[Value.ref b]) (pc := pc) E.1 E.2.1 E.2.2.2.2.2.2.2.2.2.2.1 E.2.2.2.2.2.2.2.2.2.2.2.1 (l_bA E) hS (i := nI i) (vp_in_nI hin (by omega)) d
  rw [nI_clamp (by omega)] at h2
  exact h2 (k H locs ls hP hS hl)
theorem l_alen (E : LEn l p e s mi meth c G b L xs) (d : decode code pc = .ok (.arraylength, 1)) (k : Lm l p e s mi below meth c G b cells slots (pc + 1) i (.int (nI L) :: st) m) : Lm l p e s mi below meth c G b cells slots pc i (.ref b :: st) m :=
  fun H locs ls hP hS hl => va_slen E.1 E.2.1 E.2.2.2.2.2.2.2.2.2.2.1 E.2.2.2.2.2.2.2.2.2.2.2.1 (l_bA E) hS d (k H locs ls hP hS hl)
theorem l_eq {v : Int32} {off : Int} (tgt : Nat) (E : LEn l p e s mi meth c G b L xs) (d : decode code pc = .ok (.if_icmp .eq off, 3)) (ht : (pc : Int) + off = (tgt : Int)) (k : Lm l p e s mi below meth c G b cells slots tgt i st m) : Lm l p e s mi below meth c G b cells slots pc i (.int v :: .int v :: st) m :=
  fun H locs ls hP hS hl => lv_icmp_eq E.1 E.2.1 d ht (fun _ => k H locs ls hP hS hl) (fun h => absurd rfl h)
theorem l_gt {x y : Int32} {off : Int} (tgt : Nat) (E : LEn l p e s mi meth c G b L xs) (d : decode code pc = .ok (.if_icmp .gt off, 3)) (ht : (pc : Int) + off = (tgt : Int)) (k1 : y < x → Lm l p e s mi below meth c G b cells slots tgt i st m) (k2 : ¬ y < x → Lm l p e s mi below meth c G b cells slots (pc + 3) i st m) : Lm l p e s mi below meth c G b cells slots pc i (.int y :: .int x :: st) m :=
  fun H locs ls hP hS hl => lv_icmp_gt E.1 E.2.1 d ht (fun h => k1 h H locs ls hP hS hl) (fun h => k2 h H locs ls hP hS hl)
theorem l_goto {off : Int} (tgt : Nat) (E : LEn l p e s mi meth c G b L xs) (d : decode code pc = .ok (.goto off, 3)) (ht : (pc : Int) + off = (tgt : Int)) (k : Lm l p e s mi below meth c G b cells slots tgt i st m) : Lm l p e s mi below meth c G b cells slots pc i st m :=
  fun H locs ls hP hS hl => lv_goto E.1 E.2.1 d ht (k H locs ls hP hS hl)
theorem l_iinc (E : LEn l p e s mi meth c G b L xs) (d : decode code pc = .ok (.iinc 3 5, 3)) (k : Lm l p e s mi below meth c G b cells slots (pc + 3) (i + 5) st m) : Lm l p e s mi below meth c G b cells slots pc i st m :=
  fun H locs ls hP hS hl => lv_iinc (k := 3) E.1 E.2.1 d hl rfl (v := nI (i + 5)) (by rw [← nI_add]; rfl) (by decide) rfl (fun ls' hl' => k H locs ls' hP hS (lv_sub hl' [1, 2, 3, 0] rfl))
theorem l_tabIn {a cst : Int32} {dflt lo hi off : Int} {offs : Array Int} {n : Nat} (tgt : Nat) (E : LEn l p e s mi meth c G b L xs) (d : decode code pc = .ok (.tableswitch dflt lo hi offs, n)) (h : a = cst) (h1 : ¬ cst.toInt < lo) (h2 : ¬ hi < cst.toInt) (ho : offs[(cst.toInt - lo).toNat]? = some off) (ht : (pc : Int) + off = (tgt : Int)) (k : Lm l p e s mi below meth c G b cells slots tgt i st m) : Lm l p e s mi below meth c G b cells slots pc i (.int a :: st) m := by
  subst h
  exact fun H locs ls hP hS hl => lv_tableIn E.1 E.2.1 d h1 h2 ho ht (k H locs ls hP hS hl)
theorem l_tabOut {a : Int32} {dflt lo hi : Int} {offs : Array Int} {n : Nat} (tgt : Nat) (E : LEn l p e s mi meth c G b L xs) (d : decode code pc = .ok (.tableswitch dflt lo hi offs, n)) (h : a.toInt < lo ∨ hi < a.toInt) (ht : (pc : Int) + dflt = (tgt : Int)) (k : Lm l p e s mi below meth c G b cells slots tgt i st m) : Lm l p e s mi below meth c G b cells slots pc i (.int a :: st) m :=
  fun H locs ls hP hS hl => lv_tableOut E.1 E.2.1 d h ht (k H locs ls hP hS hl)
theorem l_call {y : MethodName} {bytes : ByteArray} {maxL lev' index n q ci N : Nat} {ret' : Option FieldType} {C : String} {T : u_T} {sh : List (Option Nat)} {As rest : List Value} {v : Int32} {m1 : M} (E : LEn l p e s mi meth c G b L xs) (hM : Ct l G y bytes maxL ret' lev' (.ref (G.2.1 q) :: As) m (some (.int v)) m1) (hd : mdq y n) (hl : Cond.methodLink "WreckBoardLaw" index y ∈ gw) (hi : Cond.instanceMethod y ∈ gw) (hsel : Cond.selects C y y ∈ gw) (hini : Cond.initialized y.cls ∈ gw) (hcode : Cond.code y bytes maxL ret' ∈ gw) (hs : SHT[q]? = some (.inl (ci, sh))) (hc : vwCl[ci]? = some (C, T, N)) (hn : As.length = n) (hst : st0 = As.reverse ++ .ref (G.2.1 q) :: rest) (hroom : (rest.map fun v => v.category).sum ≤ 8) (hlev : lev' + 1 ≤ 2048) (hlo : 8 + (maxL + 11) + 64 * lev' ≤ 84000) (d : decode code pc = .ok (.invokevirtual index, 3)) (k : Lm l p e s mi below meth c G b cells slots (pc + 3) i (.int v :: rest) m1) (hce : cells ≤ 600000 ∧ slots ≤ 7302250 := by decide) : Lm l p e s mi below meth c G b cells slots pc i st0 m := by
  obtain ⟨hx, hb, hml, hown, hts, hK, hI, hlk, hRo, hrt, hX, hbl, had, hL⟩ := E
  intro H locs ls hP hS hlv T2 hT X
  have hSW : ∀ a : Nat, a < s.heap.size → ¬ WA G a → H[a]? = s.heap[a]? := fun a h1 _ => hS.2.1 a h1 (Nat.not_le.mpr h1)
  have hrun := va_runV (C := C) (e := e) (below := below) (meth := meth) (R := room_1) (H := H) (locs := locs) (cells := cells) (slots := slots) (b := G.2.1 q) (As := As) (rest := rest) (g := F0 mi pc ls st0) ⟨hx, hb, hml, hown, hts⟩ hM ⟨callB_of n hts (gw_call hcode) rfl rfl rfl (hts _ hini) (hts _ hl) hd ⟨hlev, hlo⟩, hts _ hi, hts _ hsel⟩ ⟨blind, va_recv hK hP hc (by rw [pic_at (SHT_lt hs), cell_obj hs]), fun U hU hW => ⟨rfl, by rw [hU]; exact hP, va_K.moved hW.alike hK, hI, Ro.go hRo hW (by rw [hU]; exact hSW)⟩⟩ rfl hn hlv.1 hst (lv_room hroom) d ⟨hce.1, hce.2⟩
  obtain ⟨v1, st₀, t, T', Lc, h0, X', hLc, e1, e2, ⟨⟨hv, hPt⟩, hz, hk⟩, stp⟩ := hrun T2 hT X
  cases hv
  rw [h0] at hz hk
  have hWA : ∀ a, WA G a → s.heap.size ≤ a := fun a ⟨r, hr, e⟩ => by rw [e]; exact had r hr
  obtain ⟨t2, a1, b1⟩ := k T'.heap (locs ++ Lc) ls (by rw [e1]; exact hPt) ⟨Nat.le_trans hS.1 (by rw [e1]; exact hz), fun q h1 h2 => by rw [e1, hk q (Nat.lt_of_lt_of_le h1 hS.1) (fun h => h2 (hWA q h))]; exact hS.2.1 q h1 h2, fun q hq => by
    rcases List.mem_append.mp hq with h | h
    · exact hS.2.2 q h
    · exact hWA _ (hLc q h)⟩ hlv T' rfl X'
  exact ⟨t2, stp t2 a1, b1⟩
/-- the end -/
theorem l_end (E : LEn l p e s mi meth c G b L xs) (d : decode code pc = .ok (.ireturn, 1)) (hce : cells ≤ 600000 ∧ slots ≤ 7302250) : Lm l p e s mi below meth c G b cells slots pc i [.int 1] m := by
  intro H locs ls hP hS hl
  refine va_forget (fun q hq => hS.2.2 q hq) ?_
  refine W.widen (k := 600000) (n := 7302250) hce.1 hce.2 ?_
  exact lw_ret E.1 E.2.1 E.2.2.2.2.2.2.2.2.2.1 E.2.2.2.2.2.2.2.1 d
end LM
