theorem cAOA_warm {s U : State} (hW : s.WarmedH U.vm) (h : cAOA s) : cAOA U := by
  have h0 : (Cond.arrayOver (.array .int)).before #[] s = true := h
  unfold Cond.before Cond.holds at h0
  simp only [Cond.value, beq_iff_eq] at h0
  have hvm := hW.alike
  cases hc : s.vm.findClass (FieldType.array .int).toString with
  | none => simp [hc] at h0
  | some comp =>
    simp only [hc, Option.bind_some, Option.bind_eq_some_iff, Option.map_eq_some_iff] at h0
    obtain ⟨c, hi, k, hk, hb⟩ := h0
    obtain ⟨k', hk', he⟩ := hvm.2.2 _ _ hk
    have key : ∀ vm : Vm, (vm.bare.classes.findIdx? fun (x : Class) => match x.kind with | .array component _ => component == comp | _ => false) = (vm.classes.findIdx? fun (x : Class) => match x.kind with | .array component _ => component == comp | _ => false) := by
      intro vm
      simp only [Vm.bare, Array.findIdx?_map]
      rfl
    have hi1 : (s.vm.classes.findIdx? fun (x : Class) => match x.kind with | .array component _ => component == comp | _ => false) = some c := hi
    have hi2 : (U.vm.classes.findIdx? fun (x : Class) => match x.kind with | .array component _ => component == comp | _ => false) = some c := by
      rw [← key]
      first | rw [hvm.bare_eq] | rw [← hvm.bare_eq]
      rw [key]
      exact hi1
    have f1 : U.vm.findClass (FieldType.array .int).toString = some comp := by rw [hvm.findClass]; exact hc
    unfold cAOA Cond.before Cond.holds
    simp only [Cond.value]
    rw [f1, Option.bind_some]
    refine (congrArg (fun o : Option Nat => (o.bind (fun c => (U.vm.classes[c]?).map fun (k : Class) => match k.kind with | .array _ ty => decide (ty = FieldType.array .int) && decide (U.vm.findClass ("[" ++ (FieldType.array .int).toString) = some c) | _ => false) == some true)) hi2).trans ?_
    rw [Option.bind_some, hk', Option.map_some]
    rw [he]
    rw [hvm.findClass]
    have fin : ∀ b : Bool, b = true → (some b == some true) = true := by
      intro b h
      rw [h]
      rfl
    exact fin _ hb
section CM
variable {D : va_G} {cA : Nat → ClassId} {z : Nat} {x : Cx} {ad0 : Nat → Nat} {w0 wE : CW} {mE : M} {mc ms : Nat} {pc : Nat} {lv lv' : List (Nat × AV)} {st : List AV} {w : CW} {m : M} {cells slots : Nat} {cc : ByteArray} {own : String} {lev : Nat}
theorem lv_av {ad : Nat → Nat} {lv : List (Nat × AV)} {q i : Nat} {v : AV} (h : lv[q]? = some (i, v)) : (lv.map (fun e => (e.1, avV ad e.2)))[q]? = some (i, avV ad v) := by
  rw [List.getElem?_map, h]
  rfl
theorem c_aload0 {p : Nat} (E : CEn D cA z x cc own lev mc ms) (d : decode cc pc = .ok (.aload_n 0, 1)) (hq : lv[0]? = some (0, .inl p)) (k : Cm D cA z x ad0 w0 wE mE mc ms (pc + 1) lv (.inl p :: st) w m cells slots) : Cm D cA z x ad0 w0 wE mE mc ms pc lv st w m cells slots :=
  fun ad had H locs ls hP hD hS hl => lv_aload_n E.hx E.hb d rfl (lv_at hl 0 (lv_av hq)) (k ad had H locs ls hP hD hS hl)
theorem c_iload1 {v : Int32} (E : CEn D cA z x cc own lev mc ms) (d : decode cc pc = .ok (.iload_n 1, 1)) (hq : lv[1]? = some (1, .inr v)) (k : Cm D cA z x ad0 w0 wE mE mc ms (pc + 1) lv (.inr v :: st) w m cells slots) : Cm D cA z x ad0 w0 wE mE mc ms pc lv st w m cells slots :=
  fun ad had H locs ls hP hD hS hl => lv_iload_n E.hx E.hb d rfl (lv_at hl 1 (lv_av hq)) (k ad had H locs ls hP hD hS hl)
theorem c_iconst {n : Int} {v : Int32} (E : CEn D cA z x cc own lev mc ms) (d : decode cc pc = .ok (.iconst n, 1)) (hv : Int32.ofInt n = v) (k : Cm D cA z x ad0 w0 wE mE mc ms (pc + 1) lv (.inr v :: st) w m cells slots) : Cm D cA z x ad0 w0 wE mE mc ms pc lv st w m cells slots :=
  fun ad had H locs ls hP hD hS hl => lv_iconst E.hx E.hb d hv (k ad had H locs ls hP hD hS hl)
theorem c_bipush {n : Int} {v : Int32} (E : CEn D cA z x cc own lev mc ms) (d : decode cc pc = .ok (.bipush n, 2)) (hv : (Int8.ofInt n).toInt32 = v) (k : Cm D cA z x ad0 w0 wE mE mc ms (pc + 2) lv (.inr v :: st) w m cells slots) : Cm D cA z x ad0 w0 wE mE mc ms pc lv st w m cells slots :=
  fun ad had H locs ls hP hD hS hl => lv_bipush E.hx E.hb d hv (k ad had H locs ls hP hD hS hl)
theorem c_sipush {n : Int} {v : Int32} (E : CEn D cA z x cc own lev mc ms) (d : decode cc pc = .ok (.sipush n, 3)) (hv : (Int16.ofInt n).toInt32 = v) (k : Cm D cA z x ad0 w0 wE mE mc ms (pc + 3) lv (.inr v :: st) w m cells slots) : Cm D cA z x ad0 w0 wE mE mc ms pc lv st w m cells slots :=
  fun ad had H locs ls hP hD hS hl => lv_sipush E.hx E.hb d hv (k ad had H locs ls hP hD hS hl)
theorem c_dup {v : AV} (E : CEn D cA z x cc own lev mc ms) (d : decode cc pc = .ok (.dup, 1)) (k : Cm D cA z x ad0 w0 wE mE mc ms (pc + 1) lv (v :: v :: st) w m cells slots) : Cm D cA z x ad0 w0 wE mE mc ms pc lv (v :: st) w m cells slots :=
  fun ad had H locs ls hP hD hS hl => lv_dup E.hx E.hb d (by cases v <;> rfl) (k ad had H locs ls hP hD hS hl)
theorem c_iadd {a b c : Int32} (E : CEn D cA z x cc own lev mc ms) (d : decode cc pc = .ok (.iadd, 1)) (h : a + b = c) (k : Cm D cA z x ad0 w0 wE mE mc ms (pc + 1) lv (.inr c :: st) w m cells slots) : Cm D cA z x ad0 w0 wE mE mc ms pc lv (.inr b :: .inr a :: st) w m cells slots := by
  subst h
  exact fun ad had H locs ls hP hD hS hl => lv_iadd E.hx E.hb d (k ad had H locs ls hP hD hS hl)
theorem c_istore1 {p : Nat} {v : Int32} (E : CEn D cA z x cc own lev mc ms) (d : decode cc pc = .ok (.istore_n 1, 1)) (hn : xn x = 2) (hq : lv[0]? = some (0, .inl p)) (k : Cm D cA z x ad0 w0 wE mE mc ms (pc + 1) [(0, .inl p), (1, .inr v)] st w m cells slots) : Cm D cA z x ad0 w0 wE mE mc ms pc lv (.inr v :: st) w m cells slots := by
  intro ad had H locs ls hP hD hS hl
  have h0 : lv_has ls (xn x) [(0, .ref (ad p))] := ⟨hl.1, hl.2.1, fun e he => by rw [List.mem_singleton.mp he]; exact lv_at hl 0 (lv_av hq)⟩
  exact lv_istore_n E.hx E.hb d rfl h0 (by rw [hn]; decide) rfl (fun ls' hl' => k ad had H locs ls' hP hD hS (lv_sub hl' [1, 0] rfl))
theorem c_iinc1 {p : Nat} {v u : Int32} (E : CEn D cA z x cc own lev mc ms) (d : decode cc pc = .ok (.iinc 1 1, 3)) (hn : xn x = 2) (hu : v + 1 = u) (k : Cm D cA z x ad0 w0 wE mE mc ms (pc + 3) [(0, .inl p), (1, .inr u)] st w m cells slots) : Cm D cA z x ad0 w0 wE mE mc ms pc [(0, .inl p), (1, .inr v)] st w m cells slots := by
  subst hu
  intro ad had H locs ls hP hD hS hl
  have hl : lv_has ls (xn x) [(0, .ref (ad p)), (1, .int v)] := hl
  exact lv_iinc (k := 1) E.hx E.hb d hl rfl rfl (by rw [hn]; decide) rfl (fun ls' hl' => k ad had H locs ls' hP hD hS (lv_sub hl' [1, 0] rfl))
theorem c_goto {off : Int} (tgt : Nat) (E : CEn D cA z x cc own lev mc ms) (d : decode cc pc = .ok (.goto off, 3)) (ht : (pc : Int) + off = (tgt : Int)) (k : Cm D cA z x ad0 w0 wE mE mc ms tgt lv st w m cells slots) : Cm D cA z x ad0 w0 wE mE mc ms pc lv st w m cells slots :=
  fun ad had H locs ls hP hD hS hl => lv_goto E.hx E.hb d ht (k ad had H locs ls hP hD hS hl)
theorem c_geT {a b : Int32} {off : Int} (tgt : Nat) (E : CEn D cA z x cc own lev mc ms) (d : decode cc pc = .ok (.if_icmp .ge off, 3)) (ht : (pc : Int) + off = (tgt : Int)) (h : b ≤ a) (k : Cm D cA z x ad0 w0 wE mE mc ms tgt lv st w m cells slots) : Cm D cA z x ad0 w0 wE mE mc ms pc lv (.inr b :: .inr a :: st) w m cells slots :=
  fun ad had H locs ls hP hD hS hl => lv_icmp_ge E.hx E.hb d ht (fun _ => k ad had H locs ls hP hD hS hl) (fun c => absurd h c)
theorem c_geF {a b : Int32} {off : Int} (tgt : Nat) (E : CEn D cA z x cc own lev mc ms) (d : decode cc pc = .ok (.if_icmp .ge off, 3)) (ht : (pc : Int) + off = (tgt : Int)) (h : ¬ b ≤ a) (k : Cm D cA z x ad0 w0 wE mE mc ms (pc + 3) lv st w m cells slots) : Cm D cA z x ad0 w0 wE mE mc ms pc lv (.inr b :: .inr a :: st) w m cells slots :=
  fun ad had H locs ls hP hD hS hl => lv_icmp_ge E.hx E.hb d ht (fun c => absurd c h) (fun _ => k ad had H locs ls hP hD hS hl)
theorem c_obj {p idx : Nat} (E : CEn D cA z x cc own lev mc ms) (d : decode cc pc = .ok (.invokespecial idx, 3)) (hl1 : Cond.methodLink own idx Lib.objectInit ∈ gw) (hi : Cond.instanceMethod Lib.objectInit ∈ gw) (hc : Cond.code Lib.objectInit ⟨#[0xb1]⟩ 1 none ∈ gw) (hlev : 1 ≤ lev) (hst : st = []) (k : Cm D cA z x ad0 w0 wE mE mc ms (pc + 3) lv st w m cells slots) : Cm D cA z x ad0 w0 wE mE mc ms pc lv (.inl p :: st) w m cells slots := by
  subst hst
  exact fun ad had H locs ls hP hD hS hl => W.objInit E.hx E.hb E.hown (E.hts _ hl1) (E.hts _ hi) (E.hts _ hc) rfl (hl.1.trans E.hml.symm) rfl d (Nat.le_trans hlev E.hfr) (by have := E.hlo; show 2 * 0 + 0 + 12 ≤ _; omega) (k ad had H locs ls hP hD hS hl)
theorem c_getr {C : String} {T : u_T} {N ci k index q p i : Nat} {sh : List (Option (Option Nat))} (E : CEn D cA z x cc own lev mc ms) (hi : w[i]? = some (p, .inl (ci, sh))) (hk : sh[k]? = some (some (some q))) (hc : vwCl[ci]? = some (C, T, N)) (hin : ∀ w ∈ u_ws C T N, w ∈ gw) (hkN : k < N) (hl : Cond.fieldLink own index (T k).1 (T k).2.1 (T k).2.2.1 ∈ gw) (d : decode cc pc = .ok (.getfield index, 3)) (kk : Cm D cA z x ad0 w0 wE mE mc ms (pc + 3) lv (.inl q :: st) w m cells slots) : Cm D cA z x ad0 w0 wE mE mc ms pc lv (.inl p :: st) w m cells slots :=
  fun ad had H locs ls hP hD hS hlv => va_get E.hx E.hb E.hts hin E.hown E.hK hP i (picX_at hi) hc k hkN (E.hts _ hl) (fun _ h => h) (xvals_at hk) d (kk ad had H locs ls hP hD hS hlv)
theorem c_putr {C : String} {T : u_T} {N ci k index q p i : Nat} {sh : List (Option (Option Nat))} {w' : CW} {ty : FieldType} (E : CEn D cA z x cc own lev mc ms) (hi : w[i]? = some (p, .inl (ci, sh))) (hk : k < sh.length) (hc : vwCl[ci]? = some (C, T, N)) (hin : ∀ w ∈ u_ws C T N, w ∈ gw) (ty0 : Nat → FieldType) (hty : ∀ k, k < N → parseFieldDescriptor (T k).2.2.1 = some (ty0 k)) (hnm : ∀ a, a < N → ∀ b, b < N → a ≠ b → (T a).2.1 ≠ (T b).2.1) (hkN : k < N) (hl : Cond.fieldLink own index (T k).1 (T k).2.1 (T k).2.2.1 ∈ gw) (hfin : (T k).2.2.2 = true) (hdecl : (T k).1 = own) (hd : parseFieldDescriptor (T k).2.2.1 = some ty) (hn : ∀ a : Nat, narrow ty (.ref a) = .ref a) (hf : ∀ a : Nat, fits ty (.ref a) = true) (d : decode cc pc = .ok (.putfield index, 3)) (hw : w.set i (p, .inl (ci, sh.set k (some (some q)))) = w') (kk : Cm D cA z x ad0 w0 wE mE mc ms (pc + 3) lv st w' m cells slots) : Cm D cA z x ad0 w0 wE mE mc ms pc lv (.inl q :: .inl p :: st) w m cells slots := by
  intro ad had H locs ls hP hD hS hlv
  refine va_putF (v := .ref (ad q)) E.hx E.hb E.hts hin ty0 hty hnm E.hown E.hK hP hD hS i (picX_at hi) hc k hkN (E.hts _ hl) (fun _ h => h) hfin E.hin hdecl hd (hn _) (hf _) (by unfold xvals; rw [List.length_map, List.length_range]; exact hk) d (fun H1 locs1 hP1 hD1 hS1 => ?_)
  have e : (picX ad cA w m).set i (ad p, .inr (ci, (xvals ad sh (m p)).set k (.ref (ad q)))) = picX ad cA w' m := by
    rw [← xvals_setr hk, ← hw]
    exact picX_set (e := (p, .inl (ci, sh.set k (some (some q)))))
  have hP2 : va_P D vwCl ((picX ad cA w m).set i (ad p, .inr (ci, (xvals ad sh (m p)).set k (.ref (ad q))))) H1 := hP1
  have hD2 : va_D (fun q => z ≤ q) ((picX ad cA w m).set i (ad p, .inr (ci, (xvals ad sh (m p)).set k (.ref (ad q))))) := hD1
  rw [e] at hP2 hD2
  exact kk ad had H1 locs1 ls hP2 hD2 hS1 hlv
theorem c_puti {C : String} {T : u_T} {N ci k index p i : Nat} {v : Int32} {sh : List (Option (Option Nat))} {m' : M} (E : CEn D cA z x cc own lev mc ms) (hi : w[i]? = some (p, .inl (ci, sh))) (hk : sh[k]? = some none) (hc : vwCl[ci]? = some (C, T, N)) (hin : ∀ w ∈ u_ws C T N, w ∈ gw) (ty0 : Nat → FieldType) (hty : ∀ k, k < N → parseFieldDescriptor (T k).2.2.1 = some (ty0 k)) (hnm : ∀ a, a < N → ∀ b, b < N → a ≠ b → (T a).2.1 ≠ (T b).2.1) (hkN : k < N) (hl : Cond.fieldLink own index (T k).1 (T k).2.1 (T k).2.2.1 ∈ gw) (hfin : (T k).2.2.2 = false) (hd : parseFieldDescriptor (T k).2.2.1 = some .int) (d : decode cc pc = .ok (.putfield index, 3)) (hm : wrF m p k v = m') (kk : Cm D cA z x ad0 w0 wE mE mc ms (pc + 3) lv st w m' cells slots) : Cm D cA z x ad0 w0 wE mE mc ms pc lv (.inr v :: .inl p :: st) w m cells slots := by
  intro ad had H locs ls hP hD hS hlv
  have hkl := (List.getElem?_eq_some_iff.mp hk).1
  refine va_put (v := .int v) E.hx E.hb E.hts hin ty0 hty hnm E.hown E.hK hP hD hS i (picX_at hi) hc k hkN (E.hts _ hl) (fun _ h => h) hfin hd rfl rfl (by unfold xvals; rw [List.length_map, List.length_range]; exact hkl) d (fun H1 locs1 hP1 hD1 hS1 => ?_)
  have e : (picX ad cA w m).set i (ad p, .inr (ci, (xvals ad sh (m p)).set k (.int v))) = picX ad cA w m' := by
    rw [← xvals_set hk, ← hm]
    exact picX_mem hD hi
  have hP2 : va_P D vwCl ((picX ad cA w m).set i (ad p, .inr (ci, (xvals ad sh (m p)).set k (.int v)))) H1 := hP1
  have hD2 : va_D (fun q => z ≤ q) ((picX ad cA w m).set i (ad p, .inr (ci, (xvals ad sh (m p)).set k (.int v)))) := hD1
  rw [e] at hP2 hD2
  exact kk ad had H1 locs1 ls hP2 hD2 hS1 hlv
theorem c_iast {p i n : Nat} {j v : Int32} {m' : M} (E : CEn D cA z x cc own lev mc ms) (hi : w[i]? = some (p, .inr (.inl (0, n)))) (hin : ¬ (j < 0 ∨ n ≤ j.toNatClampNeg)) (d : decode cc pc = .ok (.iastore, 1)) (hm : mset m p (upd (m p) j.toNatClampNeg v) = m') (kk : Cm D cA z x ad0 w0 wE mE mc ms (pc + 1) lv st w m' cells slots) : Cm D cA z x ad0 w0 wE mE mc ms pc lv (.inr v :: .inr j :: .inl p :: st) w m cells slots := by
  intro ad had H locs ls hP hD hS hlv
  refine va_iast E.hx E.hb E.hK hP hD hS i 0 (picX_at hi) rfl hin d (fun H1 locs1 hP1 hD1 hS1 => ?_)
  have e : (picX ad cA w m).set i (ad p, .inl (cA 0, n, .inl (upd (m p) j.toNatClampNeg v))) = picX ad cA w m' := by
    rw [← hm]
    exact picX_mem (s := .inr (.inl (0, n))) hD hi
  have hP2 : va_P D vwCl ((picX ad cA w m).set i (ad p, .inl (cA 0, n, .inl (upd (m p) j.toNatClampNeg v)))) H1 := hP1
  have hD2 : va_D (fun q => z ≤ q) ((picX ad cA w m).set i (ad p, .inl (cA 0, n, .inl (upd (m p) j.toNatClampNeg v)))) := hD1
  rw [e] at hP2 hD2
  exact kk ad had H1 locs1 ls hP2 hD2 hS1 hlv
theorem c_cast {p i n : Nat} {j v : Int32} {m' : M} (E : CEn D cA z x cc own lev mc ms) (hi : w[i]? = some (p, .inr (.inl (1, n)))) (hin : ¬ (j < 0 ∨ n ≤ j.toNatClampNeg)) (hv : vp_nar .char v = v) (d : decode cc pc = .ok (.castore, 1)) (hm : mset m p (upd (m p) j.toNatClampNeg v) = m') (kk : Cm D cA z x ad0 w0 wE mE mc ms (pc + 1) lv st w m' cells slots) : Cm D cA z x ad0 w0 wE mE mc ms pc lv (.inr v :: .inr j :: .inl p :: st) w m cells slots := by
  intro ad had H locs ls hP hD hS hlv
  refine va_cast E.hx E.hb E.hK hP hD hS i 1 (picX_at hi) rfl hin d (fun H1 locs1 hP1 hD1 hS1 => ?_)
  rw [hv] at hP1 hD1
  have e : (picX ad cA w m).set i (ad p, .inl (cA 1, n, .inl (upd (m p) j.toNatClampNeg v))) = picX ad cA w m' := by
    rw [← hm]
    exact picX_mem (s := .inr (.inl (1, n))) hD hi
  have hP2 : va_P D vwCl ((picX ad cA w m).set i (ad p, .inl (cA 1, n, .inl (upd (m p) j.toNatClampNeg v)))) H1 := hP1
  have hD2 : va_D (fun q => z ≤ q) ((picX ad cA w m).set i (ad p, .inl (cA 1, n, .inl (upd (m p) j.toNatClampNeg v)))) := hD1
  rw [e] at hP2 hD2
  exact kk ad had H1 locs1 ls hP2 hD2 hS1 hlv
theorem c_aast {C : String} {T : u_T} {N p i i2 q ci : Nat} {l : List (Option Nat)} {sh : List (Option (Option Nat))} {j : Int32} {w' : CW} (E : CEn D cA z x cc own lev mc ms) (hi : w[i]? = some (p, .inr (.inr (3, l)))) (hi2 : w[i2]? = some (q, .inl (ci, sh))) (hc : vwCl[ci]? = some (C, T, N)) (hin : ¬ (j < 0 ∨ l.length ≤ j.toNatClampNeg)) (hC : C = "WreckBoard$Member" ∨ C ∈ casl) (d : decode cc pc = .ok (.aastore, 1)) (hw : w.set i (p, .inr (.inr (3, l.set j.toNatClampNeg (some q)))) = w') (kk : Cm D cA z x ad0 w0 wE mE mc ms (pc + 1) lv st w' m cells slots) : Cm D cA z x ad0 w0 wE mE mc ms pc lv (.inl q :: .inr j :: .inl p :: st) w m cells slots := by
  intro ad had H locs ls hP hD hS hlv
  have hlt : j.toNatClampNeg < l.length := Nat.not_le.mp fun q => hin (Or.inr q)
  have h0 : ¬ j < 0 := fun q => hin (Or.inl q)
  obtain ⟨r', hr', cellV, g1, g2, g3, -⟩ := hP i2 _ (picX_at hi2)
  obtain ⟨hfc, kC, hkC, hkk⟩ := (E.hK.1 ci _ hc).2
  obtain ⟨kA, comp, k1, k2, k3, -⟩ := (E.hK.2 3 (cA 3, .object "WreckBoard$Member") rfl).2
  obtain ⟨hfM, kM, hkM, -⟩ := (E.hK.1 5 (RX5, TX5, 0) rfl).2
  have hcM : comp = D.1 5 := Option.some.inj (k3.symm.trans hfM)
  have hasg : (xs x).vm.assignable (D.1 ci) comp = true := by
    rcases hC with h | h
    · have hfc2 : (xs x).vm.findClass "WreckBoard$Member" = some (D.1 ci) := by rw [← h]; exact hfc
      have : comp = D.1 ci := Option.some.inj (k3.symm.trans hfc2)
      rw [this]
      exact va_asg _ _
    · obtain ⟨c0, t0, f1, f2, f3⟩ := Cond.castable_spec (va_Nw.use (A := xa x) rfl (E.hcast C h))
      have e1 : c0 = D.1 ci := Option.some.inj (f1.symm.trans hfc)
      have e2 : t0 = comp := Option.some.inj (f2.symm.trans k3)
      rw [← e1, ← e2]
      exact f3
  have hcell := hP i _ (picX_at hi)
  refine W.aast E.hx E.hb hcell (fun q h => by cases h) (fun h => by cases h) k1 k2 rfl (by rw [hcM]; exact hkM) ⟨h0, by show _ < (arrV _ _ _).slots.size; rw [arrV_size]; exact hlt⟩ g1 (fun q h => by rw [g3] at h; cases h) (by rw [g2]; exact hkC) (by rw [g2]; exact hasg) rfl rfl d fun H1 e zz oq => ?_
  have he : va_at D vwCl (ad p, cellX ad cA (.inr (.inr (3, l.set j.toNatClampNeg (some q)))) (m p)) H1 := by
    show H1[ad p]? = some (vp_cell (cA 3) ((l.set j.toNatClampNeg (some q)).length, .inr (.inr (.inr (.inr (fun i => ((l.set j.toNatClampNeg (some q)).getD i none).map ad))))))
    rw [e]
    show some ((vp_cell (cA 3) (l.length, .inr (.inr (.inr (.inr (fun i => (l.getD i none).map ad)))))).setSlot j.toNatClampNeg (.ref (ad q))) = _
    rw [vp_cell_q, vp_cell_q, arrV_store, List.length_set]
    refine congrArg (fun f => some (arrV (cA 3) l.length f)) ?_
    funext u
    by_cases hu : u = j.toNatClampNeg
    · subst hu
      rw [List.getD_eq_getElem?_getD, List.getElem?_set_self hlt]
      simp [updV, va_rf]
    · rw [List.getD_eq_getElem?_getD (l := l.set _ _), List.getElem?_set_ne (Ne.symm hu), ← List.getD_eq_getElem?_getD]
      simp [updV, hu]
  have hP2 := hP.set (p := i) hD (picX_at hi) he oq
  have hD2 := hD.set (p := i) (e := cellX ad cA (.inr (.inr (3, l.set j.toNatClampNeg (some q)))) (m p)) (picX_at hi)
  have e3 : (picX ad cA w m).set i (ad p, cellX ad cA (.inr (.inr (3, l.set j.toNatClampNeg (some q)))) (m p)) = picX ad cA w' m := by
    rw [← hw]
    exact picX_set (e := (p, .inr (.inr (3, l.set j.toNatClampNeg (some q)))))
  rw [e3] at hP2 hD2
  exact kk ad had H1 _ ls hP2 hD2 (hS.put zz oq (hD.2 i _ (picX_at hi))) hlv
/-- a new object -/
theorem c_new {C : String} {T : u_T} {N ci index : Nat} {sh : List (Option (Option Nat))} {w' : CW} (p : Nat) (E : CEn D cA z x cc own lev mc ms) (hin : ∀ w ∈ u_ws C T N, w ∈ gw) (ty : Nat → FieldType) (hty : ∀ k, k < N → parseFieldDescriptor (T k).2.2.1 = some (ty k)) (hcl : Cond.classLink own index C ∈ gw) (hinst : Cond.instantiable C N ∈ gw) (hini : Cond.initialized C ∈ gw) (hc : vwCl[ci]? = some (C, T, N)) (hsh : ∀ j, j < N → defaultValue (ty j) = vp_V (xvals (fun _ => 0) sh (fun _ => 0)) j) (hnn : ∀ r ∈ sh, r = none ∨ r = some none) (hm : m p = fun _ => 0) (hfr : freshP p w = true) (hlvp : noP p (lv.map Prod.snd) = true) (hstp : noP p st = true) (hw0 : freshP p w0 = true) (hcells : cells + 1 ≤ mc) (hslots : slots + N ≤ ms) (d : decode cc pc = .ok (.new index, 3)) (hw : w ++ [(p, .inl (ci, sh))] = w') (kk : Cm D cA z x ad0 w0 wE mE mc ms (pc + 3) lv (.inl p :: st) w' m (cells + 1) (slots + N)) : Cm D cA z x ad0 w0 wE mE mc ms pc lv st w m cells slots := by
  intro ad had H locs ls hP hD hS hlv
  have hfs : ∀ ad' : Nat → Nat, xvals ad' sh (fun _ => 0) = xvals (fun _ => 0) sh (fun _ => 0) := by
    intro ad'
    unfold xvals
    apply List.map_congr_left
    intro k hk
    have hk2 := List.mem_range.mp hk
    rw [List.getD_eq_getElem?_getD, List.getElem?_eq_getElem hk2]
    rcases hnn _ (List.getElem_mem hk2) with h | h <;> (show xval _ sh[k] _ = xval _ sh[k] _; rw [h]; rfl)
  refine va_new (fs := xvals (fun _ => 0) sh (fun _ => 0)) E.hx E.hb E.hts hin ty hty E.hown (E.hts _ hcl) (E.hts _ hinst) (E.hts _ hini) E.hK hP hD hS (fun q hq => Nat.le_trans E.hz hq) hc hsh (Nat.le_trans hcells E.hce) (Nat.le_trans hslots E.hsl) d (fun q H1 hP1 hD1 hS1 => ?_)
  have e : picX ad cA w m ++ [(q, .inr (ci, xvals (fun _ => 0) sh (fun _ => 0)))] = picX (fun r => if r = p then q else ad r) cA w' m := by
    rw [← hw]
    unfold picX
    rw [List.map_append]
    refine congr (congrArg _ (picX_fresh (fresh_of hfr)).symm) ?_
    show [_] = [((if p = p then q else ad p), Sum.inr (ci, xvals _ sh (m p)))]
    rw [if_pos rfl, hm, hfs (fun r => if r = p then q else ad r)]
  rw [e] at hP1 hD1
  have k2 := kk (fun r => if r = p then q else ad r) (fun e he => by
    have h9 := (fresh_of hw0 e he).1
    show (if e.1 = p then q else ad e.1) = _
    rw [if_neg h9]
    exact had e he) H1 locs ls hP1 hD1 hS1 (by rw [noP_lv hlvp]; exact hlv)
  rw [List.map_cons, noP_map hstp, show avV (fun r => if r = p then q else ad r) (.inl p) = .ref q from by show Value.ref (if p = p then q else ad p) = _; rw [if_pos rfl]] at k2
  exact k2
/-- a new row of numbers -/
theorem c_newI {atype : ArrayType} {t n : Nat} {ty : FieldType} {v : Int32} {w' : CW} (p : Nat) (E : CEn D cA z x cc own lev mc ms) (harr : Cond.arrayClass (newarray.typeOf atype) ∈ gw) (hty : newarray.typeOf atype = ty) (ht : (ty = .int ∧ t = 0) ∨ (ty = .char ∧ t = 1)) (hv : ¬ v < 0) (hn : v.toNatClampNeg = n) (hb : n ≤ 1000) (hm : m p = fun _ => 0) (hfr : freshP p w = true) (hlvp : noP p (lv.map Prod.snd) = true) (hstp : noP p st = true) (hw0 : freshP p w0 = true) (hcells : cells + 1 ≤ mc) (hslots : slots + n ≤ ms) (d : decode cc pc = .ok (.newarray atype, 2)) (hw : w ++ [(p, .inr (.inl (t, n)))] = w') (kk : Cm D cA z x ad0 w0 wE mE mc ms (pc + 2) lv (.inl p :: st) w' m (cells + 1) (slots + n)) : Cm D cA z x ad0 w0 wE mE mc ms pc lv (.inr v :: st) w m cells slots := by
  intro ad had H locs ls hP hD hS hlv
  have hdef : defaultValue ty = .int 0 := by rcases ht with ⟨h, -⟩ | ⟨h, -⟩ <;> rw [h] <;> rfl
  have hcb : componentBytes ty ≤ 4 := by rcases ht with ⟨h, -⟩ | ⟨h, -⟩ <;> rw [h] <;> decide
  refine va_newa (a0 := (n, .inl (fun _ => 0))) E.hx E.hb (E.hts _ harr) hty E.hK hP hD hS (fun q hq => Nat.le_trans E.hz hq) (fun c => by rw [hdef]; rfl) hv hn (Nat.le_trans (Nat.mul_le_mul hb hcb) (by decide)) (Nat.le_trans hcells E.hce) (Nat.le_trans hslots E.hsl) d (fun q c1 H1 hK1 hP1 hD1 hS1 => ?_)
  have hcA : c1 = cA t := by
    have h1 := (hK1.2 4 (c1, ty) rfl).2
    rcases ht with ⟨h, h2⟩ | ⟨h, h2⟩
    · subst h; subst h2
      have h3 := (E.hK.2 0 (cA 0, .int) rfl).2
      exact Option.some.inj (Eq.trans (Eq.symm h1) h3)
    · subst h; subst h2
      have h3 := (E.hK.2 1 (cA 1, .char) rfl).2
      exact Option.some.inj (Eq.trans (Eq.symm h1) h3)
  have e : picX ad cA w m ++ [(q, .inl (c1, n, .inl (fun _ => 0)))] = picX (fun r => if r = p then q else ad r) cA w' m := by
    rw [← hw]
    unfold picX
    rw [List.map_append]
    refine congr (congrArg _ (picX_fresh (fresh_of hfr)).symm) ?_
    show [_] = [((if p = p then q else ad p), Sum.inl (cA t, n, Sum.inl (m p)))]
    rw [if_pos rfl, hm, hcA]
  rw [e] at hP1 hD1
  have k2 := kk (fun r => if r = p then q else ad r) (fun e he => by
    have h9 := (fresh_of hw0 e he).1
    show (if e.1 = p then q else ad e.1) = _
    rw [if_neg h9]
    exact had e he) H1 locs ls hP1 hD1 hS1 (by rw [noP_lv hlvp]; exact hlv)
  rw [List.map_cons, noP_map hstp, show avV (fun r => if r = p then q else ad r) (.inl p) = .ref q from by show Value.ref (if p = p then q else ad p) = _; rw [if_pos rfl]] at k2
  exact k2
/-- a new row of references to members -/
theorem c_newq {n index : Nat} {v : Int32} {w' : CW} (p : Nat) (E : CEn D cA z x cc own lev mc ms) (hcl : Cond.classLink own index "WreckBoard$Member" ∈ gw) (hv : ¬ v < 0) (hn : v.toNatClampNeg = n) (hb : n ≤ 1000) (hfr : freshP p w = true) (hlvp : noP p (lv.map Prod.snd) = true) (hstp : noP p st = true) (hw0 : freshP p w0 = true) (hcells : cells + 1 ≤ mc) (hslots : slots + n ≤ ms) (d : decode cc pc = .ok (.anewarray index, 3)) (hw : w ++ [(p, .inr (.inr (3, List.replicate n none)))] = w') (kk : Cm D cA z x ad0 w0 wE mE mc ms (pc + 3) lv (.inl p :: st) w' m (cells + 1) (slots + n)) : Cm D cA z x ad0 w0 wE mE mc ms pc lv (.inr v :: st) w m cells slots := by
  intro ad had H locs ls hP hD hS hlv
  refine va_newq E.hx E.hb E.hown (E.hts _ hcl) E.hAO E.hK hP hD hS (fun q hq => Nat.le_trans E.hz hq) hv hn (by omega) (Nat.le_trans hcells E.hce) (Nat.le_trans hslots E.hsl) d (fun q c1 H1 hK1 hP1 hD1 hS1 => ?_)
  have hcA : c1 = cA 3 := by
    obtain ⟨_, _, _, _, _, h1⟩ := (hK1.2 4 (c1, .object "WreckBoard$Member") rfl).2
    obtain ⟨_, _, _, _, _, h3⟩ := (E.hK.2 3 (cA 3, .object "WreckBoard$Member") rfl).2
    exact Option.some.inj (h1.symm.trans h3)
  have e : picX ad cA w m ++ [(q, .inl (c1, n, .inr (.inr (.inr (.inr (fun _ => none))))))] = picX (fun r => if r = p then q else ad r) cA w' m := by
    rw [← hw]
    unfold picX
    rw [List.map_append]
    refine congr (congrArg _ (picX_fresh (fresh_of hfr)).symm) ?_
    show [_] = [((if p = p then q else ad p), Sum.inl (cA 3, (List.replicate n none).length, Sum.inr (Sum.inr (Sum.inr (Sum.inr (fun i => ((List.replicate n (none : Option Nat)).getD i none).map _))))))]
    rw [if_pos rfl, hcA, List.length_replicate]
    have hf : (fun i => ((List.replicate n (none : Option Nat)).getD i none).map (fun r => if r = p then q else ad r)) = (fun _ => none) := by
      funext i
      rw [List.getD_eq_getElem?_getD, List.getElem?_replicate]
      by_cases hi : i < n
      · rw [if_pos hi]; rfl
      · rw [if_neg hi]; rfl
    rw [hf]
  rw [e] at hP1 hD1
  have k2 := kk (fun r => if r = p then q else ad r) (fun e he => by
    have h9 := (fresh_of hw0 e he).1
    show (if e.1 = p then q else ad e.1) = _
    rw [if_neg h9]
    exact had e he) H1 locs ls hP1 hD1 hS1 (by rw [noP_lv hlvp]; exact hlv)
  rw [List.map_cons, noP_map hstp, show avV (fun r => if r = p then q else ad r) (.inl p) = .ref q from by show Value.ref (if p = p then q else ad p) = _; rw [if_pos rfl]] at k2
  exact k2
/-- the end -/
theorem c_ret (E : CEn D cA z x cc own lev mc ms) (d : decode cc pc = .ok (.return_, 1)) (hw : w = wE) (hm : m = mE) (hc : cells = mc) (hs : slots = ms) : Cm D cA z x ad0 w0 wE mE mc ms pc lv [] w m cells slots := by
  subst hw; subst hm; subst hc; subst hs
  intro ad had H locs ls hP hD hS hl
  have hlocks := E.hlocks
  exact W.vret E.hx E.hb E.hret (fun t ht _ => ⟨⟨rfl, ad, had, by rw [ht]; exact hP, hD⟩, hS.F ht⟩) hS.2.2 d
theorem cC_of {l : Launch} {y : MethodName} {maxL : Nat} {p : Nat} (hy : plainName y.cls = true) (hyi : y.name = "<init>") (hn : 1 ≤ maxL) (body : ∀ (x : Cx) (ad0 : Nat → Nat), xn x = maxL → CEn D cA z x cc y.cls lev mc ms → Cm D cA z x ad0 w wE mE mc ms 0 [(0, .inl p)] [] w m 0 0) : CtC l D cA z y cc maxL lev mc ms [.inl p] w m wE mE := by
  intro ad
  refine Met.ofW (cc := cc) (maxL := maxL) (ret := none) hy rfl ?_
  intro p0 e s mi args below meth c s₁ B hml hv
  obtain ⟨rfl, hP, hD, hK, hz, hnw, hao, haoa, hcs⟩ := hv
  have hts := atoms_spec (ws := wy y cc maxL none) B.pre
  have hlocks := B.notSynchronized
  have hin : meth.name = "<init>" := (name_of_methodNamed B.named B.method).1.trans hyi
  rw [lg_entry_eq]
  have hl := lv_entry ([(Sum.inl p : AV)].map (avV ad)) (n := maxL) (by show 1 ≤ maxL; exact hn)
  exact body (p0, l, e, (headSpec (wy y cc maxL none) (rmC lev mc ms)).room, s, mi, ([(Sum.inl p : AV)].map (avV ad)).toArray, below, meth, c, maxL) ad rfl ⟨B.exec, B.bytes, hml, findClass_of_methodNamed B.named, fun w h => hts w (List.mem_cons_of_mem _ h), hK, hlocks, hz, Nat.le_refl _, Nat.le_refl _, Nat.le_refl _, Nat.le_refl _, B.returns, hin, hnw, hao, haoa, hcs⟩ ad (fun _ _ => rfl) s.heap [] _ hP hD va_S.rf hl
theorem cblind {ad : Nat → Nat} {av : List Value} : FrameBlind (va_Pc av (StC D cA z ad w m)) := fun a U g mk q => ⟨q.1, q.2.1, q.2.2.1, va_K.moved (u := U) (U := U.calling g mk a) (Vm.Alike.refl U.vm) q.2.2.2.1, q.2.2.2.2.1, fun y hy => (q.2.2.2.2.2.1 y hy).same rfl rfl, va_AO.moved (u := U) (U := U.calling g mk a) (Vm.Alike.refl U.vm) q.2.2.2.2.2.2.1, q.2.2.2.2.2.2.2.1, fun C hC => (q.2.2.2.2.2.2.2.2 C hC).same rfl rfl⟩
/-- a constructor's call, over a nest mate's link -/
theorem c_init {y : MethodName} {bytes : ByteArray} {maxL lev' mc' ms' index p : Nat} {host : String} {w' : CW} {m' : M} (E : CEn D cA z x cc own lev mc ms) (hM : CtC (xl x) D cA z y bytes maxL lev' mc' ms' [.inl p] w m w' m') (hd : mdq y 0) (hyi : y.name = "<init>") (hl : (own, index, y, host) ∈ nwl) (hi : Cond.instanceMethod y ∈ gw) (hini : Cond.initialized y.cls ∈ gw) (hcode : Cond.code y bytes maxL none ∈ gw) (hkeep : (lv.map Prod.snd ++ st).all (fun v => match v with | .inl r => w.any (fun e => e.1 == r) | .inr _ => true) = true) (hkeep0 : w0.all (fun e => w.any (fun e2 => e2.1 == e.1)) = true) (hroom : st.length ≤ 8) (hlev : lev' + 1 ≤ lev ∧ 8 + (maxL + 11) + 64 * lev' ≤ 64 * lev) (hcells : cells + mc' ≤ mc) (hslots : slots + ms' ≤ ms) (d : decode cc pc = .ok (.invokespecial index, 3)) (k : Cm D cA z x ad0 w0 wE mE mc ms (pc + 3) lv st w' m' (cells + mc') (slots + ms')) : Cm D cA z x ad0 w0 wE mE mc ms pc lv (.inl p :: st) w m cells slots := by
  intro ad had H locs ls hP hD hS hlv T hT X
  have hst0 : PreS (xs x) H (va_Pc ([(Sum.inl p : AV)].map (avV ad)) (StC D cA z ad w m)) (.ref (ad p) :: []) := ⟨cblind, fun U hU hW => ⟨rfl, by rw [hU]; exact hP, hD, va_K.moved hW.alike E.hK, by rw [hU]; exact Nat.le_trans E.hz hS.1, fun q hq => va_Nw.warmM hW (E.hnw q hq), va_AO.moved hW.alike E.hAO, by
    have h9 := E.hAOA
    exact cAOA_warm hW h9, fun C hC => va_Nw.warmC hW (E.hcast C hC)⟩⟩
  have hrun := va_runIN (e := xe x) (below := xb x) (meth := xh x) (H := H) (locs := locs) (cells := cells) (slots := slots) (b := ad p) (As := []) (rest := st.map (avV ad)) (g := F0 (xm x) pc ls ((Sum.inl p :: st).map (avV ad))) ⟨E.hx, E.hb, E.hml, E.hown, E.hts⟩ (hM ad) ⟨va_cnB 0 E.hts (gw_call hcode) rfl rfl rfl (E.hnw _ hl) (E.hts _ hini) hd ⟨Nat.le_trans hlev.1 E.hfr, Nat.le_trans hlev.2 E.hlo⟩, hyi, E.hts _ hi⟩ hst0 rfl rfl hlv.1 rfl (lv_room (by
    have hc : ∀ (l : List AV), ((l.map (avV ad)).map fun v => v.category).sum = l.length := by
      intro l
      induction l with
      | nil => rfl
      | cons a l ih =>
        rw [List.map_cons, List.map_cons, List.sum_cons, ih, List.length_cons]
        cases a <;> simp [avV, Value.category] <;> omega
    rw [hc]
    exact hroom)) d ⟨Nat.le_trans hcells E.hce, Nat.le_trans hslots E.hsl⟩
  obtain ⟨v, st₀, t, T', L, h0, X', hL, e1, e2, ⟨⟨hv, ad', hagree, hPt, hDt⟩, hz, hk⟩, stp⟩ := hrun T hT X
  cases hv
  rw [h0] at hz hk
  have hpl : ∀ r : Nat, w.any (fun e => e.1 == r) = true → ad' r = ad r := by
    intro r hr
    obtain ⟨e, he, her⟩ := List.any_eq_true.mp hr
    have : e.1 = r := by simpa using her
    rw [← this]
    exact hagree e he
  have hmap : ∀ vv : AV, (match vv with | .inl r => w.any (fun e => e.1 == r) | .inr _ => true) = true → avV ad' vv = avV ad vv := by
    intro vv hvv
    cases vv with
    | inl r => show Value.ref (ad' r) = Value.ref (ad r); rw [hpl r hvv]
    | inr i => rfl
  have hall := List.all_eq_true.mp hkeep
  have hst1 : st.map (avV ad') = st.map (avV ad) := List.map_congr_left (fun vv hvv => hmap vv (hall vv (List.mem_append_right _ hvv)))
  have hlv1 : lv.map (fun e => (e.1, avV ad' e.2)) = lv.map (fun e => (e.1, avV ad e.2)) := List.map_congr_left (fun e he => by rw [hmap e.2 (hall e.2 (List.mem_append_left _ (List.mem_map.mpr ⟨e, he, rfl⟩)))])
  have k2 := k ad' (fun e he => by
    rw [hpl e.1 (List.all_eq_true.mp hkeep0 e he)]
    exact had e he) T'.heap (locs ++ L) ls (by rw [e1]; exact hPt) hDt ⟨Nat.le_trans hS.1 (by rw [e1]; exact hz), fun q h1 h2 => by rw [e1, hk q (Nat.lt_of_lt_of_le h1 hS.1) h2]; exact hS.2.1 q h1 h2, fun q hq => by
    rcases List.mem_append.mp hq with h | h
    · exact hS.2.2 q h
    · exact hL q h⟩ (by rw [hlv1]; exact hlv)
  rw [hst1] at k2
  obtain ⟨t2, a1, b1⟩ := k2 T' rfl X'
  exact ⟨t2, stp t2 a1, b1⟩
end CM
