def k_exchanged (a0 : Nat) (a1 : Int32) (a2 : Int32) (a3 : Int32) (m : M) : Option (Int32 × M) :=
  Option.bind (lenI a0) (fun n1 => Option.bind (k_within a1 (0 : Int32) (n1 - (1 : Int32)) m) (fun v2 => (if v2 = 0 then some ((-1 : Int32), m) else Option.bind (k_within a2 (0 : Int32) a3 m) (fun v3 => (if v3 = 0 then some ((-1 : Int32), m) else Option.bind (rdI m a0 a1) (fun v4 => Option.bind (wrI m a0 a1 a2) (fun m5 => some (v4, m5))))))))
set_option maxRecDepth 20000 in
theorem t_k_exchanged {G : GG} {x : Cx} (E : En G x cX11_exchanged "WreckBoard" 2 (some .int)) (hn : xn x = 5) (a0 : Nat) (a1 : Int32) (a2 : Int32) (a3 : Int32) (m : M) : Sm G x 0 [(0, .ref (G.2.1 a0)), (1, .int a1), (2, .int a2), (3, .int a3)] [] m (k_exchanged a0 a1 a2 a3 m) KWi := by
  unfold k_exchanged
  refine s_iload_n 1 E dX11_exchanged_0 rfl rfl ?_
  refine s_iconst (v := (0 : Int32)) E dX11_exchanged_1 (by decide) ?_
  refine s_aload_n 0 E dX11_exchanged_2 rfl rfl ?_
  refine s_alenS E dX11_exchanged_3 (fun n1 => ?_)
  refine s_iconst (v := (1 : Int32)) E dX11_exchanged_4 (by decide) ?_
  refine s_isub E dX11_exchanged_5 ?_
  refine s_bd (fun v2 hz => ?_)
  refine s_cS (rest := []) E (C_k_within (xl x) G a1 (0 : Int32) (n1 - (1 : Int32)) m hz) mdX11_within W404 W405 W91 W406 rfl rfl (Nat.le_of_ble_eq_true rfl) ⟨by decide, by decide⟩ dX11_exchanged_6 ?_
  refine s_if_eq 21 E dX11_exchanged_9 (by decide) ?_ ?_
  · refine s_iconst (v := (-1 : Int32)) E dX11_exchanged_21 (by decide) ?_
    exact s_iret E rfl dX11_exchanged_22
  · refine s_iload_n 2 E dX11_exchanged_12 rfl rfl ?_
    refine s_iconst (v := (0 : Int32)) E dX11_exchanged_13 (by decide) ?_
    refine s_iload_n 3 E dX11_exchanged_14 rfl rfl ?_
    refine s_bd (fun v3 hz => ?_)
    refine s_cS (rest := []) E (C_k_within (xl x) G a2 (0 : Int32) a3 m hz) mdX11_within W404 W405 W91 W406 rfl rfl (Nat.le_of_ble_eq_true rfl) ⟨by decide, by decide⟩ dX11_exchanged_15 ?_
    refine s_if_ne 23 E dX11_exchanged_18 (by decide) ?_ ?_
    · refine s_aload_n 0 E dX11_exchanged_23 rfl rfl ?_
      refine s_iload_n 1 E dX11_exchanged_24 rfl rfl ?_
      refine s_iald E dX11_exchanged_25 (fun v4 => ?_)
      refine s_istore (lv' := [(0, .ref (G.2.1 a0)), (1, .int a1), (2, .int a2), (4, .int v4)]) [1, 2, 3, 0] E dX11_exchanged_26 (by rw [hn]; decide) rfl ?_
      refine s_aload_n 0 E dX11_exchanged_28 rfl rfl ?_
      refine s_iload_n 1 E dX11_exchanged_29 rfl rfl ?_
      refine s_iload_n 2 E dX11_exchanged_30 rfl rfl ?_
      refine s_iast E dX11_exchanged_31 (fun m5 => ?_)
      refine s_iload 3 E dX11_exchanged_32 rfl ?_
      exact s_iret E rfl dX11_exchanged_34
    · refine s_iconst (v := (-1 : Int32)) E dX11_exchanged_21 (by decide) ?_
      exact s_iret E rfl dX11_exchanged_22
set_option maxRecDepth 20000 in
theorem C_k_exchanged (l : Launch) (G : GG) (a0 : Nat) (a1 : Int32) (a2 : Int32) (a3 : Int32) (m : M) {z : Int32 × M} (hz : k_exchanged a0 a1 a2 a3 m = some z) : Ct l G yX11_exchanged cX11_exchanged 5 (some .int) 2 [.ref (G.2.1 a0), .int a1, .int a2, .int a3] m (some (.int z.1)) z.2 :=
  ct_of (K := KWi) (by decide) (Nat.le_of_ble_eq_true rfl) (congrArg (fun q => Option.bind q _) hz) (fun x hl hn E => (t_k_exchanged E hn a0 a1 a2 a3 m))
theorem mdX11_exchanged : mdq yX11_exchanged 4 := ⟨by decide, by decide, by decide +kernel⟩
theorem dX0_hearOrNot_0 : decode cX0_hearOrNot 0 = .ok (.aload_n 0, 1) := by decide +kernel
theorem dX0_hearOrNot_1 : decode cX0_hearOrNot 1 = .ok (.iload_n 1, 1) := by decide +kernel
theorem dX0_hearOrNot_2 : decode cX0_hearOrNot 2 = .ok (.invokevirtual 102, 3) := by decide +kernel
theorem dX0_hearOrNot_5 : decode cX0_hearOrNot 5 = .ok (.ifCond .eq 7, 3) := by decide +kernel
theorem dX0_hearOrNot_8 : decode cX0_hearOrNot 8 = .ok (.iconst 1, 1) := by decide +kernel
theorem dX0_hearOrNot_9 : decode cX0_hearOrNot 9 = .ok (.goto 4, 3) := by decide +kernel
theorem dX0_hearOrNot_12 : decode cX0_hearOrNot 12 = .ok (.iconst 0, 1) := by decide +kernel
theorem dX0_hearOrNot_13 : decode cX0_hearOrNot 13 = .ok (.istore_n 3, 1) := by decide +kernel
theorem dX0_hearOrNot_14 : decode cX0_hearOrNot 14 = .ok (.aload_n 0, 1) := by decide +kernel
theorem dX0_hearOrNot_15 : decode cX0_hearOrNot 15 = .ok (.aload_n 0, 1) := by decide +kernel
theorem dX0_hearOrNot_16 : decode cX0_hearOrNot 16 = .ok (.getfield 86, 3) := by decide +kernel
theorem dX0_hearOrNot_19 : decode cX0_hearOrNot 19 = .ok (.iconst 1, 1) := by decide +kernel
theorem dX0_hearOrNot_20 : decode cX0_hearOrNot 20 = .ok (.iload_n 1, 1) := by decide +kernel
theorem dX0_hearOrNot_21 : decode cX0_hearOrNot 21 = .ok (.ishl, 1) := by decide +kernel
theorem dX0_hearOrNot_22 : decode cX0_hearOrNot 22 = .ok (.iconst (-1), 1) := by decide +kernel
theorem dX0_hearOrNot_23 : decode cX0_hearOrNot 23 = .ok (.ixor, 1) := by decide +kernel
theorem dX0_hearOrNot_24 : decode cX0_hearOrNot 24 = .ok (.iand, 1) := by decide +kernel
theorem dX0_hearOrNot_25 : decode cX0_hearOrNot 25 = .ok (.iload_n 2, 1) := by decide +kernel
theorem dX0_hearOrNot_26 : decode cX0_hearOrNot 26 = .ok (.iload_n 1, 1) := by decide +kernel
theorem dX0_hearOrNot_27 : decode cX0_hearOrNot 27 = .ok (.ishl, 1) := by decide +kernel
theorem dX0_hearOrNot_28 : decode cX0_hearOrNot 28 = .ok (.ior, 1) := by decide +kernel
theorem dX0_hearOrNot_29 : decode cX0_hearOrNot 29 = .ok (.putfield 86, 3) := by decide +kernel
theorem dX0_hearOrNot_32 : decode cX0_hearOrNot 32 = .ok (.iload_n 3, 1) := by decide +kernel
theorem dX0_hearOrNot_33 : decode cX0_hearOrNot 33 = .ok (.ireturn, 1) := by decide +kernel
def b_hearOrNot_13 (a1 : Int32) (a2 : Int32) (s0 : Int32) (m : M) : Option (Int32 × M) :=
  lt (wrF m 1 7 (((m 1 7) &&& (((1 : Int32) <<< (a1 &&& 31)) ^^^ (-1 : Int32))) ||| (a2 <<< (a1 &&& 31)))) (fun m1 => some (s0, m1))
set_option maxRecDepth 20000 in
theorem t_b_hearOrNot_13 {G : GG} {x : Cx} (E : En G x cX0_hearOrNot "WreckBoard$Board" 3 (some .int)) (hn : xn x = 4) (a1 : Int32) (a2 : Int32) (s0 : Int32) (m : M) : Sm G x 13 [(0, .ref (G.2.1 1)), (1, .int a1), (2, .int a2)] [.int s0] m (b_hearOrNot_13 a1 a2 s0 m) KWi := by
  unfold b_hearOrNot_13
  refine s_istore_n (lv' := [(0, .ref (G.2.1 1)), (1, .int a1), (2, .int a2), (3, .int s0)]) [1, 2, 3, 0] E dX0_hearOrNot_13 rfl (by rw [hn]; decide) rfl ?_
  refine s_aload_n 0 E dX0_hearOrNot_14 rfl rfl ?_
  refine s_aload_n 0 E dX0_hearOrNot_15 rfl rfl ?_
  refine s_geti (k := 7) (T := TX0) 1 E rfl rfl rfl inX0 (by decide) W238 dX0_hearOrNot_16 ?_
  refine s_iconst (v := (1 : Int32)) E dX0_hearOrNot_19 (by decide) ?_
  refine s_iload_n 1 E dX0_hearOrNot_20 rfl rfl ?_
  refine s_ishl E dX0_hearOrNot_21 ?_
  refine s_iconst (v := (-1 : Int32)) E dX0_hearOrNot_22 (by decide) ?_
  refine s_ixor E dX0_hearOrNot_23 ?_
  refine s_iand E dX0_hearOrNot_24 ?_
  refine s_iload_n 2 E dX0_hearOrNot_25 rfl rfl ?_
  refine s_iload_n 1 E dX0_hearOrNot_26 rfl rfl ?_
  refine s_ishl E dX0_hearOrNot_27 ?_
  refine s_ior E dX0_hearOrNot_28 ?_
  refine s_put (k := 7) (T := TX0) (ty := .int) 1 E rfl rfl rfl inX0 tyX0 tyX0_ok nmX0 (by decide) W238 rfl (by decide +kernel) rfl rfl dX0_hearOrNot_29 ?_
  refine s_ltm rfl (fun m1 => ?_)
  refine s_iload_n 3 E dX0_hearOrNot_32 rfl rfl ?_
  exact s_iret E rfl dX0_hearOrNot_33
def b_hearOrNot (a1 : Int32) (a2 : Int32) (m : M) : Option (Int32 × M) :=
  Option.bind (b_isHeard a1 m) (fun v1 => (if v1 = 0 then b_hearOrNot_13 a1 a2 (0 : Int32) m else b_hearOrNot_13 a1 a2 (1 : Int32) m))
set_option maxRecDepth 20000 in
theorem t_b_hearOrNot {G : GG} {x : Cx} (E : En G x cX0_hearOrNot "WreckBoard$Board" 3 (some .int)) (hn : xn x = 4) (a1 : Int32) (a2 : Int32) (m : M) : Sm G x 0 [(0, .ref (G.2.1 1)), (1, .int a1), (2, .int a2)] [] m (b_hearOrNot a1 a2 m) KWi := by
  unfold b_hearOrNot
  refine s_aload_n 0 E dX0_hearOrNot_0 rfl rfl ?_
  refine s_iload_n 1 E dX0_hearOrNot_1 rfl rfl ?_
  refine s_bd (fun v1 hz => ?_)
  refine s_cV (rest := []) E (C_b_isHeard (xl x) G a1 m hz) mdX0_isHeard W510 W421 W422 W92 W423 rfl rfl rfl rfl (Nat.le_of_ble_eq_true rfl) ⟨by decide, by decide⟩ dX0_hearOrNot_2 ?_
  refine s_if_eq 12 E dX0_hearOrNot_5 (by decide) ?_ ?_
  · refine s_iconst (v := (0 : Int32)) E dX0_hearOrNot_12 (by decide) ?_
    exact t_b_hearOrNot_13 E hn a1 a2 (0 : Int32) m
  · refine s_iconst (v := (1 : Int32)) E dX0_hearOrNot_8 (by decide) ?_
    refine s_goto 13 E dX0_hearOrNot_9 (by decide) ?_
    exact t_b_hearOrNot_13 E hn a1 a2 (1 : Int32) m
set_option maxRecDepth 20000 in
theorem C_b_hearOrNot (l : Launch) (G : GG) (a1 : Int32) (a2 : Int32) (m : M) {z : Int32 × M} (hz : b_hearOrNot a1 a2 m = some z) : Ct l G yX0_hearOrNot cX0_hearOrNot 4 (some .int) 3 [.ref (G.2.1 1), .int a1, .int a2] m (some (.int z.1)) z.2 :=
  ct_of (K := KWi) (by decide) (Nat.le_of_ble_eq_true rfl) (congrArg (fun q => Option.bind q _) hz) (fun x hl hn E => (t_b_hearOrNot E hn a1 a2 m))
theorem mdX0_hearOrNot : mdq yX0_hearOrNot 2 := ⟨by decide, by decide, by decide +kernel⟩
theorem dX11_change_0 : decode cX11_change 0 = .ok (.aload_n 0, 1) := by decide +kernel
theorem dX11_change_1 : decode cX11_change 1 = .ok (.getfield 12, 3) := by decide +kernel
theorem dX11_change_4 : decode cX11_change 4 = .ok (.iload_n 1, 1) := by decide +kernel
theorem dX11_change_5 : decode cX11_change 5 = .ok (.invokevirtual 73, 3) := by decide +kernel
theorem dX11_change_8 : decode cX11_change 8 = .ok (.ifCond .ne 5, 3) := by decide +kernel
theorem dX11_change_11 : decode cX11_change 11 = .ok (.iconst (-1), 1) := by decide +kernel
theorem dX11_change_12 : decode cX11_change 12 = .ok (.ireturn, 1) := by decide +kernel
theorem dX11_change_13 : decode cX11_change 13 = .ok (.iload_n 2, 1) := by decide +kernel
theorem dX11_change_14 : decode cX11_change 14 = .ok (.tableswitch 97 1 4 #[30, 45, 60, 74], 30) := by decide +kernel
theorem dX11_change_44 : decode cX11_change 44 = .ok (.aload_n 0, 1) := by decide +kernel
theorem dX11_change_45 : decode cX11_change 45 = .ok (.getfield 12, 3) := by decide +kernel
theorem dX11_change_48 : decode cX11_change 48 = .ok (.getfield 80, 3) := by decide +kernel
theorem dX11_change_51 : decode cX11_change 51 = .ok (.iload_n 1, 1) := by decide +kernel
theorem dX11_change_52 : decode cX11_change 52 = .ok (.iload_n 3, 1) := by decide +kernel
theorem dX11_change_53 : decode cX11_change 53 = .ok (.bipush 9, 2) := by decide +kernel
theorem dX11_change_55 : decode cX11_change 55 = .ok (.invokestatic 113, 3) := by decide +kernel
theorem dX11_change_58 : decode cX11_change 58 = .ok (.ireturn, 1) := by decide +kernel
theorem dX11_change_59 : decode cX11_change 59 = .ok (.aload_n 0, 1) := by decide +kernel
theorem dX11_change_60 : decode cX11_change 60 = .ok (.getfield 12, 3) := by decide +kernel
theorem dX11_change_63 : decode cX11_change 63 = .ok (.getfield 83, 3) := by decide +kernel
theorem dX11_change_66 : decode cX11_change 66 = .ok (.iload_n 1, 1) := by decide +kernel
theorem dX11_change_67 : decode cX11_change 67 = .ok (.iload_n 3, 1) := by decide +kernel
theorem dX11_change_68 : decode cX11_change 68 = .ok (.bipush 9, 2) := by decide +kernel
theorem dX11_change_70 : decode cX11_change 70 = .ok (.invokestatic 113, 3) := by decide +kernel
theorem dX11_change_73 : decode cX11_change 73 = .ok (.ireturn, 1) := by decide +kernel
theorem dX11_change_74 : decode cX11_change 74 = .ok (.aload_n 0, 1) := by decide +kernel
theorem dX11_change_75 : decode cX11_change 75 = .ok (.getfield 12, 3) := by decide +kernel
theorem dX11_change_78 : decode cX11_change 78 = .ok (.getfield 86, 3) := by decide +kernel
theorem dX11_change_81 : decode cX11_change 81 = .ok (.iload_n 1, 1) := by decide +kernel
theorem dX11_change_82 : decode cX11_change 82 = .ok (.iload_n 3, 1) := by decide +kernel
theorem dX11_change_83 : decode cX11_change 83 = .ok (.iconst 5, 1) := by decide +kernel
theorem dX11_change_84 : decode cX11_change 84 = .ok (.invokestatic 113, 3) := by decide +kernel
theorem dX11_change_87 : decode cX11_change 87 = .ok (.ireturn, 1) := by decide +kernel
theorem dX11_change_88 : decode cX11_change 88 = .ok (.iload_n 3, 1) := by decide +kernel
theorem dX11_change_89 : decode cX11_change 89 = .ok (.iconst 0, 1) := by decide +kernel
theorem dX11_change_90 : decode cX11_change 90 = .ok (.iconst 1, 1) := by decide +kernel
theorem dX11_change_91 : decode cX11_change 91 = .ok (.invokestatic 61, 3) := by decide +kernel
theorem dX11_change_94 : decode cX11_change 94 = .ok (.ifCond .eq 15, 3) := by decide +kernel
theorem dX11_change_97 : decode cX11_change 97 = .ok (.aload_n 0, 1) := by decide +kernel
theorem dX11_change_98 : decode cX11_change 98 = .ok (.getfield 12, 3) := by decide +kernel
theorem dX11_change_101 : decode cX11_change 101 = .ok (.iload_n 1, 1) := by decide +kernel
theorem dX11_change_102 : decode cX11_change 102 = .ok (.iload_n 3, 1) := by decide +kernel
theorem dX11_change_103 : decode cX11_change 103 = .ok (.invokevirtual 117, 3) := by decide +kernel
theorem dX11_change_106 : decode cX11_change 106 = .ok (.goto 4, 3) := by decide +kernel
theorem dX11_change_109 : decode cX11_change 109 = .ok (.iconst (-1), 1) := by decide +kernel
theorem dX11_change_110 : decode cX11_change 110 = .ok (.ireturn, 1) := by decide +kernel
theorem dX11_change_111 : decode cX11_change 111 = .ok (.iconst (-1), 1) := by decide +kernel
theorem dX11_change_112 : decode cX11_change 112 = .ok (.ireturn, 1) := by decide +kernel
def k_change (a1 : Int32) (a2 : Int32) (a3 : Int32) (m : M) : Option (Int32 × M) :=
  Option.bind (b_isMember a1 m) (fun v1 => (if v1 = 0 then some ((-1 : Int32), m) else (if a2 = (1 : Int32) then Option.bind (k_exchanged 11 a1 a3 (9 : Int32) m) (fun z2 => some (z2.1, z2.2)) else (if a2 = (2 : Int32) then Option.bind (k_exchanged 12 a1 a3 (9 : Int32) m) (fun z3 => some (z3.1, z3.2)) else (if a2 = (3 : Int32) then Option.bind (k_exchanged 13 a1 a3 (5 : Int32) m) (fun z4 => some (z4.1, z4.2)) else (if a2 = (4 : Int32) then Option.bind (k_within a3 (0 : Int32) (1 : Int32) m) (fun v5 => (if v5 = 0 then some ((-1 : Int32), m) else Option.bind (b_hearOrNot a1 a3 m) (fun z6 => some (z6.1, z6.2)))) else some ((-1 : Int32), m)))))))
set_option maxRecDepth 20000 in
theorem t_k_change {G : GG} {x : Cx} (E : En G x cX11_change "WreckBoard" 4 (some .int)) (hn : xn x = 4) (a1 : Int32) (a2 : Int32) (a3 : Int32) (m : M) : Sm G x 0 [(0, .ref (G.2.1 0)), (1, .int a1), (2, .int a2), (3, .int a3)] [] m (k_change a1 a2 a3 m) KWi := by
  unfold k_change
  refine s_aload_n 0 E dX11_change_0 rfl rfl ?_
  refine s_getr (k := 0) (T := TX11) 0 E rfl rfl rfl inX11 (by decide) W360 dX11_change_1 ?_
  refine s_iload_n 1 E dX11_change_4 rfl rfl ?_
  refine s_bd (fun v1 hz => ?_)
  refine s_cV (rest := []) E (C_b_isMember (xl x) G a1 m hz) mdX0_isMember W415 W416 W417 W92 W418 rfl rfl rfl rfl (Nat.le_of_ble_eq_true rfl) ⟨by decide, by decide⟩ dX11_change_5 ?_
  refine s_if_ne 13 E dX11_change_8 (by decide) ?_ ?_
  · refine s_iload_n 2 E dX11_change_13 rfl rfl ?_
    refine s_case (fun h14_0 => ?_) (fun h14_0 => ?_)
    · refine s_tabIn 44 E dX11_change_14 h14_0 (by decide) (by decide) rfl (by decide) ?_
      refine s_aload_n 0 E dX11_change_44 rfl rfl ?_
      refine s_getr (k := 0) (T := TX11) 0 E rfl rfl rfl inX11 (by decide) W360 dX11_change_45 ?_
      refine s_getr (k := 10) (T := TX0) 1 E rfl rfl rfl inX0 (by decide) W245 dX11_change_48 ?_
      refine s_iload_n 1 E dX11_change_51 rfl rfl ?_
      refine s_iload_n 3 E dX11_change_52 rfl rfl ?_
      refine s_bipush (v := (9 : Int32)) E dX11_change_53 (by decide) ?_
      refine s_bd (fun z2 hz => ?_)
      refine s_cS (rest := []) E (C_k_exchanged (xl x) G 11 a1 a3 (9 : Int32) m hz) mdX11_exchanged W539 W540 W91 W541 rfl rfl (Nat.le_of_ble_eq_true rfl) ⟨by decide, by decide⟩ dX11_change_55 ?_
      exact s_iret E rfl dX11_change_58
    · refine s_case (fun h14_1 => ?_) (fun h14_1 => ?_)
      · refine s_tabIn 59 E dX11_change_14 h14_1 (by decide) (by decide) rfl (by decide) ?_
        refine s_aload_n 0 E dX11_change_59 rfl rfl ?_
        refine s_getr (k := 0) (T := TX11) 0 E rfl rfl rfl inX11 (by decide) W360 dX11_change_60 ?_
        refine s_getr (k := 11) (T := TX0) 1 E rfl rfl rfl inX0 (by decide) W248 dX11_change_63 ?_
        refine s_iload_n 1 E dX11_change_66 rfl rfl ?_
        refine s_iload_n 3 E dX11_change_67 rfl rfl ?_
        refine s_bipush (v := (9 : Int32)) E dX11_change_68 (by decide) ?_
        refine s_bd (fun z3 hz => ?_)
        refine s_cS (rest := []) E (C_k_exchanged (xl x) G 12 a1 a3 (9 : Int32) m hz) mdX11_exchanged W539 W540 W91 W541 rfl rfl (Nat.le_of_ble_eq_true rfl) ⟨by decide, by decide⟩ dX11_change_70 ?_
        exact s_iret E rfl dX11_change_73
      · refine s_case (fun h14_2 => ?_) (fun h14_2 => ?_)
        · refine s_tabIn 74 E dX11_change_14 h14_2 (by decide) (by decide) rfl (by decide) ?_
          refine s_aload_n 0 E dX11_change_74 rfl rfl ?_
          refine s_getr (k := 0) (T := TX11) 0 E rfl rfl rfl inX11 (by decide) W360 dX11_change_75 ?_
          refine s_getr (k := 12) (T := TX0) 1 E rfl rfl rfl inX0 (by decide) W251 dX11_change_78 ?_
          refine s_iload_n 1 E dX11_change_81 rfl rfl ?_
          refine s_iload_n 3 E dX11_change_82 rfl rfl ?_
          refine s_iconst (v := (5 : Int32)) E dX11_change_83 (by decide) ?_
          refine s_bd (fun z4 hz => ?_)
          refine s_cS (rest := []) E (C_k_exchanged (xl x) G 13 a1 a3 (5 : Int32) m hz) mdX11_exchanged W539 W540 W91 W541 rfl rfl (Nat.le_of_ble_eq_true rfl) ⟨by decide, by decide⟩ dX11_change_84 ?_
          exact s_iret E rfl dX11_change_87
        · refine s_case (fun h14_3 => ?_) (fun h14_3 => ?_)
          · refine s_tabIn 88 E dX11_change_14 h14_3 (by decide) (by decide) rfl (by decide) ?_
            refine s_iload_n 3 E dX11_change_88 rfl rfl ?_
            refine s_iconst (v := (0 : Int32)) E dX11_change_89 (by decide) ?_
            refine s_iconst (v := (1 : Int32)) E dX11_change_90 (by decide) ?_
            refine s_bd (fun v5 hz => ?_)
            refine s_cS (rest := []) E (C_k_within (xl x) G a3 (0 : Int32) (1 : Int32) m hz) mdX11_within W404 W405 W91 W406 rfl rfl (Nat.le_of_ble_eq_true rfl) ⟨by decide, by decide⟩ dX11_change_91 ?_
            refine s_if_eq 109 E dX11_change_94 (by decide) ?_ ?_
            · refine s_iconst (v := (-1 : Int32)) E dX11_change_109 (by decide) ?_
              exact s_iret E rfl dX11_change_110
            · refine s_aload_n 0 E dX11_change_97 rfl rfl ?_
              refine s_getr (k := 0) (T := TX11) 0 E rfl rfl rfl inX11 (by decide) W360 dX11_change_98 ?_
              refine s_iload_n 1 E dX11_change_101 rfl rfl ?_
              refine s_iload_n 3 E dX11_change_102 rfl rfl ?_
              refine s_bd (fun z6 hz => ?_)
              refine s_cV (rest := []) E (C_b_hearOrNot (xl x) G a1 a3 m hz) mdX0_hearOrNot W542 W543 W544 W92 W545 rfl rfl rfl rfl (Nat.le_of_ble_eq_true rfl) ⟨by decide, by decide⟩ dX11_change_103 ?_
              refine s_goto 110 E dX11_change_106 (by decide) ?_
              exact s_iret E rfl dX11_change_110
          · refine s_tabOut 111 E dX11_change_14 (by have e0 := ne_toIntK h14_0 (k := 1) (by decide); have e1 := ne_toIntK h14_1 (k := 2) (by decide); have e2 := ne_toIntK h14_2 (k := 3) (by decide); have e3 := ne_toIntK h14_3 (k := 4) (by decide); omega) (by decide) ?_
            refine s_iconst (v := (-1 : Int32)) E dX11_change_111 (by decide) ?_
            exact s_iret E rfl dX11_change_112
  · refine s_iconst (v := (-1 : Int32)) E dX11_change_11 (by decide) ?_
    exact s_iret E rfl dX11_change_12
set_option maxRecDepth 20000 in
theorem C_k_change (l : Launch) (G : GG) (a1 : Int32) (a2 : Int32) (a3 : Int32) (m : M) {z : Int32 × M} (hz : k_change a1 a2 a3 m = some z) : Ct l G yX11_change cX11_change 4 (some .int) 4 [.ref (G.2.1 0), .int a1, .int a2, .int a3] m (some (.int z.1)) z.2 :=
  ct_of (K := KWi) (by decide) (Nat.le_of_ble_eq_true rfl) (congrArg (fun q => Option.bind q _) hz) (fun x hl hn E => (t_k_change E hn a1 a2 a3 m))
theorem dX11_remake_0 : decode cX11_remake 0 = .ok (.aload_n 0, 1) := by decide +kernel
theorem dX11_remake_1 : decode cX11_remake 1 = .ok (.getfield 12, 3) := by decide +kernel
theorem dX11_remake_4 : decode cX11_remake 4 = .ok (.iload_n 1, 1) := by decide +kernel
theorem dX11_remake_5 : decode cX11_remake 5 = .ok (.invokevirtual 73, 3) := by decide +kernel
theorem dX11_remake_8 : decode cX11_remake 8 = .ok (.ifCond .eq 12, 3) := by decide +kernel
theorem dX11_remake_11 : decode cX11_remake 11 = .ok (.iload_n 2, 1) := by decide +kernel
theorem dX11_remake_12 : decode cX11_remake 12 = .ok (.iconst 1, 1) := by decide +kernel
theorem dX11_remake_13 : decode cX11_remake 13 = .ok (.iconst 5, 1) := by decide +kernel
theorem dX11_remake_14 : decode cX11_remake 14 = .ok (.invokestatic 61, 3) := by decide +kernel
theorem dX11_remake_17 : decode cX11_remake 17 = .ok (.ifCond .ne 5, 3) := by decide +kernel
theorem dX11_remake_20 : decode cX11_remake 20 = .ok (.iconst (-1), 1) := by decide +kernel
theorem dX11_remake_21 : decode cX11_remake 21 = .ok (.ireturn, 1) := by decide +kernel
theorem dX11_remake_22 : decode cX11_remake 22 = .ok (.aload_n 0, 1) := by decide +kernel
theorem dX11_remake_23 : decode cX11_remake 23 = .ok (.getfield 12, 3) := by decide +kernel
theorem dX11_remake_26 : decode cX11_remake 26 = .ok (.getfield 77, 3) := by decide +kernel
theorem dX11_remake_29 : decode cX11_remake 29 = .ok (.iload_n 1, 1) := by decide +kernel
theorem dX11_remake_30 : decode cX11_remake 30 = .ok (.iload_n 2, 1) := by decide +kernel
theorem dX11_remake_31 : decode cX11_remake 31 = .ok (.iconst 5, 1) := by decide +kernel
theorem dX11_remake_32 : decode cX11_remake 32 = .ok (.invokestatic 113, 3) := by decide +kernel
theorem dX11_remake_35 : decode cX11_remake 35 = .ok (.ireturn, 1) := by decide +kernel
def k_remake (a1 : Int32) (a2 : Int32) (m : M) : Option (Int32 × M) :=
  Option.bind (b_isMember a1 m) (fun v1 => (if v1 = 0 then some ((-1 : Int32), m) else Option.bind (k_within a2 (1 : Int32) (5 : Int32) m) (fun v2 => (if v2 = 0 then some ((-1 : Int32), m) else Option.bind (k_exchanged 10 a1 a2 (5 : Int32) m) (fun z3 => some (z3.1, z3.2))))))
set_option maxRecDepth 20000 in
theorem t_k_remake {G : GG} {x : Cx} (E : En G x cX11_remake "WreckBoard" 3 (some .int)) (hn : xn x = 3) (a1 : Int32) (a2 : Int32) (m : M) : Sm G x 0 [(0, .ref (G.2.1 0)), (1, .int a1), (2, .int a2)] [] m (k_remake a1 a2 m) KWi := by
  unfold k_remake
  refine s_aload_n 0 E dX11_remake_0 rfl rfl ?_
  refine s_getr (k := 0) (T := TX11) 0 E rfl rfl rfl inX11 (by decide) W360 dX11_remake_1 ?_
  refine s_iload_n 1 E dX11_remake_4 rfl rfl ?_
  refine s_bd (fun v1 hz => ?_)
  refine s_cV (rest := []) E (C_b_isMember (xl x) G a1 m hz) mdX0_isMember W415 W416 W417 W92 W418 rfl rfl rfl rfl (Nat.le_of_ble_eq_true rfl) ⟨by decide, by decide⟩ dX11_remake_5 ?_
  refine s_if_eq 20 E dX11_remake_8 (by decide) ?_ ?_
  · refine s_iconst (v := (-1 : Int32)) E dX11_remake_20 (by decide) ?_
    exact s_iret E rfl dX11_remake_21
  · refine s_iload_n 2 E dX11_remake_11 rfl rfl ?_
    refine s_iconst (v := (1 : Int32)) E dX11_remake_12 (by decide) ?_
    refine s_iconst (v := (5 : Int32)) E dX11_remake_13 (by decide) ?_
    refine s_bd (fun v2 hz => ?_)
    refine s_cS (rest := []) E (C_k_within (xl x) G a2 (1 : Int32) (5 : Int32) m hz) mdX11_within W404 W405 W91 W406 rfl rfl (Nat.le_of_ble_eq_true rfl) ⟨by decide, by decide⟩ dX11_remake_14 ?_
    refine s_if_ne 22 E dX11_remake_17 (by decide) ?_ ?_
    · refine s_aload_n 0 E dX11_remake_22 rfl rfl ?_
      refine s_getr (k := 0) (T := TX11) 0 E rfl rfl rfl inX11 (by decide) W360 dX11_remake_23 ?_
      refine s_getr (k := 9) (T := TX0) 1 E rfl rfl rfl inX0 (by decide) W243 dX11_remake_26 ?_
      refine s_iload_n 1 E dX11_remake_29 rfl rfl ?_
      refine s_iload_n 2 E dX11_remake_30 rfl rfl ?_
      refine s_iconst (v := (5 : Int32)) E dX11_remake_31 (by decide) ?_
      refine s_bd (fun z3 hz => ?_)
      refine s_cS (rest := []) E (C_k_exchanged (xl x) G 10 a1 a2 (5 : Int32) m hz) mdX11_exchanged W539 W540 W91 W541 rfl rfl (Nat.le_of_ble_eq_true rfl) ⟨by decide, by decide⟩ dX11_remake_32 ?_
      exact s_iret E rfl dX11_remake_35
    · refine s_iconst (v := (-1 : Int32)) E dX11_remake_20 (by decide) ?_
      exact s_iret E rfl dX11_remake_21
set_option maxRecDepth 20000 in
theorem C_k_remake (l : Launch) (G : GG) (a1 : Int32) (a2 : Int32) (m : M) {z : Int32 × M} (hz : k_remake a1 a2 m = some z) : Ct l G yX11_remake cX11_remake 3 (some .int) 3 [.ref (G.2.1 0), .int a1, .int a2] m (some (.int z.1)) z.2 :=
  ct_of (K := KWi) (by decide) (Nat.le_of_ble_eq_true rfl) (congrArg (fun q => Option.bind q _) hz) (fun x hl hn E => (t_k_remake E hn a1 a2 m))
theorem dX11_ship_0 : decode cX11_ship 0 = .ok (.aload_n 0, 1) := by decide +kernel
theorem dX11_ship_1 : decode cX11_ship 1 = .ok (.getfield 12, 3) := by decide +kernel
theorem dX11_ship_4 : decode cX11_ship 4 = .ok (.getfield 121, 3) := by decide +kernel
theorem dX11_ship_7 : decode cX11_ship 7 = .ok (.iload_n 1, 1) := by decide +kernel
theorem dX11_ship_8 : decode cX11_ship 8 = .ok (.iload_n 2, 1) := by decide +kernel
theorem dX11_ship_9 : decode cX11_ship 9 = .ok (.bipush 15, 2) := by decide +kernel
theorem dX11_ship_11 : decode cX11_ship 11 = .ok (.invokestatic 113, 3) := by decide +kernel
theorem dX11_ship_14 : decode cX11_ship 14 = .ok (.ireturn, 1) := by decide +kernel
def k_ship (a1 : Int32) (a2 : Int32) (m : M) : Option (Int32 × M) :=
  Option.bind (k_exchanged 14 a1 a2 (15 : Int32) m) (fun z1 => some (z1.1, z1.2))
set_option maxRecDepth 20000 in
theorem t_k_ship {G : GG} {x : Cx} (E : En G x cX11_ship "WreckBoard" 3 (some .int)) (hn : xn x = 3) (a1 : Int32) (a2 : Int32) (m : M) : Sm G x 0 [(0, .ref (G.2.1 0)), (1, .int a1), (2, .int a2)] [] m (k_ship a1 a2 m) KWi := by
  unfold k_ship
  refine s_aload_n 0 E dX11_ship_0 rfl rfl ?_
  refine s_getr (k := 0) (T := TX11) 0 E rfl rfl rfl inX11 (by decide) W360 dX11_ship_1 ?_
  refine s_getr (k := 13) (T := TX0) 1 E rfl rfl rfl inX0 (by decide) W253 dX11_ship_4 ?_
  refine s_iload_n 1 E dX11_ship_7 rfl rfl ?_
  refine s_iload_n 2 E dX11_ship_8 rfl rfl ?_
  refine s_bipush (v := (15 : Int32)) E dX11_ship_9 (by decide) ?_
  refine s_bd (fun z1 hz => ?_)
  refine s_cS (rest := []) E (C_k_exchanged (xl x) G 14 a1 a2 (15 : Int32) m hz) mdX11_exchanged W539 W540 W91 W541 rfl rfl (Nat.le_of_ble_eq_true rfl) ⟨by decide, by decide⟩ dX11_ship_11 ?_
  exact s_iret E rfl dX11_ship_14
set_option maxRecDepth 20000 in
theorem C_k_ship (l : Launch) (G : GG) (a1 : Int32) (a2 : Int32) (m : M) {z : Int32 × M} (hz : k_ship a1 a2 m = some z) : Ct l G yX11_ship cX11_ship 3 (some .int) 3 [.ref (G.2.1 0), .int a1, .int a2] m (some (.int z.1)) z.2 :=
  ct_of (K := KWi) (by decide) (Nat.le_of_ble_eq_true rfl) (congrArg (fun q => Option.bind q _) hz) (fun x hl hn E => (t_k_ship E hn a1 a2 m))
theorem dX11_bench_0 : decode cX11_bench 0 = .ok (.iload_n 2, 1) := by decide +kernel
theorem dX11_bench_1 : decode cX11_bench 1 = .ok (.lookupswitch 57 #[(0, 27), (1, 42)], 27) := by decide +kernel
theorem dX11_bench_28 : decode cX11_bench 28 = .ok (.aload_n 0, 1) := by decide +kernel
theorem dX11_bench_29 : decode cX11_bench 29 = .ok (.getfield 12, 3) := by decide +kernel
theorem dX11_bench_32 : decode cX11_bench 32 = .ok (.getfield 124, 3) := by decide +kernel
theorem dX11_bench_35 : decode cX11_bench 35 = .ok (.iload_n 1, 1) := by decide +kernel
theorem dX11_bench_36 : decode cX11_bench 36 = .ok (.iload_n 3, 1) := by decide +kernel
theorem dX11_bench_37 : decode cX11_bench 37 = .ok (.bipush 9, 2) := by decide +kernel
theorem dX11_bench_39 : decode cX11_bench 39 = .ok (.invokestatic 113, 3) := by decide +kernel
theorem dX11_bench_42 : decode cX11_bench 42 = .ok (.ireturn, 1) := by decide +kernel
theorem dX11_bench_43 : decode cX11_bench 43 = .ok (.aload_n 0, 1) := by decide +kernel
theorem dX11_bench_44 : decode cX11_bench 44 = .ok (.getfield 12, 3) := by decide +kernel
theorem dX11_bench_47 : decode cX11_bench 47 = .ok (.getfield 127, 3) := by decide +kernel
theorem dX11_bench_50 : decode cX11_bench 50 = .ok (.iload_n 1, 1) := by decide +kernel
theorem dX11_bench_51 : decode cX11_bench 51 = .ok (.iload_n 3, 1) := by decide +kernel
theorem dX11_bench_52 : decode cX11_bench 52 = .ok (.bipush 9, 2) := by decide +kernel
theorem dX11_bench_54 : decode cX11_bench 54 = .ok (.invokestatic 113, 3) := by decide +kernel
theorem dX11_bench_57 : decode cX11_bench 57 = .ok (.ireturn, 1) := by decide +kernel
theorem dX11_bench_58 : decode cX11_bench 58 = .ok (.iconst (-1), 1) := by decide +kernel
theorem dX11_bench_59 : decode cX11_bench 59 = .ok (.ireturn, 1) := by decide +kernel
def k_bench (a1 : Int32) (a2 : Int32) (a3 : Int32) (m : M) : Option (Int32 × M) :=
  (if a2 = (0 : Int32) then Option.bind (k_exchanged 15 a1 a3 (9 : Int32) m) (fun z1 => some (z1.1, z1.2)) else (if a2 = (1 : Int32) then Option.bind (k_exchanged 16 a1 a3 (9 : Int32) m) (fun z2 => some (z2.1, z2.2)) else some ((-1 : Int32), m)))
set_option maxRecDepth 20000 in
theorem t_k_bench {G : GG} {x : Cx} (E : En G x cX11_bench "WreckBoard" 3 (some .int)) (hn : xn x = 4) (a1 : Int32) (a2 : Int32) (a3 : Int32) (m : M) : Sm G x 0 [(0, .ref (G.2.1 0)), (1, .int a1), (2, .int a2), (3, .int a3)] [] m (k_bench a1 a2 a3 m) KWi := by
  unfold k_bench
  refine s_iload_n 2 E dX11_bench_0 rfl rfl ?_
  refine s_case (fun h1_0 => ?_) (fun h1_0 => ?_)
  · refine s_look (off := 27) 28 E dX11_bench_1 (by decide) (by rw [h1_0]; decide) (by decide) ?_
    refine s_aload_n 0 E dX11_bench_28 rfl rfl ?_
    refine s_getr (k := 0) (T := TX11) 0 E rfl rfl rfl inX11 (by decide) W360 dX11_bench_29 ?_
    refine s_getr (k := 14) (T := TX0) 1 E rfl rfl rfl inX0 (by decide) W255 dX11_bench_32 ?_
    refine s_iload_n 1 E dX11_bench_35 rfl rfl ?_
    refine s_iload_n 3 E dX11_bench_36 rfl rfl ?_
    refine s_bipush (v := (9 : Int32)) E dX11_bench_37 (by decide) ?_
    refine s_bd (fun z1 hz => ?_)
    refine s_cS (rest := []) E (C_k_exchanged (xl x) G 15 a1 a3 (9 : Int32) m hz) mdX11_exchanged W539 W540 W91 W541 rfl rfl (Nat.le_of_ble_eq_true rfl) ⟨by decide, by decide⟩ dX11_bench_39 ?_
    exact s_iret E rfl dX11_bench_42
  · refine s_case (fun h1_1 => ?_) (fun h1_1 => ?_)
    · refine s_look (off := 42) 43 E dX11_bench_1 (by decide) (by rw [h1_1]; decide) (by decide) ?_
      refine s_aload_n 0 E dX11_bench_43 rfl rfl ?_
      refine s_getr (k := 0) (T := TX11) 0 E rfl rfl rfl inX11 (by decide) W360 dX11_bench_44 ?_
      refine s_getr (k := 15) (T := TX0) 1 E rfl rfl rfl inX0 (by decide) W257 dX11_bench_47 ?_
      refine s_iload_n 1 E dX11_bench_50 rfl rfl ?_
      refine s_iload_n 3 E dX11_bench_51 rfl rfl ?_
      refine s_bipush (v := (9 : Int32)) E dX11_bench_52 (by decide) ?_
      refine s_bd (fun z2 hz => ?_)
      refine s_cS (rest := []) E (C_k_exchanged (xl x) G 16 a1 a3 (9 : Int32) m hz) mdX11_exchanged W539 W540 W91 W541 rfl rfl (Nat.le_of_ble_eq_true rfl) ⟨by decide, by decide⟩ dX11_bench_54 ?_
      exact s_iret E rfl dX11_bench_57
    · refine s_look (off := 57) 58 E dX11_bench_1 (by decide) (by have e0 := ne_toIntK h1_0 (k := 0) (by decide); have e1 := ne_toIntK h1_1 (k := 1) (by decide); simp [Op.lookupswitch.offset, e0, Ne.symm e0, e1, Ne.symm e1]) (by decide) ?_
      refine s_iconst (v := (-1 : Int32)) E dX11_bench_58 (by decide) ?_
      exact s_iret E rfl dX11_bench_59
set_option maxRecDepth 20000 in
theorem C_k_bench (l : Launch) (G : GG) (a1 : Int32) (a2 : Int32) (a3 : Int32) (m : M) {z : Int32 × M} (hz : k_bench a1 a2 a3 m = some z) : Ct l G yX11_bench cX11_bench 4 (some .int) 3 [.ref (G.2.1 0), .int a1, .int a2, .int a3] m (some (.int z.1)) z.2 :=
  ct_of (K := KWi) (by decide) (Nat.le_of_ble_eq_true rfl) (congrArg (fun q => Option.bind q _) hz) (fun x hl hn E => (t_k_bench E hn a1 a2 a3 m))
theorem dX11_benchOf_0 : decode cX11_benchOf 0 = .ok (.iload_n 1, 1) := by decide +kernel
theorem dX11_benchOf_1 : decode cX11_benchOf 1 = .ok (.iconst 0, 1) := by decide +kernel
theorem dX11_benchOf_2 : decode cX11_benchOf 2 = .ok (.iconst 5, 1) := by decide +kernel
theorem dX11_benchOf_3 : decode cX11_benchOf 3 = .ok (.invokestatic 61, 3) := by decide +kernel
theorem dX11_benchOf_6 : decode cX11_benchOf 6 = .ok (.ifCond .eq 12, 3) := by decide +kernel
theorem dX11_benchOf_9 : decode cX11_benchOf 9 = .ok (.iload_n 2, 1) := by decide +kernel
theorem dX11_benchOf_10 : decode cX11_benchOf 10 = .ok (.iconst 0, 1) := by decide +kernel
theorem dX11_benchOf_11 : decode cX11_benchOf 11 = .ok (.iconst 1, 1) := by decide +kernel
theorem dX11_benchOf_12 : decode cX11_benchOf 12 = .ok (.invokestatic 61, 3) := by decide +kernel
theorem dX11_benchOf_15 : decode cX11_benchOf 15 = .ok (.ifCond .ne 5, 3) := by decide +kernel
theorem dX11_benchOf_18 : decode cX11_benchOf 18 = .ok (.iconst (-1), 1) := by decide +kernel
theorem dX11_benchOf_19 : decode cX11_benchOf 19 = .ok (.ireturn, 1) := by decide +kernel
theorem dX11_benchOf_20 : decode cX11_benchOf 20 = .ok (.iload_n 2, 1) := by decide +kernel
theorem dX11_benchOf_21 : decode cX11_benchOf 21 = .ok (.ifCond .ne 15, 3) := by decide +kernel
theorem dX11_benchOf_24 : decode cX11_benchOf 24 = .ok (.aload_n 0, 1) := by decide +kernel
theorem dX11_benchOf_25 : decode cX11_benchOf 25 = .ok (.getfield 12, 3) := by decide +kernel
theorem dX11_benchOf_28 : decode cX11_benchOf 28 = .ok (.getfield 124, 3) := by decide +kernel
theorem dX11_benchOf_31 : decode cX11_benchOf 31 = .ok (.iload_n 1, 1) := by decide +kernel
theorem dX11_benchOf_32 : decode cX11_benchOf 32 = .ok (.iaload, 1) := by decide +kernel
theorem dX11_benchOf_33 : decode cX11_benchOf 33 = .ok (.goto 12, 3) := by decide +kernel
theorem dX11_benchOf_36 : decode cX11_benchOf 36 = .ok (.aload_n 0, 1) := by decide +kernel
theorem dX11_benchOf_37 : decode cX11_benchOf 37 = .ok (.getfield 12, 3) := by decide +kernel
theorem dX11_benchOf_40 : decode cX11_benchOf 40 = .ok (.getfield 127, 3) := by decide +kernel
theorem dX11_benchOf_43 : decode cX11_benchOf 43 = .ok (.iload_n 1, 1) := by decide +kernel
theorem dX11_benchOf_44 : decode cX11_benchOf 44 = .ok (.iaload, 1) := by decide +kernel
theorem dX11_benchOf_45 : decode cX11_benchOf 45 = .ok (.ireturn, 1) := by decide +kernel
def k_benchOf (a1 : Int32) (a2 : Int32) (m : M) : Option (Int32) :=
  Option.bind (k_within a1 (0 : Int32) (5 : Int32) m) (fun v1 => (if v1 = 0 then some (-1 : Int32) else Option.bind (k_within a2 (0 : Int32) (1 : Int32) m) (fun v2 => (if v2 = 0 then some (-1 : Int32) else (if a2 = 0 then Option.bind (rdI m 15 a1) (fun v4 => some v4) else Option.bind (rdI m 16 a1) (fun v3 => some v3))))))
set_option maxRecDepth 20000 in
theorem t_k_benchOf {G : GG} {x : Cx} (E : En G x cX11_benchOf "WreckBoard" 2 (some .int)) (hn : xn x = 3) (a1 : Int32) (a2 : Int32) (m : M) : Sm G x 0 [(0, .ref (G.2.1 0)), (1, .int a1), (2, .int a2)] [] m (k_benchOf a1 a2 m) (KRi m) := by
  unfold k_benchOf
  refine s_iload_n 1 E dX11_benchOf_0 rfl rfl ?_
  refine s_iconst (v := (0 : Int32)) E dX11_benchOf_1 (by decide) ?_
  refine s_iconst (v := (5 : Int32)) E dX11_benchOf_2 (by decide) ?_
  refine s_bd (fun v1 hz => ?_)
  refine s_cS (rest := []) E (C_k_within (xl x) G a1 (0 : Int32) (5 : Int32) m hz) mdX11_within W404 W405 W91 W406 rfl rfl (Nat.le_of_ble_eq_true rfl) ⟨by decide, by decide⟩ dX11_benchOf_3 ?_
  refine s_if_eq 18 E dX11_benchOf_6 (by decide) ?_ ?_
  · refine s_iconst (v := (-1 : Int32)) E dX11_benchOf_18 (by decide) ?_
    exact s_iret E rfl dX11_benchOf_19
  · refine s_iload_n 2 E dX11_benchOf_9 rfl rfl ?_
    refine s_iconst (v := (0 : Int32)) E dX11_benchOf_10 (by decide) ?_
    refine s_iconst (v := (1 : Int32)) E dX11_benchOf_11 (by decide) ?_
    refine s_bd (fun v2 hz => ?_)
    refine s_cS (rest := []) E (C_k_within (xl x) G a2 (0 : Int32) (1 : Int32) m hz) mdX11_within W404 W405 W91 W406 rfl rfl (Nat.le_of_ble_eq_true rfl) ⟨by decide, by decide⟩ dX11_benchOf_12 ?_
    refine s_if_ne 20 E dX11_benchOf_15 (by decide) ?_ ?_
    · refine s_iload_n 2 E dX11_benchOf_20 rfl rfl ?_
      refine s_if_ne 36 E dX11_benchOf_21 (by decide) ?_ ?_
      · refine s_aload_n 0 E dX11_benchOf_36 rfl rfl ?_
        refine s_getr (k := 0) (T := TX11) 0 E rfl rfl rfl inX11 (by decide) W360 dX11_benchOf_37 ?_
        refine s_getr (k := 15) (T := TX0) 1 E rfl rfl rfl inX0 (by decide) W257 dX11_benchOf_40 ?_
        refine s_iload_n 1 E dX11_benchOf_43 rfl rfl ?_
        refine s_iald E dX11_benchOf_44 (fun v3 => ?_)
        exact s_iret E rfl dX11_benchOf_45
      · refine s_aload_n 0 E dX11_benchOf_24 rfl rfl ?_
        refine s_getr (k := 0) (T := TX11) 0 E rfl rfl rfl inX11 (by decide) W360 dX11_benchOf_25 ?_
        refine s_getr (k := 14) (T := TX0) 1 E rfl rfl rfl inX0 (by decide) W255 dX11_benchOf_28 ?_
        refine s_iload_n 1 E dX11_benchOf_31 rfl rfl ?_
        refine s_iald E dX11_benchOf_32 (fun v4 => ?_)
        refine s_goto 45 E dX11_benchOf_33 (by decide) ?_
        exact s_iret E rfl dX11_benchOf_45
    · refine s_iconst (v := (-1 : Int32)) E dX11_benchOf_18 (by decide) ?_
      exact s_iret E rfl dX11_benchOf_19
set_option maxRecDepth 20000 in
theorem C_k_benchOf (l : Launch) (G : GG) (a1 : Int32) (a2 : Int32) (m : M) {z : Int32} (hz : k_benchOf a1 a2 m = some z) : Ct l G yX11_benchOf cX11_benchOf 3 (some .int) 2 [.ref (G.2.1 0), .int a1, .int a2] m (some (.int z)) m :=
  ct_of (K := (KRi m)) (by decide) (Nat.le_of_ble_eq_true rfl) (congrArg (fun q => Option.bind q _) hz) (fun x hl hn E => (t_k_benchOf E hn a1 a2 m))
theorem dX11_rock_0 : decode cX11_rock 0 = .ok (.iload_n 1, 1) := by decide +kernel
theorem dX11_rock_1 : decode cX11_rock 1 = .ok (.ifCond .ne 31, 3) := by decide +kernel
theorem dX11_rock_4 : decode cX11_rock 4 = .ok (.iload_n 2, 1) := by decide +kernel
theorem dX11_rock_5 : decode cX11_rock 5 = .ok (.iconst 0, 1) := by decide +kernel
theorem dX11_rock_6 : decode cX11_rock 6 = .ok (.bipush 9, 2) := by decide +kernel
theorem dX11_rock_8 : decode cX11_rock 8 = .ok (.invokestatic 61, 3) := by decide +kernel
theorem dX11_rock_11 : decode cX11_rock 11 = .ok (.ifCond .eq 21, 3) := by decide +kernel
theorem dX11_rock_14 : decode cX11_rock 14 = .ok (.aload_n 0, 1) := by decide +kernel
theorem dX11_rock_15 : decode cX11_rock 15 = .ok (.getfield 12, 3) := by decide +kernel
theorem dX11_rock_18 : decode cX11_rock 18 = .ok (.getfield 130, 3) := by decide +kernel
theorem dX11_rock_21 : decode cX11_rock 21 = .ok (.istore_n 3, 1) := by decide +kernel
theorem dX11_rock_22 : decode cX11_rock 22 = .ok (.aload_n 0, 1) := by decide +kernel
theorem dX11_rock_23 : decode cX11_rock 23 = .ok (.getfield 12, 3) := by decide +kernel
theorem dX11_rock_26 : decode cX11_rock 26 = .ok (.iload_n 2, 1) := by decide +kernel
theorem dX11_rock_27 : decode cX11_rock 27 = .ok (.putfield 130, 3) := by decide +kernel
theorem dX11_rock_30 : decode cX11_rock 30 = .ok (.iload_n 3, 1) := by decide +kernel
theorem dX11_rock_31 : decode cX11_rock 31 = .ok (.ireturn, 1) := by decide +kernel
theorem dX11_rock_32 : decode cX11_rock 32 = .ok (.iload_n 1, 1) := by decide +kernel
theorem dX11_rock_33 : decode cX11_rock 33 = .ok (.iconst 1, 1) := by decide +kernel
theorem dX11_rock_34 : decode cX11_rock 34 = .ok (.if_icmp .ne 32, 3) := by decide +kernel
theorem dX11_rock_37 : decode cX11_rock 37 = .ok (.iload_n 2, 1) := by decide +kernel
theorem dX11_rock_38 : decode cX11_rock 38 = .ok (.iconst 0, 1) := by decide +kernel
theorem dX11_rock_39 : decode cX11_rock 39 = .ok (.sipush 999, 3) := by decide +kernel
theorem dX11_rock_42 : decode cX11_rock 42 = .ok (.invokestatic 61, 3) := by decide +kernel
theorem dX11_rock_45 : decode cX11_rock 45 = .ok (.ifCond .eq 21, 3) := by decide +kernel
theorem dX11_rock_48 : decode cX11_rock 48 = .ok (.aload_n 0, 1) := by decide +kernel
theorem dX11_rock_49 : decode cX11_rock 49 = .ok (.getfield 12, 3) := by decide +kernel
theorem dX11_rock_52 : decode cX11_rock 52 = .ok (.getfield 133, 3) := by decide +kernel
theorem dX11_rock_55 : decode cX11_rock 55 = .ok (.istore_n 3, 1) := by decide +kernel
theorem dX11_rock_56 : decode cX11_rock 56 = .ok (.aload_n 0, 1) := by decide +kernel
theorem dX11_rock_57 : decode cX11_rock 57 = .ok (.getfield 12, 3) := by decide +kernel
theorem dX11_rock_60 : decode cX11_rock 60 = .ok (.iload_n 2, 1) := by decide +kernel
theorem dX11_rock_61 : decode cX11_rock 61 = .ok (.putfield 133, 3) := by decide +kernel
theorem dX11_rock_64 : decode cX11_rock 64 = .ok (.iload_n 3, 1) := by decide +kernel
theorem dX11_rock_65 : decode cX11_rock 65 = .ok (.ireturn, 1) := by decide +kernel
theorem dX11_rock_66 : decode cX11_rock 66 = .ok (.iconst (-1), 1) := by decide +kernel
theorem dX11_rock_67 : decode cX11_rock 67 = .ok (.ireturn, 1) := by decide +kernel
def k_rock_32 (a1 : Int32) (a2 : Int32) (m : M) : Option (Int32 × M) :=
  (if a1 = (1 : Int32) then Option.bind (k_within a2 (0 : Int32) (999 : Int32) m) (fun v1 => (if v1 = 0 then some ((-1 : Int32), m) else lt (m 1 3) (fun w2 : Int32 => lt (wrF m 1 3 a2) (fun m3 => some (w2, m3))))) else some ((-1 : Int32), m))
set_option maxRecDepth 20000 in
theorem t_k_rock_32 {G : GG} {x : Cx} (E : En G x cX11_rock "WreckBoard" 2 (some .int)) (hn : xn x = 4) (a1 : Int32) (a2 : Int32) (m : M) : Sm G x 32 [(0, .ref (G.2.1 0)), (1, .int a1), (2, .int a2)] [] m (k_rock_32 a1 a2 m) KWi := by
  unfold k_rock_32
  refine s_iload_n 1 E dX11_rock_32 rfl rfl ?_
  refine s_iconst (v := (1 : Int32)) E dX11_rock_33 (by decide) ?_
  refine s_icmp_ne 66 E dX11_rock_34 (by decide) ?_ ?_
  · refine s_iconst (v := (-1 : Int32)) E dX11_rock_66 (by decide) ?_
    exact s_iret E rfl dX11_rock_67
  · refine s_iload_n 2 E dX11_rock_37 rfl rfl ?_
    refine s_iconst (v := (0 : Int32)) E dX11_rock_38 (by decide) ?_
    refine s_sipush (v := (999 : Int32)) E dX11_rock_39 (by decide) ?_
    refine s_bd (fun v1 hz => ?_)
    refine s_cS (rest := []) E (C_k_within (xl x) G a2 (0 : Int32) (999 : Int32) m hz) mdX11_within W404 W405 W91 W406 rfl rfl (Nat.le_of_ble_eq_true rfl) ⟨by decide, by decide⟩ dX11_rock_42 ?_
    refine s_if_eq 66 E dX11_rock_45 (by decide) ?_ ?_
    · refine s_iconst (v := (-1 : Int32)) E dX11_rock_66 (by decide) ?_
      exact s_iret E rfl dX11_rock_67
    · refine s_aload_n 0 E dX11_rock_48 rfl rfl ?_
      refine s_getr (k := 0) (T := TX11) 0 E rfl rfl rfl inX11 (by decide) W360 dX11_rock_49 ?_
      refine s_geti (k := 3) (T := TX0) 1 E rfl rfl rfl inX0 (by decide) W230 dX11_rock_52 ?_
      refine s_lt (fun w2 => [(0, .ref (G.2.1 0)), (1, .int a1), (2, .int a2)]) (fun w2 => [.int w2]) rfl rfl (fun w2 => ?_)
      refine s_istore_n (lv' := [(0, .ref (G.2.1 0)), (2, .int a2), (3, .int w2)]) [1, 3, 0] E dX11_rock_55 rfl (by rw [hn]; decide) rfl ?_
      refine s_aload_n 0 E dX11_rock_56 rfl rfl ?_
      refine s_getr (k := 0) (T := TX11) 0 E rfl rfl rfl inX11 (by decide) W360 dX11_rock_57 ?_
      refine s_iload_n 1 E dX11_rock_60 rfl rfl ?_
      refine s_put (k := 3) (T := TX0) (ty := .int) 1 E rfl rfl rfl inX0 tyX0 tyX0_ok nmX0 (by decide) W230 rfl (by decide +kernel) rfl rfl dX11_rock_61 ?_
      refine s_ltm rfl (fun m3 => ?_)
      refine s_iload_n 2 E dX11_rock_64 rfl rfl ?_
      exact s_iret E rfl dX11_rock_65
def k_rock (a1 : Int32) (a2 : Int32) (m : M) : Option (Int32 × M) :=
  (if a1 = 0 then Option.bind (k_within a2 (0 : Int32) (9 : Int32) m) (fun v1 => (if v1 = 0 then k_rock_32 a1 a2 m else lt (m 1 2) (fun w2 : Int32 => lt (wrF m 1 2 a2) (fun m3 => some (w2, m3))))) else k_rock_32 a1 a2 m)
set_option maxRecDepth 20000 in
theorem t_k_rock {G : GG} {x : Cx} (E : En G x cX11_rock "WreckBoard" 2 (some .int)) (hn : xn x = 4) (a1 : Int32) (a2 : Int32) (m : M) : Sm G x 0 [(0, .ref (G.2.1 0)), (1, .int a1), (2, .int a2)] [] m (k_rock a1 a2 m) KWi := by
  unfold k_rock
  refine s_iload_n 1 E dX11_rock_0 rfl rfl ?_
  refine s_if_ne 32 E dX11_rock_1 (by decide) ?_ ?_
  · exact t_k_rock_32 E hn a1 a2 m
  · refine s_iload_n 2 E dX11_rock_4 rfl rfl ?_
    refine s_iconst (v := (0 : Int32)) E dX11_rock_5 (by decide) ?_
    refine s_bipush (v := (9 : Int32)) E dX11_rock_6 (by decide) ?_
    refine s_bd (fun v1 hz => ?_)
    refine s_cS (rest := []) E (C_k_within (xl x) G a2 (0 : Int32) (9 : Int32) m hz) mdX11_within W404 W405 W91 W406 rfl rfl (Nat.le_of_ble_eq_true rfl) ⟨by decide, by decide⟩ dX11_rock_8 ?_
    refine s_if_eq 32 E dX11_rock_11 (by decide) ?_ ?_
    · exact t_k_rock_32 E hn a1 a2 m
    · refine s_aload_n 0 E dX11_rock_14 rfl rfl ?_
      refine s_getr (k := 0) (T := TX11) 0 E rfl rfl rfl inX11 (by decide) W360 dX11_rock_15 ?_
      refine s_geti (k := 2) (T := TX0) 1 E rfl rfl rfl inX0 (by decide) W229 dX11_rock_18 ?_
      refine s_lt (fun w2 => [(0, .ref (G.2.1 0)), (1, .int a1), (2, .int a2)]) (fun w2 => [.int w2]) rfl rfl (fun w2 => ?_)
      refine s_istore_n (lv' := [(0, .ref (G.2.1 0)), (2, .int a2), (3, .int w2)]) [1, 3, 0] E dX11_rock_21 rfl (by rw [hn]; decide) rfl ?_
      refine s_aload_n 0 E dX11_rock_22 rfl rfl ?_
      refine s_getr (k := 0) (T := TX11) 0 E rfl rfl rfl inX11 (by decide) W360 dX11_rock_23 ?_
      refine s_iload_n 1 E dX11_rock_26 rfl rfl ?_
      refine s_put (k := 2) (T := TX0) (ty := .int) 1 E rfl rfl rfl inX0 tyX0 tyX0_ok nmX0 (by decide) W229 rfl (by decide +kernel) rfl rfl dX11_rock_27 ?_
      refine s_ltm rfl (fun m3 => ?_)
      refine s_iload_n 2 E dX11_rock_30 rfl rfl ?_
      exact s_iret E rfl dX11_rock_31
set_option maxRecDepth 20000 in
theorem C_k_rock (l : Launch) (G : GG) (a1 : Int32) (a2 : Int32) (m : M) {z : Int32 × M} (hz : k_rock a1 a2 m = some z) : Ct l G yX11_rock cX11_rock 4 (some .int) 2 [.ref (G.2.1 0), .int a1, .int a2] m (some (.int z.1)) z.2 :=
  ct_of (K := KWi) (by decide) (Nat.le_of_ble_eq_true rfl) (congrArg (fun q => Option.bind q _) hz) (fun x hl hn E => (t_k_rock E hn a1 a2 m))
theorem dX11_ends_0 : decode cX11_ends 0 = .ok (.iload_n 1, 1) := by decide +kernel
theorem dX11_ends_1 : decode cX11_ends 1 = .ok (.iconst 1, 1) := by decide +kernel
theorem dX11_ends_2 : decode cX11_ends 2 = .ok (.bipush 16, 2) := by decide +kernel
theorem dX11_ends_4 : decode cX11_ends 4 = .ok (.invokestatic 61, 3) := by decide +kernel
theorem dX11_ends_7 : decode cX11_ends 7 = .ok (.ifCond .ne 5, 3) := by decide +kernel
theorem dX11_ends_10 : decode cX11_ends 10 = .ok (.iconst (-1), 1) := by decide +kernel
theorem dX11_ends_11 : decode cX11_ends 11 = .ok (.ireturn, 1) := by decide +kernel
theorem dX11_ends_12 : decode cX11_ends 12 = .ok (.iload_n 1, 1) := by decide +kernel
theorem dX11_ends_13 : decode cX11_ends 13 = .ok (.aload_n 0, 1) := by decide +kernel
theorem dX11_ends_14 : decode cX11_ends 14 = .ok (.getfield 12, 3) := by decide +kernel
theorem dX11_ends_17 : decode cX11_ends 17 = .ok (.getfield 136, 3) := by decide +kernel
theorem dX11_ends_20 : decode cX11_ends 20 = .ok (.if_icmp .ge 6, 3) := by decide +kernel
theorem dX11_ends_23 : decode cX11_ends 23 = .ok (.bipush (-4), 2) := by decide +kernel
theorem dX11_ends_25 : decode cX11_ends 25 = .ok (.ireturn, 1) := by decide +kernel
theorem dX11_ends_26 : decode cX11_ends 26 = .ok (.aload_n 0, 1) := by decide +kernel
theorem dX11_ends_27 : decode cX11_ends 27 = .ok (.getfield 12, 3) := by decide +kernel
theorem dX11_ends_30 : decode cX11_ends 30 = .ok (.getfield 139, 3) := by decide +kernel
theorem dX11_ends_33 : decode cX11_ends 33 = .ok (.istore_n 2, 1) := by decide +kernel
theorem dX11_ends_34 : decode cX11_ends 34 = .ok (.aload_n 0, 1) := by decide +kernel
theorem dX11_ends_35 : decode cX11_ends 35 = .ok (.getfield 12, 3) := by decide +kernel
theorem dX11_ends_38 : decode cX11_ends 38 = .ok (.iload_n 1, 1) := by decide +kernel
theorem dX11_ends_39 : decode cX11_ends 39 = .ok (.putfield 139, 3) := by decide +kernel
theorem dX11_ends_42 : decode cX11_ends 42 = .ok (.iload_n 2, 1) := by decide +kernel
theorem dX11_ends_43 : decode cX11_ends 43 = .ok (.ireturn, 1) := by decide +kernel
def k_ends (a1 : Int32) (m : M) : Option (Int32 × M) :=
  Option.bind (k_within a1 (1 : Int32) (16 : Int32) m) (fun v1 => (if v1 = 0 then some ((-1 : Int32), m) else (if (m 1 0) ≤ a1 then lt (m 1 1) (fun w2 : Int32 => lt (wrF m 1 1 a1) (fun m3 => some (w2, m3))) else some ((-4 : Int32), m))))
set_option maxRecDepth 20000 in
theorem t_k_ends {G : GG} {x : Cx} (E : En G x cX11_ends "WreckBoard" 2 (some .int)) (hn : xn x = 3) (a1 : Int32) (m : M) : Sm G x 0 [(0, .ref (G.2.1 0)), (1, .int a1)] [] m (k_ends a1 m) KWi := by
  unfold k_ends
  refine s_iload_n 1 E dX11_ends_0 rfl rfl ?_
  refine s_iconst (v := (1 : Int32)) E dX11_ends_1 (by decide) ?_
  refine s_bipush (v := (16 : Int32)) E dX11_ends_2 (by decide) ?_
  refine s_bd (fun v1 hz => ?_)
  refine s_cS (rest := []) E (C_k_within (xl x) G a1 (1 : Int32) (16 : Int32) m hz) mdX11_within W404 W405 W91 W406 rfl rfl (Nat.le_of_ble_eq_true rfl) ⟨by decide, by decide⟩ dX11_ends_4 ?_
  refine s_if_ne 12 E dX11_ends_7 (by decide) ?_ ?_
  · refine s_iload_n 1 E dX11_ends_12 rfl rfl ?_
    refine s_aload_n 0 E dX11_ends_13 rfl rfl ?_
    refine s_getr (k := 0) (T := TX11) 0 E rfl rfl rfl inX11 (by decide) W360 dX11_ends_14 ?_
    refine s_geti (k := 0) (T := TX0) 1 E rfl rfl rfl inX0 (by decide) W224 dX11_ends_17 ?_
    refine s_icmp_ge 26 E dX11_ends_20 (by decide) ?_ ?_
    · refine s_aload_n 0 E dX11_ends_26 rfl rfl ?_
      refine s_getr (k := 0) (T := TX11) 0 E rfl rfl rfl inX11 (by decide) W360 dX11_ends_27 ?_
      refine s_geti (k := 1) (T := TX0) 1 E rfl rfl rfl inX0 (by decide) W226 dX11_ends_30 ?_
      refine s_lt (fun w2 => [(0, .ref (G.2.1 0)), (1, .int a1)]) (fun w2 => [.int w2]) rfl rfl (fun w2 => ?_)
      refine s_istore_n (lv' := [(0, .ref (G.2.1 0)), (1, .int a1), (2, .int w2)]) [1, 2, 0] E dX11_ends_33 rfl (by rw [hn]; decide) rfl ?_
      refine s_aload_n 0 E dX11_ends_34 rfl rfl ?_
      refine s_getr (k := 0) (T := TX11) 0 E rfl rfl rfl inX11 (by decide) W360 dX11_ends_35 ?_
      refine s_iload_n 1 E dX11_ends_38 rfl rfl ?_
      refine s_put (k := 1) (T := TX0) (ty := .int) 1 E rfl rfl rfl inX0 tyX0 tyX0_ok nmX0 (by decide) W226 rfl (by decide +kernel) rfl rfl dX11_ends_39 ?_
      refine s_ltm rfl (fun m3 => ?_)
      refine s_iload_n 2 E dX11_ends_42 rfl rfl ?_
      exact s_iret E rfl dX11_ends_43
    · refine s_bipush (v := (-4 : Int32)) E dX11_ends_23 (by decide) ?_
      exact s_iret E rfl dX11_ends_25
  · refine s_iconst (v := (-1 : Int32)) E dX11_ends_10 (by decide) ?_
    exact s_iret E rfl dX11_ends_11
set_option maxRecDepth 20000 in
theorem C_k_ends (l : Launch) (G : GG) (a1 : Int32) (m : M) {z : Int32 × M} (hz : k_ends a1 m = some z) : Ct l G yX11_ends cX11_ends 3 (some .int) 2 [.ref (G.2.1 0), .int a1] m (some (.int z.1)) z.2 :=
  ct_of (K := KWi) (by decide) (Nat.le_of_ble_eq_true rfl) (congrArg (fun q => Option.bind q _) hz) (fun x hl hn E => (t_k_ends E hn a1 m))
theorem dX11_anew_0 : decode cX11_anew 0 = .ok (.aload_n 0, 1) := by decide +kernel
theorem dX11_anew_1 : decode cX11_anew 1 = .ok (.getfield 12, 3) := by decide +kernel
theorem dX11_anew_4 : decode cX11_anew 4 = .ok (.getfield 136, 3) := by decide +kernel
theorem dX11_anew_7 : decode cX11_anew 7 = .ok (.istore_n 1, 1) := by decide +kernel
theorem dX11_anew_8 : decode cX11_anew 8 = .ok (.aload_n 0, 1) := by decide +kernel
theorem dX11_anew_9 : decode cX11_anew 9 = .ok (.getfield 12, 3) := by decide +kernel
theorem dX11_anew_12 : decode cX11_anew 12 = .ok (.iconst 0, 1) := by decide +kernel
theorem dX11_anew_13 : decode cX11_anew 13 = .ok (.putfield 136, 3) := by decide +kernel
theorem dX11_anew_16 : decode cX11_anew 16 = .ok (.aload_n 0, 1) := by decide +kernel
theorem dX11_anew_17 : decode cX11_anew 17 = .ok (.getfield 12, 3) := by decide +kernel
theorem dX11_anew_20 : decode cX11_anew 20 = .ok (.iconst 0, 1) := by decide +kernel
theorem dX11_anew_21 : decode cX11_anew 21 = .ok (.putfield 142, 3) := by decide +kernel
theorem dX11_anew_24 : decode cX11_anew 24 = .ok (.aload_n 0, 1) := by decide +kernel
theorem dX11_anew_25 : decode cX11_anew 25 = .ok (.getfield 12, 3) := by decide +kernel
theorem dX11_anew_28 : decode cX11_anew 28 = .ok (.iconst 5, 1) := by decide +kernel
theorem dX11_anew_29 : decode cX11_anew 29 = .ok (.putfield 130, 3) := by decide +kernel
theorem dX11_anew_32 : decode cX11_anew 32 = .ok (.aload_n 0, 1) := by decide +kernel
theorem dX11_anew_33 : decode cX11_anew 33 = .ok (.getfield 12, 3) := by decide +kernel
theorem dX11_anew_36 : decode cX11_anew 36 = .ok (.iconst 0, 1) := by decide +kernel
theorem dX11_anew_37 : decode cX11_anew 37 = .ok (.putfield 133, 3) := by decide +kernel
theorem dX11_anew_40 : decode cX11_anew 40 = .ok (.aload_n 0, 1) := by decide +kernel
theorem dX11_anew_41 : decode cX11_anew 41 = .ok (.getfield 12, 3) := by decide +kernel
theorem dX11_anew_44 : decode cX11_anew 44 = .ok (.iconst 0, 1) := by decide +kernel
theorem dX11_anew_45 : decode cX11_anew 45 = .ok (.putfield 145, 3) := by decide +kernel
theorem dX11_anew_48 : decode cX11_anew 48 = .ok (.iload_n 1, 1) := by decide +kernel
theorem dX11_anew_49 : decode cX11_anew 49 = .ok (.ireturn, 1) := by decide +kernel
def k_anew  (m : M) : Option (Int32 × M) :=
  lt (m 1 0) (fun w1 : Int32 => lt (wrF m 1 0 (0 : Int32)) (fun m2 => lt (wrF m2 1 4 (0 : Int32)) (fun m3 => lt (wrF m3 1 2 (5 : Int32)) (fun m4 => lt (wrF m4 1 3 (0 : Int32)) (fun m5 => lt (wrF m5 1 7 (0 : Int32)) (fun m6 => some (w1, m6)))))))
set_option maxRecDepth 20000 in
theorem t_k_anew {G : GG} {x : Cx} (E : En G x cX11_anew "WreckBoard" 1 (some .int)) (hn : xn x = 2)  (m : M) : Sm G x 0 [(0, .ref (G.2.1 0))] [] m (k_anew m) KWi := by
  unfold k_anew
  refine s_aload_n 0 E dX11_anew_0 rfl rfl ?_
  refine s_getr (k := 0) (T := TX11) 0 E rfl rfl rfl inX11 (by decide) W360 dX11_anew_1 ?_
  refine s_geti (k := 0) (T := TX0) 1 E rfl rfl rfl inX0 (by decide) W224 dX11_anew_4 ?_
  refine s_lt (fun w1 => [(0, .ref (G.2.1 0))]) (fun w1 => [.int w1]) rfl rfl (fun w1 => ?_)
  refine s_istore_n (lv' := [(0, .ref (G.2.1 0)), (1, .int w1)]) [1, 0] E dX11_anew_7 rfl (by rw [hn]; decide) rfl ?_
  refine s_aload_n 0 E dX11_anew_8 rfl rfl ?_
  refine s_getr (k := 0) (T := TX11) 0 E rfl rfl rfl inX11 (by decide) W360 dX11_anew_9 ?_
  refine s_iconst (v := (0 : Int32)) E dX11_anew_12 (by decide) ?_
  refine s_put (k := 0) (T := TX0) (ty := .int) 1 E rfl rfl rfl inX0 tyX0 tyX0_ok nmX0 (by decide) W224 rfl (by decide +kernel) rfl rfl dX11_anew_13 ?_
  refine s_ltm rfl (fun m2 => ?_)
  refine s_aload_n 0 E dX11_anew_16 rfl rfl ?_
  refine s_getr (k := 0) (T := TX11) 0 E rfl rfl rfl inX11 (by decide) W360 dX11_anew_17 ?_
  refine s_iconst (v := (0 : Int32)) E dX11_anew_20 (by decide) ?_
  refine s_put (k := 4) (T := TX0) (ty := .int) 1 E rfl rfl rfl inX0 tyX0 tyX0_ok nmX0 (by decide) W232 rfl (by decide +kernel) rfl rfl dX11_anew_21 ?_
  refine s_ltm rfl (fun m3 => ?_)
  refine s_aload_n 0 E dX11_anew_24 rfl rfl ?_
  refine s_getr (k := 0) (T := TX11) 0 E rfl rfl rfl inX11 (by decide) W360 dX11_anew_25 ?_
  refine s_iconst (v := (5 : Int32)) E dX11_anew_28 (by decide) ?_
  refine s_put (k := 2) (T := TX0) (ty := .int) 1 E rfl rfl rfl inX0 tyX0 tyX0_ok nmX0 (by decide) W229 rfl (by decide +kernel) rfl rfl dX11_anew_29 ?_
  refine s_ltm rfl (fun m4 => ?_)
  refine s_aload_n 0 E dX11_anew_32 rfl rfl ?_
  refine s_getr (k := 0) (T := TX11) 0 E rfl rfl rfl inX11 (by decide) W360 dX11_anew_33 ?_
  refine s_iconst (v := (0 : Int32)) E dX11_anew_36 (by decide) ?_
  refine s_put (k := 3) (T := TX0) (ty := .int) 1 E rfl rfl rfl inX0 tyX0 tyX0_ok nmX0 (by decide) W230 rfl (by decide +kernel) rfl rfl dX11_anew_37 ?_
  refine s_ltm rfl (fun m5 => ?_)
  refine s_aload_n 0 E dX11_anew_40 rfl rfl ?_
  refine s_getr (k := 0) (T := TX11) 0 E rfl rfl rfl inX11 (by decide) W360 dX11_anew_41 ?_
  refine s_iconst (v := (0 : Int32)) E dX11_anew_44 (by decide) ?_
  refine s_put (k := 7) (T := TX0) (ty := .int) 1 E rfl rfl rfl inX0 tyX0 tyX0_ok nmX0 (by decide) W239 rfl (by decide +kernel) rfl rfl dX11_anew_45 ?_
  refine s_ltm rfl (fun m6 => ?_)
  refine s_iload_n 1 E dX11_anew_48 rfl rfl ?_
  exact s_iret E rfl dX11_anew_49
set_option maxRecDepth 20000 in
theorem C_k_anew (l : Launch) (G : GG)  (m : M) {z : Int32 × M} (hz : k_anew m = some z) : Ct l G yX11_anew cX11_anew 2 (some .int) 1 [.ref (G.2.1 0)] m (some (.int z.1)) z.2 :=
  ct_of (K := KWi) (by decide) (Nat.le_of_ble_eq_true rfl) (congrArg (fun q => Option.bind q _) hz) (fun x hl hn E => (t_k_anew E hn  m))
theorem dX0_isOver_0 : decode cX0_isOver 0 = .ok (.aload_n 0, 1) := by decide +kernel
theorem dX0_isOver_1 : decode cX0_isOver 1 = .ok (.getfield 93, 3) := by decide +kernel
theorem dX0_isOver_4 : decode cX0_isOver 4 = .ok (.aload_n 0, 1) := by decide +kernel
theorem dX0_isOver_5 : decode cX0_isOver 5 = .ok (.getfield 9, 3) := by decide +kernel
theorem dX0_isOver_8 : decode cX0_isOver 8 = .ok (.if_icmp .lt 7, 3) := by decide +kernel
theorem dX0_isOver_11 : decode cX0_isOver 11 = .ok (.iconst 1, 1) := by decide +kernel
theorem dX0_isOver_12 : decode cX0_isOver 12 = .ok (.goto 4, 3) := by decide +kernel
theorem dX0_isOver_15 : decode cX0_isOver 15 = .ok (.iconst 0, 1) := by decide +kernel
theorem dX0_isOver_16 : decode cX0_isOver 16 = .ok (.ireturn, 1) := by decide +kernel
def b_isOver  (m : M) : Option (Int32) :=
  (if (m 1 0) < (m 1 1) then some (0 : Int32) else some (1 : Int32))
set_option maxRecDepth 20000 in
theorem t_b_isOver {G : GG} {x : Cx} (E : En G x cX0_isOver "WreckBoard$Board" 1 (some .boolean)) (hn : xn x = 1)  (m : M) : Sm G x 0 [(0, .ref (G.2.1 1))] [] m (b_isOver m) (KRi m) := by
  unfold b_isOver
  refine s_aload_n 0 E dX0_isOver_0 rfl rfl ?_
  refine s_geti (k := 0) (T := TX0) 1 E rfl rfl rfl inX0 (by decide) W222 dX0_isOver_1 ?_
  refine s_aload_n 0 E dX0_isOver_4 rfl rfl ?_
  refine s_geti (k := 1) (T := TX0) 1 E rfl rfl rfl inX0 (by decide) W225 dX0_isOver_5 ?_
  refine s_icmp_lt 15 E dX0_isOver_8 (by decide) ?_ ?_
  · refine s_iconst (v := (0 : Int32)) E dX0_isOver_15 (by decide) ?_
    exact s_zret E (by decide) rfl dX0_isOver_16
  · refine s_iconst (v := (1 : Int32)) E dX0_isOver_11 (by decide) ?_
    refine s_goto 16 E dX0_isOver_12 (by decide) ?_
    exact s_zret E (by decide) rfl dX0_isOver_16
set_option maxRecDepth 20000 in
theorem C_b_isOver (l : Launch) (G : GG)  (m : M) {z : Int32} (hz : b_isOver m = some z) : Ct l G yX0_isOver cX0_isOver 1 (some .boolean) 1 [.ref (G.2.1 1)] m (some (.int z)) m :=
  ct_of (K := (KRi m)) (by decide) (Nat.le_of_ble_eq_true rfl) (congrArg (fun q => Option.bind q _) hz) (fun x hl hn E => (t_b_isOver E hn  m))
theorem mdX0_isOver : mdq yX0_isOver 0 := ⟨by decide, by decide, by decide +kernel⟩
theorem dX11_state_0 : decode cX11_state 0 = .ok (.iload_n 1, 1) := by decide +kernel
theorem dX11_state_1 : decode cX11_state 1 = .ok (.tableswitch 134 0 8 #[51, 59, 67, 75, 91, 99, 107, 115, 123], 51) := by decide +kernel
theorem dX11_state_52 : decode cX11_state 52 = .ok (.aload_n 0, 1) := by decide +kernel
theorem dX11_state_53 : decode cX11_state 53 = .ok (.getfield 12, 3) := by decide +kernel
theorem dX11_state_56 : decode cX11_state 56 = .ok (.getfield 136, 3) := by decide +kernel
theorem dX11_state_59 : decode cX11_state 59 = .ok (.ireturn, 1) := by decide +kernel
theorem dX11_state_60 : decode cX11_state 60 = .ok (.aload_n 0, 1) := by decide +kernel
theorem dX11_state_61 : decode cX11_state 61 = .ok (.getfield 12, 3) := by decide +kernel
theorem dX11_state_64 : decode cX11_state 64 = .ok (.getfield 139, 3) := by decide +kernel
theorem dX11_state_67 : decode cX11_state 67 = .ok (.ireturn, 1) := by decide +kernel
theorem dX11_state_68 : decode cX11_state 68 = .ok (.aload_n 0, 1) := by decide +kernel
theorem dX11_state_69 : decode cX11_state 69 = .ok (.getfield 12, 3) := by decide +kernel
theorem dX11_state_72 : decode cX11_state 72 = .ok (.getfield 142, 3) := by decide +kernel
theorem dX11_state_75 : decode cX11_state 75 = .ok (.ireturn, 1) := by decide +kernel
theorem dX11_state_76 : decode cX11_state 76 = .ok (.aload_n 0, 1) := by decide +kernel
theorem dX11_state_77 : decode cX11_state 77 = .ok (.getfield 12, 3) := by decide +kernel
theorem dX11_state_80 : decode cX11_state 80 = .ok (.invokevirtual 148, 3) := by decide +kernel
theorem dX11_state_83 : decode cX11_state 83 = .ok (.ifCond .eq 7, 3) := by decide +kernel
theorem dX11_state_86 : decode cX11_state 86 = .ok (.iconst 1, 1) := by decide +kernel
theorem dX11_state_87 : decode cX11_state 87 = .ok (.goto 4, 3) := by decide +kernel
theorem dX11_state_90 : decode cX11_state 90 = .ok (.iconst 0, 1) := by decide +kernel
theorem dX11_state_91 : decode cX11_state 91 = .ok (.ireturn, 1) := by decide +kernel
theorem dX11_state_92 : decode cX11_state 92 = .ok (.aload_n 0, 1) := by decide +kernel
theorem dX11_state_93 : decode cX11_state 93 = .ok (.getfield 12, 3) := by decide +kernel
theorem dX11_state_96 : decode cX11_state 96 = .ok (.getfield 145, 3) := by decide +kernel
theorem dX11_state_99 : decode cX11_state 99 = .ok (.ireturn, 1) := by decide +kernel
theorem dX11_state_100 : decode cX11_state 100 = .ok (.aload_n 0, 1) := by decide +kernel
theorem dX11_state_101 : decode cX11_state 101 = .ok (.getfield 12, 3) := by decide +kernel
theorem dX11_state_104 : decode cX11_state 104 = .ok (.invokevirtual 152, 3) := by decide +kernel
theorem dX11_state_107 : decode cX11_state 107 = .ok (.ireturn, 1) := by decide +kernel
theorem dX11_state_108 : decode cX11_state 108 = .ok (.aload_n 0, 1) := by decide +kernel
theorem dX11_state_109 : decode cX11_state 109 = .ok (.getfield 12, 3) := by decide +kernel
theorem dX11_state_112 : decode cX11_state 112 = .ok (.getfield 130, 3) := by decide +kernel
theorem dX11_state_115 : decode cX11_state 115 = .ok (.ireturn, 1) := by decide +kernel
theorem dX11_state_116 : decode cX11_state 116 = .ok (.aload_n 0, 1) := by decide +kernel
theorem dX11_state_117 : decode cX11_state 117 = .ok (.getfield 12, 3) := by decide +kernel
theorem dX11_state_120 : decode cX11_state 120 = .ok (.getfield 133, 3) := by decide +kernel
theorem dX11_state_123 : decode cX11_state 123 = .ok (.ireturn, 1) := by decide +kernel
theorem dX11_state_124 : decode cX11_state 124 = .ok (.aload_n 0, 1) := by decide +kernel
theorem dX11_state_125 : decode cX11_state 125 = .ok (.getfield 12, 3) := by decide +kernel
theorem dX11_state_128 : decode cX11_state 128 = .ok (.invokevirtual 102, 3) := by decide +kernel
theorem dX11_state_131 : decode cX11_state 131 = .ok (.invokestatic 96, 3) := by decide +kernel
theorem dX11_state_134 : decode cX11_state 134 = .ok (.ireturn, 1) := by decide +kernel
theorem dX11_state_135 : decode cX11_state 135 = .ok (.iconst (-1), 1) := by decide +kernel
theorem dX11_state_136 : decode cX11_state 136 = .ok (.ireturn, 1) := by decide +kernel
def k_state (a1 : Int32) (m : M) : Option (Int32) :=
  (if a1 = (0 : Int32) then some (m 1 0) else (if a1 = (1 : Int32) then some (m 1 1) else (if a1 = (2 : Int32) then some (m 1 4) else (if a1 = (3 : Int32) then Option.bind (b_isOver m) (fun v1 => (if v1 = 0 then some (0 : Int32) else some (1 : Int32))) else (if a1 = (4 : Int32) then some (m 1 7) else (if a1 = (5 : Int32) then Option.bind (b_shipNow m) (fun v2 => some v2) else (if a1 = (6 : Int32) then some (m 1 2) else (if a1 = (7 : Int32) then some (m 1 3) else (if a1 = (8 : Int32) then Option.bind (b_count m) (fun v3 => Option.bind (k_side v3 m) (fun v4 => some v4)) else some (-1 : Int32))))))))))
set_option maxRecDepth 20000 in
theorem t_k_state {G : GG} {x : Cx} (E : En G x cX11_state "WreckBoard" 6 (some .int)) (hn : xn x = 2) (a1 : Int32) (m : M) : Sm G x 0 [(0, .ref (G.2.1 0)), (1, .int a1)] [] m (k_state a1 m) (KRi m) := by
  unfold k_state
  refine s_iload_n 1 E dX11_state_0 rfl rfl ?_
  refine s_case (fun h1_0 => ?_) (fun h1_0 => ?_)
  · refine s_tabIn 52 E dX11_state_1 h1_0 (by decide) (by decide) rfl (by decide) ?_
    refine s_aload_n 0 E dX11_state_52 rfl rfl ?_
    refine s_getr (k := 0) (T := TX11) 0 E rfl rfl rfl inX11 (by decide) W360 dX11_state_53 ?_
    refine s_geti (k := 0) (T := TX0) 1 E rfl rfl rfl inX0 (by decide) W224 dX11_state_56 ?_
    exact s_iret E rfl dX11_state_59
  · refine s_case (fun h1_1 => ?_) (fun h1_1 => ?_)
    · refine s_tabIn 60 E dX11_state_1 h1_1 (by decide) (by decide) rfl (by decide) ?_
      refine s_aload_n 0 E dX11_state_60 rfl rfl ?_
      refine s_getr (k := 0) (T := TX11) 0 E rfl rfl rfl inX11 (by decide) W360 dX11_state_61 ?_
      refine s_geti (k := 1) (T := TX0) 1 E rfl rfl rfl inX0 (by decide) W226 dX11_state_64 ?_
      exact s_iret E rfl dX11_state_67
    · refine s_case (fun h1_2 => ?_) (fun h1_2 => ?_)
      · refine s_tabIn 68 E dX11_state_1 h1_2 (by decide) (by decide) rfl (by decide) ?_
        refine s_aload_n 0 E dX11_state_68 rfl rfl ?_
        refine s_getr (k := 0) (T := TX11) 0 E rfl rfl rfl inX11 (by decide) W360 dX11_state_69 ?_
        refine s_geti (k := 4) (T := TX0) 1 E rfl rfl rfl inX0 (by decide) W232 dX11_state_72 ?_
        exact s_iret E rfl dX11_state_75
      · refine s_case (fun h1_3 => ?_) (fun h1_3 => ?_)
        · refine s_tabIn 76 E dX11_state_1 h1_3 (by decide) (by decide) rfl (by decide) ?_
          refine s_aload_n 0 E dX11_state_76 rfl rfl ?_
          refine s_getr (k := 0) (T := TX11) 0 E rfl rfl rfl inX11 (by decide) W360 dX11_state_77 ?_
          refine s_bd (fun v1 hz => ?_)
          refine s_cV (rest := []) E (C_b_isOver (xl x) G  m hz) mdX0_isOver W578 W579 W580 W92 W581 rfl rfl rfl rfl (Nat.le_of_ble_eq_true rfl) ⟨by decide, by decide⟩ dX11_state_80 ?_
          refine s_if_eq 90 E dX11_state_83 (by decide) ?_ ?_
          · refine s_iconst (v := (0 : Int32)) E dX11_state_90 (by decide) ?_
            exact s_iret E rfl dX11_state_91
          · refine s_iconst (v := (1 : Int32)) E dX11_state_86 (by decide) ?_
            refine s_goto 91 E dX11_state_87 (by decide) ?_
            exact s_iret E rfl dX11_state_91
        · refine s_case (fun h1_4 => ?_) (fun h1_4 => ?_)
          · refine s_tabIn 92 E dX11_state_1 h1_4 (by decide) (by decide) rfl (by decide) ?_
            refine s_aload_n 0 E dX11_state_92 rfl rfl ?_
            refine s_getr (k := 0) (T := TX11) 0 E rfl rfl rfl inX11 (by decide) W360 dX11_state_93 ?_
            refine s_geti (k := 7) (T := TX0) 1 E rfl rfl rfl inX0 (by decide) W239 dX11_state_96 ?_
            exact s_iret E rfl dX11_state_99
          · refine s_case (fun h1_5 => ?_) (fun h1_5 => ?_)
            · refine s_tabIn 100 E dX11_state_1 h1_5 (by decide) (by decide) rfl (by decide) ?_
              refine s_aload_n 0 E dX11_state_100 rfl rfl ?_
              refine s_getr (k := 0) (T := TX11) 0 E rfl rfl rfl inX11 (by decide) W360 dX11_state_101 ?_
              refine s_bd (fun v2 hz => ?_)
              refine s_cV (rest := []) E (C_b_shipNow (xl x) G  m hz) mdX0_shipNow W582 W432 W433 W92 W434 rfl rfl rfl rfl (Nat.le_of_ble_eq_true rfl) ⟨by decide, by decide⟩ dX11_state_104 ?_
              exact s_iret E rfl dX11_state_107
            · refine s_case (fun h1_6 => ?_) (fun h1_6 => ?_)
              · refine s_tabIn 108 E dX11_state_1 h1_6 (by decide) (by decide) rfl (by decide) ?_
                refine s_aload_n 0 E dX11_state_108 rfl rfl ?_
                refine s_getr (k := 0) (T := TX11) 0 E rfl rfl rfl inX11 (by decide) W360 dX11_state_109 ?_
                refine s_geti (k := 2) (T := TX0) 1 E rfl rfl rfl inX0 (by decide) W229 dX11_state_112 ?_
                exact s_iret E rfl dX11_state_115
              · refine s_case (fun h1_7 => ?_) (fun h1_7 => ?_)
                · refine s_tabIn 116 E dX11_state_1 h1_7 (by decide) (by decide) rfl (by decide) ?_
                  refine s_aload_n 0 E dX11_state_116 rfl rfl ?_
                  refine s_getr (k := 0) (T := TX11) 0 E rfl rfl rfl inX11 (by decide) W360 dX11_state_117 ?_
                  refine s_geti (k := 3) (T := TX0) 1 E rfl rfl rfl inX0 (by decide) W230 dX11_state_120 ?_
                  exact s_iret E rfl dX11_state_123
                · refine s_case (fun h1_8 => ?_) (fun h1_8 => ?_)
                  · refine s_tabIn 124 E dX11_state_1 h1_8 (by decide) (by decide) rfl (by decide) ?_
                    refine s_aload_n 0 E dX11_state_124 rfl rfl ?_
                    refine s_getr (k := 0) (T := TX11) 0 E rfl rfl rfl inX11 (by decide) W360 dX11_state_125 ?_
                    refine s_bd (fun v3 hz => ?_)
                    refine s_cV (rest := []) E (C_b_count (xl x) G  m hz) mdX0_count W499 W500 W501 W92 W502 rfl rfl rfl rfl (Nat.le_of_ble_eq_true rfl) ⟨by decide, by decide⟩ dX11_state_128 ?_
                    refine s_bd (fun v4 hz => ?_)
                    refine s_cS (rest := []) E (C_k_side (xl x) G v3 m hz) mdX11_side W461 W462 W91 W463 rfl rfl (Nat.le_of_ble_eq_true rfl) ⟨by decide, by decide⟩ dX11_state_131 ?_
                    exact s_iret E rfl dX11_state_134
                  · refine s_tabOut 135 E dX11_state_1 (by have e0 := ne_toIntK h1_0 (k := 0) (by decide); have e1 := ne_toIntK h1_1 (k := 1) (by decide); have e2 := ne_toIntK h1_2 (k := 2) (by decide); have e3 := ne_toIntK h1_3 (k := 3) (by decide); have e4 := ne_toIntK h1_4 (k := 4) (by decide); have e5 := ne_toIntK h1_5 (k := 5) (by decide); have e6 := ne_toIntK h1_6 (k := 6) (by decide); have e7 := ne_toIntK h1_7 (k := 7) (by decide); have e8 := ne_toIntK h1_8 (k := 8) (by decide); omega) (by decide) ?_
                    refine s_iconst (v := (-1 : Int32)) E dX11_state_135 (by decide) ?_
                    exact s_iret E rfl dX11_state_136
set_option maxRecDepth 20000 in
theorem C_k_state (l : Launch) (G : GG) (a1 : Int32) (m : M) {z : Int32} (hz : k_state a1 m = some z) : Ct l G yX11_state cX11_state 2 (some .int) 6 [.ref (G.2.1 0), .int a1] m (some (.int z)) m :=
  ct_of (K := (KRi m)) (by decide) (Nat.le_of_ble_eq_true rfl) (congrArg (fun q => Option.bind q _) hz) (fun x hl hn E => (t_k_state E hn a1 m))
theorem dX9_hasRoomFor_0 : decode cX9_hasRoomFor 0 = .ok (.aload_n 0, 1) := by decide +kernel
theorem dX9_hasRoomFor_1 : decode cX9_hasRoomFor 1 = .ok (.getfield 21, 3) := by decide +kernel
theorem dX9_hasRoomFor_4 : decode cX9_hasRoomFor 4 = .ok (.iload_n 1, 1) := by decide +kernel
theorem dX9_hasRoomFor_5 : decode cX9_hasRoomFor 5 = .ok (.iadd, 1) := by decide +kernel
theorem dX9_hasRoomFor_6 : decode cX9_hasRoomFor 6 = .ok (.sipush 200, 3) := by decide +kernel
theorem dX9_hasRoomFor_9 : decode cX9_hasRoomFor 9 = .ok (.if_icmp .gt 7, 3) := by decide +kernel
theorem dX9_hasRoomFor_12 : decode cX9_hasRoomFor 12 = .ok (.iconst 1, 1) := by decide +kernel
theorem dX9_hasRoomFor_13 : decode cX9_hasRoomFor 13 = .ok (.goto 4, 3) := by decide +kernel
theorem dX9_hasRoomFor_16 : decode cX9_hasRoomFor 16 = .ok (.iconst 0, 1) := by decide +kernel
theorem dX9_hasRoomFor_17 : decode cX9_hasRoomFor 17 = .ok (.ireturn, 1) := by decide +kernel
def t_hasRoomFor (a1 : Int32) (m : M) : Option (Int32) :=
  (if (200 : Int32) < ((m 7 0) + a1) then some (0 : Int32) else some (1 : Int32))
set_option maxRecDepth 20000 in
theorem t_t_hasRoomFor {G : GG} {x : Cx} (E : En G x cX9_hasRoomFor "WreckBoard$Tape" 1 (some .boolean)) (hn : xn x = 2) (a1 : Int32) (m : M) : Sm G x 0 [(0, .ref (G.2.1 7)), (1, .int a1)] [] m (t_hasRoomFor a1 m) (KRi m) := by
  unfold t_hasRoomFor
  refine s_aload_n 0 E dX9_hasRoomFor_0 rfl rfl ?_
  refine s_geti (k := 0) (T := TX9) 7 E rfl rfl rfl inX9 (by decide) W309 dX9_hasRoomFor_1 ?_
  refine s_iload_n 1 E dX9_hasRoomFor_4 rfl rfl ?_
  refine s_iadd E dX9_hasRoomFor_5 ?_
  refine s_sipush (v := (200 : Int32)) E dX9_hasRoomFor_6 (by decide) ?_
  refine s_icmp_gt 16 E dX9_hasRoomFor_9 (by decide) ?_ ?_
  · refine s_iconst (v := (0 : Int32)) E dX9_hasRoomFor_16 (by decide) ?_
    exact s_zret E (by decide) rfl dX9_hasRoomFor_17
  · refine s_iconst (v := (1 : Int32)) E dX9_hasRoomFor_12 (by decide) ?_
    refine s_goto 17 E dX9_hasRoomFor_13 (by decide) ?_
    exact s_zret E (by decide) rfl dX9_hasRoomFor_17
set_option maxRecDepth 20000 in
theorem C_t_hasRoomFor (l : Launch) (G : GG) (a1 : Int32) (m : M) {z : Int32} (hz : t_hasRoomFor a1 m = some z) : Ct l G yX9_hasRoomFor cX9_hasRoomFor 2 (some .boolean) 1 [.ref (G.2.1 7), .int a1] m (some (.int z)) m :=
  ct_of (K := (KRi m)) (by decide) (Nat.le_of_ble_eq_true rfl) (congrArg (fun q => Option.bind q _) hz) (fun x hl hn E => (t_t_hasRoomFor E hn a1 m))
theorem mdX9_hasRoomFor : mdq yX9_hasRoomFor 1 := ⟨by decide, by decide, by decide +kernel⟩
theorem dX9_take_0 : decode cX9_take 0 = .ok (.iconst 0, 1) := by decide +kernel
theorem dX9_take_1 : decode cX9_take 1 = .ok (.istore 4, 2) := by decide +kernel
theorem dX9_take_3 : decode cX9_take 3 = .ok (.iload 4, 2) := by decide +kernel
theorem dX9_take_5 : decode cX9_take 5 = .ok (.iload_n 3, 1) := by decide +kernel
theorem dX9_take_6 : decode cX9_take 6 = .ok (.if_icmp .ge 40, 3) := by decide +kernel
theorem dX9_take_9 : decode cX9_take 9 = .ok (.aload_n 0, 1) := by decide +kernel
theorem dX9_take_10 : decode cX9_take 10 = .ok (.getfield 11, 3) := by decide +kernel
theorem dX9_take_13 : decode cX9_take 13 = .ok (.aload_n 0, 1) := by decide +kernel
theorem dX9_take_14 : decode cX9_take 14 = .ok (.getfield 21, 3) := by decide +kernel
theorem dX9_take_17 : decode cX9_take 17 = .ok (.lload_n 1, 1) := by decide +kernel
theorem dX9_take_18 : decode cX9_take 18 = .ok (.bipush 8, 2) := by decide +kernel
theorem dX9_take_20 : decode cX9_take 20 = .ok (.iload 4, 2) := by decide +kernel
theorem dX9_take_22 : decode cX9_take 22 = .ok (.imul, 1) := by decide +kernel
theorem dX9_take_23 : decode cX9_take 23 = .ok (.lushr, 1) := by decide +kernel
theorem dX9_take_24 : decode cX9_take 24 = .ok (.l2i, 1) := by decide +kernel
theorem dX9_take_25 : decode cX9_take 25 = .ok (.sipush 255, 3) := by decide +kernel
theorem dX9_take_28 : decode cX9_take 28 = .ok (.iand, 1) := by decide +kernel
theorem dX9_take_29 : decode cX9_take 29 = .ok (.iastore, 1) := by decide +kernel
theorem dX9_take_30 : decode cX9_take 30 = .ok (.aload_n 0, 1) := by decide +kernel
theorem dX9_take_31 : decode cX9_take 31 = .ok (.dup, 1) := by decide +kernel
theorem dX9_take_32 : decode cX9_take 32 = .ok (.getfield 21, 3) := by decide +kernel
theorem dX9_take_35 : decode cX9_take 35 = .ok (.iconst 1, 1) := by decide +kernel
theorem dX9_take_36 : decode cX9_take 36 = .ok (.iadd, 1) := by decide +kernel
theorem dX9_take_37 : decode cX9_take 37 = .ok (.putfield 21, 3) := by decide +kernel
theorem dX9_take_40 : decode cX9_take 40 = .ok (.iinc 4 1, 3) := by decide +kernel
theorem dX9_take_43 : decode cX9_take 43 = .ok (.goto (-40), 3) := by decide +kernel
theorem dX9_take_46 : decode cX9_take 46 = .ok (.aload_n 0, 1) := by decide +kernel
theorem dX9_take_47 : decode cX9_take 47 = .ok (.getfield 21, 3) := by decide +kernel
theorem dX9_take_50 : decode cX9_take 50 = .ok (.ireturn, 1) := by decide +kernel
def t_take_3b (a1 : Int64) (a3 : Int32) (a4 : Int32) (m : M) : Option ((Int32 × M) ⊕ ((M))) :=
  (if a3 ≤ a4 then some (.inr m) else Option.bind (wrI m 46 (m 7 0) ((Int64.toInt32 ((Int64.toUInt64 a1 >>> ((Int32.toInt64 ((8 : Int32) * a4)).toUInt64 &&& Int64.toUInt64 63)).toInt64)) &&& (255 : Int32))) (fun m1 => lt (wrF m1 7 0 ((m1 7 0) + (1 : Int32))) (fun m2 => lt (a4 + (1 : Int32)) (fun w3 : Int32 => some (.inl (w3, m2))))))
set_option maxRecDepth 20000 in
theorem t_t_take_3b {G : GG} {x : Cx} {K : ((Int32 × M) ⊕ ((M))) → Option (Option Value × M)} (E : En G x cX9_take "WreckBoard$Tape" 1 (some .int)) (hn : xn x = 5) (a1 : Int64) (a3 : Int32) (a4 : Int32) (m : M) (hb : ∀ z : Int32 × M, Sm G x 3 [(0, .ref (G.2.1 7)), (1, .long a1), (3, .int a3), (4, .int z.1)] [] z.2 (some (.inl z)) K) (hx0 : ∀ z : M, Sm G x 46 [(0, .ref (G.2.1 7))] [] z (some (.inr z)) K) : Sm G x 3 [(0, .ref (G.2.1 7)), (1, .long a1), (3, .int a3), (4, .int a4)] [] m (t_take_3b a1 a3 a4 m) K := by
  unfold t_take_3b
  refine s_iload 3 E dX9_take_3 rfl ?_
  refine s_iload_n 2 E dX9_take_5 rfl rfl ?_
  refine s_icmp_ge 46 E dX9_take_6 (by decide) ?_ ?_
  · refine s_sub (lv' := [(0, .ref (G.2.1 7))]) [0] rfl ?_
    exact hx0 m
  · refine s_aload_n 0 E dX9_take_9 rfl rfl ?_
    refine s_getr (k := 1) (T := TX9) 7 E rfl rfl rfl inX9 (by decide) W311 dX9_take_10 ?_
    refine s_aload_n 0 E dX9_take_13 rfl rfl ?_
    refine s_geti (k := 0) (T := TX9) 7 E rfl rfl rfl inX9 (by decide) W309 dX9_take_14 ?_
    refine s_lload_n 1 E dX9_take_17 rfl rfl ?_
    refine s_bipush (v := (8 : Int32)) E dX9_take_18 (by decide) ?_
    refine s_iload 3 E dX9_take_20 rfl ?_
    refine s_imul E dX9_take_22 ?_
    refine s_lushr E dX9_take_23 ?_
    refine s_l2i E dX9_take_24 ?_
    refine s_sipush (v := (255 : Int32)) E dX9_take_25 (by decide) ?_
    refine s_iand E dX9_take_28 ?_
    refine s_iast E dX9_take_29 (fun m1 => ?_)
    refine s_aload_n 0 E dX9_take_30 rfl rfl ?_
    refine s_dup E dX9_take_31 rfl ?_
    refine s_geti (k := 0) (T := TX9) 7 E rfl rfl rfl inX9 (by decide) W309 dX9_take_32 ?_
    refine s_iconst (v := (1 : Int32)) E dX9_take_35 (by decide) ?_
    refine s_iadd E dX9_take_36 ?_
    refine s_put (k := 0) (T := TX9) (ty := .int) 7 E rfl rfl rfl inX9 tyX9 tyX9_ok nmX9 (by decide) W309 rfl (by decide +kernel) rfl rfl dX9_take_37 ?_
    refine s_ltm rfl (fun m2 => ?_)
    refine s_iincL (v := (1 : Int32)) 3 [1, 2, 3, 0] (fun w3 => [(0, .ref (G.2.1 7)), (1, .long a1), (3, .int a3), (4, .int w3)]) E dX9_take_40 rfl (by decide) (by rw [hn]; decide) (fun _ => rfl) (fun w3 => ?_)
    refine s_goto 3 E dX9_take_43 (by decide) ?_
    exact hb (w3, m2)
def t_take_3 (a1 : Int64) (a3 : Int32) (a4 : Int32) (m : M) : Option (Int32 × M) :=
  Option.bind (iter (fun z => t_take_3b a1 a3 z.1 z.2) FU (a4, m)) (fun r => some ((r 7 0), r))
set_option maxRecDepth 20000 in
theorem t_t_take_3 {G : GG} {x : Cx} (E : En G x cX9_take "WreckBoard$Tape" 1 (some .int)) (hn : xn x = 5) (a1 : Int64) (a3 : Int32) (a4 : Int32) (m : M) : Sm G x 3 [(0, .ref (G.2.1 7)), (1, .long a1), (3, .int a3), (4, .int a4)] [] m (t_take_3 a1 a3 a4 m) KWi := by
  unfold t_take_3
  refine s_loop (fun z => [(0, .ref (G.2.1 7)), (1, .long a1), (3, .int a3), (4, .int z.1)]) (fun z => z.2) (fun K2 hb2 hr2 z => ?_) FU (a4, m)
  refine t_t_take_3b (K := K2) E hn a1 a3 z.1 z.2 hb2 (fun r => s_out (hr2 r) ?_)
  · refine s_aload_n 0 E dX9_take_46 rfl rfl ?_
    refine s_geti (k := 0) (T := TX9) 7 E rfl rfl rfl inX9 (by decide) W309 dX9_take_47 ?_
    exact s_iret E rfl dX9_take_50
def t_take (a1 : Int64) (a3 : Int32) (m : M) : Option (Int32 × M) :=
  t_take_3 a1 a3 (0 : Int32) m
set_option maxRecDepth 20000 in
theorem t_t_take {G : GG} {x : Cx} (E : En G x cX9_take "WreckBoard$Tape" 1 (some .int)) (hn : xn x = 5) (a1 : Int64) (a3 : Int32) (m : M) : Sm G x 0 [(0, .ref (G.2.1 7)), (1, .long a1), (3, .int a3)] [] m (t_take a1 a3 m) KWi := by
  unfold t_take
  refine s_iconst (v := (0 : Int32)) E dX9_take_0 (by decide) ?_
  refine s_istore (lv' := [(0, .ref (G.2.1 7)), (1, .long a1), (3, .int a3), (4, .int (0 : Int32))]) [1, 2, 3, 0] E dX9_take_1 (by rw [hn]; decide) rfl ?_
  exact t_t_take_3 E hn a1 a3 (0 : Int32) m
set_option maxRecDepth 20000 in
theorem C_t_take (l : Launch) (G : GG) (a1 : Int64) (a3 : Int32) (m : M) {z : Int32 × M} (hz : t_take a1 a3 m = some z) : Ct l G yX9_take cX9_take 5 (some .int) 1 [.ref (G.2.1 7), .long a1, .int a3] m (some (.int z.1)) z.2 :=
  ct_of (K := KWi) (by decide) (Nat.le_of_ble_eq_true rfl) (congrArg (fun q => Option.bind q _) hz) (fun x hl hn E => (t_t_take E hn a1 a3 m))
theorem mdX9_take : mdq yX9_take 2 := ⟨by decide, by decide, by decide +kernel⟩
theorem dX11_feed_0 : decode cX11_feed 0 = .ok (.iload_n 3, 1) := by decide +kernel
theorem dX11_feed_1 : decode cX11_feed 1 = .ok (.iconst 1, 1) := by decide +kernel
theorem dX11_feed_2 : decode cX11_feed 2 = .ok (.bipush 8, 2) := by decide +kernel
theorem dX11_feed_4 : decode cX11_feed 4 = .ok (.invokestatic 61, 3) := by decide +kernel
theorem dX11_feed_7 : decode cX11_feed 7 = .ok (.ifCond .ne 5, 3) := by decide +kernel
theorem dX11_feed_10 : decode cX11_feed 10 = .ok (.iconst (-1), 1) := by decide +kernel
theorem dX11_feed_11 : decode cX11_feed 11 = .ok (.ireturn, 1) := by decide +kernel
theorem dX11_feed_12 : decode cX11_feed 12 = .ok (.aload_n 0, 1) := by decide +kernel
theorem dX11_feed_13 : decode cX11_feed 13 = .ok (.getfield 22, 3) := by decide +kernel
theorem dX11_feed_16 : decode cX11_feed 16 = .ok (.iload_n 3, 1) := by decide +kernel
theorem dX11_feed_17 : decode cX11_feed 17 = .ok (.invokevirtual 155, 3) := by decide +kernel
theorem dX11_feed_20 : decode cX11_feed 20 = .ok (.ifCond .eq 15, 3) := by decide +kernel
theorem dX11_feed_23 : decode cX11_feed 23 = .ok (.aload_n 0, 1) := by decide +kernel
theorem dX11_feed_24 : decode cX11_feed 24 = .ok (.getfield 22, 3) := by decide +kernel
theorem dX11_feed_27 : decode cX11_feed 27 = .ok (.lload_n 1, 1) := by decide +kernel
theorem dX11_feed_28 : decode cX11_feed 28 = .ok (.iload_n 3, 1) := by decide +kernel
theorem dX11_feed_29 : decode cX11_feed 29 = .ok (.invokevirtual 158, 3) := by decide +kernel
theorem dX11_feed_32 : decode cX11_feed 32 = .ok (.goto 5, 3) := by decide +kernel
theorem dX11_feed_35 : decode cX11_feed 35 = .ok (.bipush (-2), 2) := by decide +kernel
theorem dX11_feed_37 : decode cX11_feed 37 = .ok (.ireturn, 1) := by decide +kernel
def k_feed (a1 : Int64) (a3 : Int32) (m : M) : Option (Int32 × M) :=
  Option.bind (k_within a3 (1 : Int32) (8 : Int32) m) (fun v1 => (if v1 = 0 then some ((-1 : Int32), m) else Option.bind (t_hasRoomFor a3 m) (fun v2 => (if v2 = 0 then some ((-2 : Int32), m) else Option.bind (t_take a1 a3 m) (fun z3 => some (z3.1, z3.2))))))
set_option maxRecDepth 20000 in
theorem t_k_feed {G : GG} {x : Cx} (E : En G x cX11_feed "WreckBoard" 2 (some .int)) (hn : xn x = 4) (a1 : Int64) (a3 : Int32) (m : M) : Sm G x 0 [(0, .ref (G.2.1 0)), (1, .long a1), (3, .int a3)] [] m (k_feed a1 a3 m) KWi := by
  unfold k_feed
  refine s_iload_n 2 E dX11_feed_0 rfl rfl ?_
  refine s_iconst (v := (1 : Int32)) E dX11_feed_1 (by decide) ?_
  refine s_bipush (v := (8 : Int32)) E dX11_feed_2 (by decide) ?_
  refine s_bd (fun v1 hz => ?_)
  refine s_cS (rest := []) E (C_k_within (xl x) G a3 (1 : Int32) (8 : Int32) m hz) mdX11_within W404 W405 W91 W406 rfl rfl (Nat.le_of_ble_eq_true rfl) ⟨by decide, by decide⟩ dX11_feed_4 ?_
  refine s_if_ne 12 E dX11_feed_7 (by decide) ?_ ?_
  · refine s_aload_n 0 E dX11_feed_12 rfl rfl ?_
    refine s_getr (k := 3) (T := TX11) 0 E rfl rfl rfl inX11 (by decide) W363 dX11_feed_13 ?_
    refine s_iload_n 2 E dX11_feed_16 rfl rfl ?_
    refine s_bd (fun v2 hz => ?_)
    refine s_cV (rest := []) E (C_t_hasRoomFor (xl x) G a3 m hz) mdX9_hasRoomFor W587 W588 W589 W101 W590 rfl rfl rfl rfl (Nat.le_of_ble_eq_true rfl) ⟨by decide, by decide⟩ dX11_feed_17 ?_
    refine s_if_eq 35 E dX11_feed_20 (by decide) ?_ ?_
    · refine s_bipush (v := (-2 : Int32)) E dX11_feed_35 (by decide) ?_
      exact s_iret E rfl dX11_feed_37
    · refine s_aload_n 0 E dX11_feed_23 rfl rfl ?_
      refine s_getr (k := 3) (T := TX11) 0 E rfl rfl rfl inX11 (by decide) W363 dX11_feed_24 ?_
      refine s_lload_n 1 E dX11_feed_27 rfl rfl ?_
      refine s_iload_n 2 E dX11_feed_28 rfl rfl ?_
      refine s_bd (fun z3 hz => ?_)
      refine s_cV (rest := []) E (C_t_take (xl x) G a1 a3 m hz) mdX9_take W591 W592 W593 W101 W594 rfl rfl rfl rfl (Nat.le_of_ble_eq_true rfl) ⟨by decide, by decide⟩ dX11_feed_29 ?_
      refine s_goto 37 E dX11_feed_32 (by decide) ?_
      exact s_iret E rfl dX11_feed_37
  · refine s_iconst (v := (-1 : Int32)) E dX11_feed_10 (by decide) ?_
    exact s_iret E rfl dX11_feed_11
set_option maxRecDepth 20000 in
theorem C_k_feed (l : Launch) (G : GG) (a1 : Int64) (a3 : Int32) (m : M) {z : Int32 × M} (hz : k_feed a1 a3 m = some z) : Ct l G yX11_feed cX11_feed 4 (some .int) 2 [.ref (G.2.1 0), .long a1, .int a3] m (some (.int z.1)) z.2 :=
  ct_of (K := KWi) (by decide) (Nat.le_of_ble_eq_true rfl) (congrArg (fun q => Option.bind q _) hz) (fun x hl hn E => (t_k_feed E hn a1 a3 m))
theorem dX9_sortOf_0 : decode cX9_sortOf 0 = .ok (.iload_n 0, 1) := by decide +kernel
theorem dX9_sortOf_1 : decode cX9_sortOf 1 = .ok (.bipush 97, 2) := by decide +kernel
theorem dX9_sortOf_3 : decode cX9_sortOf 3 = .ok (.bipush 122, 2) := by decide +kernel
theorem dX9_sortOf_5 : decode cX9_sortOf 5 = .ok (.invokestatic 51, 3) := by decide +kernel
theorem dX9_sortOf_8 : decode cX9_sortOf 8 = .ok (.ifCond .eq 5, 3) := by decide +kernel
theorem dX9_sortOf_11 : decode cX9_sortOf 11 = .ok (.iconst 1, 1) := by decide +kernel
theorem dX9_sortOf_12 : decode cX9_sortOf 12 = .ok (.ireturn, 1) := by decide +kernel
theorem dX9_sortOf_13 : decode cX9_sortOf 13 = .ok (.iload_n 0, 1) := by decide +kernel
theorem dX9_sortOf_14 : decode cX9_sortOf 14 = .ok (.bipush 48, 2) := by decide +kernel
theorem dX9_sortOf_16 : decode cX9_sortOf 16 = .ok (.bipush 57, 2) := by decide +kernel
theorem dX9_sortOf_18 : decode cX9_sortOf 18 = .ok (.invokestatic 51, 3) := by decide +kernel
theorem dX9_sortOf_21 : decode cX9_sortOf 21 = .ok (.ifCond .eq 5, 3) := by decide +kernel
theorem dX9_sortOf_24 : decode cX9_sortOf 24 = .ok (.iconst 2, 1) := by decide +kernel
theorem dX9_sortOf_25 : decode cX9_sortOf 25 = .ok (.ireturn, 1) := by decide +kernel
theorem dX9_sortOf_26 : decode cX9_sortOf 26 = .ok (.iload_n 0, 1) := by decide +kernel
theorem dX9_sortOf_27 : decode cX9_sortOf 27 = .ok (.bipush 32, 2) := by decide +kernel
theorem dX9_sortOf_29 : decode cX9_sortOf 29 = .ok (.if_icmp .ne 7, 3) := by decide +kernel
theorem dX9_sortOf_32 : decode cX9_sortOf 32 = .ok (.iconst 0, 1) := by decide +kernel
theorem dX9_sortOf_33 : decode cX9_sortOf 33 = .ok (.goto 4, 3) := by decide +kernel
theorem dX9_sortOf_36 : decode cX9_sortOf 36 = .ok (.iconst 3, 1) := by decide +kernel
theorem dX9_sortOf_37 : decode cX9_sortOf 37 = .ok (.ireturn, 1) := by decide +kernel
def t_sortOf (a0 : Int32) (m : M) : Option (Int32) :=
  Option.bind (k_within a0 (97 : Int32) (122 : Int32) m) (fun v1 => (if v1 = 0 then Option.bind (k_within a0 (48 : Int32) (57 : Int32) m) (fun v2 => (if v2 = 0 then (if a0 = (32 : Int32) then some (0 : Int32) else some (3 : Int32)) else some (2 : Int32))) else some (1 : Int32)))
set_option maxRecDepth 20000 in
theorem t_t_sortOf {G : GG} {x : Cx} (E : En G x cX9_sortOf "WreckBoard$Tape" 2 (some .int)) (hn : xn x = 1) (a0 : Int32) (m : M) : Sm G x 0 [(0, .int a0)] [] m (t_sortOf a0 m) (KRi m) := by
  unfold t_sortOf
  refine s_iload_n 0 E dX9_sortOf_0 rfl rfl ?_
  refine s_bipush (v := (97 : Int32)) E dX9_sortOf_1 (by decide) ?_
  refine s_bipush (v := (122 : Int32)) E dX9_sortOf_3 (by decide) ?_
  refine s_bd (fun v1 hz => ?_)
  refine s_cSN (rest := []) (host := "WreckBoard") E (C_k_within (xl x) G a0 (97 : Int32) (122 : Int32) m hz) mdX11_within (by decide) W405 W91 W406 rfl rfl (Nat.le_of_ble_eq_true rfl) ⟨by decide, by decide⟩ dX9_sortOf_5 ?_
  refine s_if_eq 13 E dX9_sortOf_8 (by decide) ?_ ?_
  · refine s_iload_n 0 E dX9_sortOf_13 rfl rfl ?_
    refine s_bipush (v := (48 : Int32)) E dX9_sortOf_14 (by decide) ?_
    refine s_bipush (v := (57 : Int32)) E dX9_sortOf_16 (by decide) ?_
    refine s_bd (fun v2 hz => ?_)
    refine s_cSN (rest := []) (host := "WreckBoard") E (C_k_within (xl x) G a0 (48 : Int32) (57 : Int32) m hz) mdX11_within (by decide) W405 W91 W406 rfl rfl (Nat.le_of_ble_eq_true rfl) ⟨by decide, by decide⟩ dX9_sortOf_18 ?_
    refine s_if_eq 26 E dX9_sortOf_21 (by decide) ?_ ?_
    · refine s_iload_n 0 E dX9_sortOf_26 rfl rfl ?_
      refine s_bipush (v := (32 : Int32)) E dX9_sortOf_27 (by decide) ?_
      refine s_icmp_ne 36 E dX9_sortOf_29 (by decide) ?_ ?_
      · refine s_iconst (v := (3 : Int32)) E dX9_sortOf_36 (by decide) ?_
        exact s_iret E rfl dX9_sortOf_37
      · refine s_iconst (v := (0 : Int32)) E dX9_sortOf_32 (by decide) ?_
        refine s_goto 37 E dX9_sortOf_33 (by decide) ?_
        exact s_iret E rfl dX9_sortOf_37
    · refine s_iconst (v := (2 : Int32)) E dX9_sortOf_24 (by decide) ?_
      exact s_iret E rfl dX9_sortOf_25
  · refine s_iconst (v := (1 : Int32)) E dX9_sortOf_11 (by decide) ?_
    exact s_iret E rfl dX9_sortOf_12
set_option maxRecDepth 20000 in
theorem C_t_sortOf (l : Launch) (G : GG) (a0 : Int32) (m : M) {z : Int32} (hz : t_sortOf a0 m = some z) : Ct l G yX9_sortOf cX9_sortOf 1 (some .int) 2 [.int a0] m (some (.int z)) m :=
  ct_of (K := (KRi m)) (by decide) (Nat.le_of_ble_eq_true rfl) (congrArg (fun q => Option.bind q _) hz) (fun x hl hn E => (t_t_sortOf E hn a0 m))
theorem mdX9_sortOf : mdq yX9_sortOf 1 := ⟨by decide, by decide, by decide +kernel⟩
theorem dX9_beginsAt_0 : decode cX9_beginsAt 0 = .ok (.aload_n 0, 1) := by decide +kernel
theorem dX9_beginsAt_1 : decode cX9_beginsAt 1 = .ok (.getfield 11, 3) := by decide +kernel
theorem dX9_beginsAt_4 : decode cX9_beginsAt 4 = .ok (.iload_n 1, 1) := by decide +kernel
theorem dX9_beginsAt_5 : decode cX9_beginsAt 5 = .ok (.iaload, 1) := by decide +kernel
theorem dX9_beginsAt_6 : decode cX9_beginsAt 6 = .ok (.invokestatic 48, 3) := by decide +kernel
theorem dX9_beginsAt_9 : decode cX9_beginsAt 9 = .ok (.istore_n 2, 1) := by decide +kernel
theorem dX9_beginsAt_10 : decode cX9_beginsAt 10 = .ok (.iload_n 2, 1) := by decide +kernel
theorem dX9_beginsAt_11 : decode cX9_beginsAt 11 = .ok (.ifCond .ne 5, 3) := by decide +kernel
theorem dX9_beginsAt_14 : decode cX9_beginsAt 14 = .ok (.iconst 0, 1) := by decide +kernel
theorem dX9_beginsAt_15 : decode cX9_beginsAt 15 = .ok (.ireturn, 1) := by decide +kernel
theorem dX9_beginsAt_16 : decode cX9_beginsAt 16 = .ok (.iload_n 2, 1) := by decide +kernel
theorem dX9_beginsAt_17 : decode cX9_beginsAt 17 = .ok (.iconst 3, 1) := by decide +kernel
theorem dX9_beginsAt_18 : decode cX9_beginsAt 18 = .ok (.if_icmp .eq 22, 3) := by decide +kernel
theorem dX9_beginsAt_21 : decode cX9_beginsAt 21 = .ok (.iload_n 1, 1) := by decide +kernel
theorem dX9_beginsAt_22 : decode cX9_beginsAt 22 = .ok (.ifCond .eq 18, 3) := by decide +kernel
theorem dX9_beginsAt_25 : decode cX9_beginsAt 25 = .ok (.aload_n 0, 1) := by decide +kernel
theorem dX9_beginsAt_26 : decode cX9_beginsAt 26 = .ok (.getfield 11, 3) := by decide +kernel
theorem dX9_beginsAt_29 : decode cX9_beginsAt 29 = .ok (.iload_n 1, 1) := by decide +kernel
theorem dX9_beginsAt_30 : decode cX9_beginsAt 30 = .ok (.iconst 1, 1) := by decide +kernel
theorem dX9_beginsAt_31 : decode cX9_beginsAt 31 = .ok (.isub, 1) := by decide +kernel
theorem dX9_beginsAt_32 : decode cX9_beginsAt 32 = .ok (.iaload, 1) := by decide +kernel
theorem dX9_beginsAt_33 : decode cX9_beginsAt 33 = .ok (.invokestatic 48, 3) := by decide +kernel
theorem dX9_beginsAt_36 : decode cX9_beginsAt 36 = .ok (.iload_n 2, 1) := by decide +kernel
theorem dX9_beginsAt_37 : decode cX9_beginsAt 37 = .ok (.if_icmp .eq 7, 3) := by decide +kernel
theorem dX9_beginsAt_40 : decode cX9_beginsAt 40 = .ok (.iconst 1, 1) := by decide +kernel
theorem dX9_beginsAt_41 : decode cX9_beginsAt 41 = .ok (.goto 4, 3) := by decide +kernel
theorem dX9_beginsAt_44 : decode cX9_beginsAt 44 = .ok (.iconst 0, 1) := by decide +kernel
theorem dX9_beginsAt_45 : decode cX9_beginsAt 45 = .ok (.ireturn, 1) := by decide +kernel
def t_beginsAt (a1 : Int32) (m : M) : Option (Int32) :=
  Option.bind (rdI m 46 a1) (fun v1 => Option.bind (t_sortOf v1 m) (fun v2 => (if v2 = 0 then some (0 : Int32) else (if v2 = (3 : Int32) then some (1 : Int32) else (if a1 = 0 then some (1 : Int32) else Option.bind (rdI m 46 (a1 - (1 : Int32))) (fun v3 => Option.bind (t_sortOf v3 m) (fun v4 => (if v4 = v2 then some (0 : Int32) else some (1 : Int32)))))))))
set_option maxRecDepth 20000 in
theorem t_t_beginsAt {G : GG} {x : Cx} (E : En G x cX9_beginsAt "WreckBoard$Tape" 3 (some .boolean)) (hn : xn x = 3) (a1 : Int32) (m : M) : Sm G x 0 [(0, .ref (G.2.1 7)), (1, .int a1)] [] m (t_beginsAt a1 m) (KRi m) := by
  unfold t_beginsAt
  refine s_aload_n 0 E dX9_beginsAt_0 rfl rfl ?_
  refine s_getr (k := 1) (T := TX9) 7 E rfl rfl rfl inX9 (by decide) W311 dX9_beginsAt_1 ?_
  refine s_iload_n 1 E dX9_beginsAt_4 rfl rfl ?_
  refine s_iald E dX9_beginsAt_5 (fun v1 => ?_)
  refine s_bd (fun v2 hz => ?_)
  refine s_cS (rest := []) E (C_t_sortOf (xl x) G v1 m hz) mdX9_sortOf W611 W612 W101 W613 rfl rfl (Nat.le_of_ble_eq_true rfl) ⟨by decide, by decide⟩ dX9_beginsAt_6 ?_
  refine s_istore_n (lv' := [(0, .ref (G.2.1 7)), (1, .int a1), (2, .int v2)]) [1, 2, 0] E dX9_beginsAt_9 rfl (by rw [hn]; decide) rfl ?_
  refine s_iload_n 2 E dX9_beginsAt_10 rfl rfl ?_
  refine s_if_ne 16 E dX9_beginsAt_11 (by decide) ?_ ?_
  · refine s_iload_n 2 E dX9_beginsAt_16 rfl rfl ?_
    refine s_iconst (v := (3 : Int32)) E dX9_beginsAt_17 (by decide) ?_
    refine s_icmp_eq 40 E dX9_beginsAt_18 (by decide) ?_ ?_
    · refine s_iconst (v := (1 : Int32)) E dX9_beginsAt_40 (by decide) ?_
      refine s_goto 45 E dX9_beginsAt_41 (by decide) ?_
      exact s_zret E (by decide) rfl dX9_beginsAt_45
    · refine s_iload_n 1 E dX9_beginsAt_21 rfl rfl ?_
      refine s_if_eq 40 E dX9_beginsAt_22 (by decide) ?_ ?_
      · refine s_iconst (v := (1 : Int32)) E dX9_beginsAt_40 (by decide) ?_
        refine s_goto 45 E dX9_beginsAt_41 (by decide) ?_
        exact s_zret E (by decide) rfl dX9_beginsAt_45
      · refine s_aload_n 0 E dX9_beginsAt_25 rfl rfl ?_
        refine s_getr (k := 1) (T := TX9) 7 E rfl rfl rfl inX9 (by decide) W311 dX9_beginsAt_26 ?_
        refine s_iload_n 1 E dX9_beginsAt_29 rfl rfl ?_
        refine s_iconst (v := (1 : Int32)) E dX9_beginsAt_30 (by decide) ?_
        refine s_isub E dX9_beginsAt_31 ?_
        refine s_iald E dX9_beginsAt_32 (fun v3 => ?_)
        refine s_bd (fun v4 hz => ?_)
        refine s_cS (rest := []) E (C_t_sortOf (xl x) G v3 m hz) mdX9_sortOf W611 W612 W101 W613 rfl rfl (Nat.le_of_ble_eq_true rfl) ⟨by decide, by decide⟩ dX9_beginsAt_33 ?_
        refine s_iload_n 2 E dX9_beginsAt_36 rfl rfl ?_
        refine s_icmp_eq 44 E dX9_beginsAt_37 (by decide) ?_ ?_
        · refine s_iconst (v := (0 : Int32)) E dX9_beginsAt_44 (by decide) ?_
          exact s_zret E (by decide) rfl dX9_beginsAt_45
        · refine s_iconst (v := (1 : Int32)) E dX9_beginsAt_40 (by decide) ?_
          refine s_goto 45 E dX9_beginsAt_41 (by decide) ?_
          exact s_zret E (by decide) rfl dX9_beginsAt_45
  · refine s_iconst (v := (0 : Int32)) E dX9_beginsAt_14 (by decide) ?_
    exact s_zret E (by decide) rfl dX9_beginsAt_15
set_option maxRecDepth 20000 in
theorem C_t_beginsAt (l : Launch) (G : GG) (a1 : Int32) (m : M) {z : Int32} (hz : t_beginsAt a1 m = some z) : Ct l G yX9_beginsAt cX9_beginsAt 3 (some .boolean) 3 [.ref (G.2.1 7), .int a1] m (some (.int z)) m :=
  ct_of (K := (KRi m)) (by decide) (Nat.le_of_ble_eq_true rfl) (congrArg (fun q => Option.bind q _) hz) (fun x hl hn E => (t_t_beginsAt E hn a1 m))
theorem mdX9_beginsAt : mdq yX9_beginsAt 1 := ⟨by decide, by decide, by decide +kernel⟩
theorem dJ0_coder_7d493_0 : decode cJ0_coder_7d493 0 = .ok (.getstatic 38, 3) := by decide +kernel
theorem dJ0_coder_7d493_3 : decode cJ0_coder_7d493 3 = .ok (.ifCond .eq 10, 3) := by decide +kernel
theorem dJ0_coder_7d493_6 : decode cJ0_coder_7d493 6 = .ok (.aload_n 0, 1) := by decide +kernel
theorem dJ0_coder_7d493_7 : decode cJ0_coder_7d493 7 = .ok (.getfield 15, 3) := by decide +kernel
theorem dJ0_coder_7d493_10 : decode cJ0_coder_7d493 10 = .ok (.goto 4, 3) := by decide +kernel
theorem dJ0_coder_7d493_13 : decode cJ0_coder_7d493 13 = .ok (.iconst 1, 1) := by decide +kernel
theorem dJ0_coder_7d493_14 : decode cJ0_coder_7d493 14 = .ok (.ireturn, 1) := by decide +kernel
def s_coder  (m : M) : Option (Int32) :=
  (if (1 : Int32) = 0 then some (1 : Int32) else some (0 : Int32))
set_option maxRecDepth 20000 in
theorem t_s_coder {G : GG} {x : Cx} (E : En G x cJ0_coder_7d493 "java/lang/String" 1 (some .byte)) (hn : xn x = 1)  (m : M) : Sm G x 0 [(0, .ref (G.2.1 210))] [] m (s_coder m) (KRi m) := by
  unfold s_coder
  refine s_getCS E W632 dJ0_coder_7d493_0 ?_
  refine s_if_eq 13 E dJ0_coder_7d493_3 (by decide) ?_ ?_
  · refine s_iconst (v := (1 : Int32)) E dJ0_coder_7d493_13 (by decide) ?_
    exact s_nret (u := (1 : Int32)) E (by decide) rfl dJ0_coder_7d493_14
  · refine s_aload_n 0 E dJ0_coder_7d493_6 rfl rfl ?_
    refine s_strc 0 (by decide) E W1869 dJ0_coder_7d493_7 ?_
    refine s_goto 14 E dJ0_coder_7d493_10 (by decide) ?_
    exact s_nret (u := (0 : Int32)) E (by decide) rfl dJ0_coder_7d493_14
set_option maxRecDepth 20000 in
theorem C_s_coder (l : Launch) (G : GG)  (m : M) {z : Int32} (hz : s_coder m = some z) : Ct l G yJ0_coder_7d493 cJ0_coder_7d493 1 (some .byte) 1 [.ref (G.2.1 210)] m (some (.int z)) m :=
  ct_of (K := (KRi m)) (by decide) (Nat.le_of_ble_eq_true rfl) (congrArg (fun q => Option.bind q _) hz) (fun x hl hn E => (t_s_coder E hn  m))
theorem mdJ0_coder_7d493 : mdq yJ0_coder_7d493 0 := ⟨by decide, by decide, by decide +kernel⟩
theorem dJ0_length_8abf5_0 : decode cJ0_length_8abf5 0 = .ok (.aload_n 0, 1) := by decide +kernel
theorem dJ0_length_8abf5_1 : decode cJ0_length_8abf5 1 = .ok (.getfield 9, 3) := by decide +kernel
theorem dJ0_length_8abf5_4 : decode cJ0_length_8abf5 4 = .ok (.arraylength, 1) := by decide +kernel
theorem dJ0_length_8abf5_5 : decode cJ0_length_8abf5 5 = .ok (.aload_n 0, 1) := by decide +kernel
theorem dJ0_length_8abf5_6 : decode cJ0_length_8abf5 6 = .ok (.invokevirtual 335, 3) := by decide +kernel
theorem dJ0_length_8abf5_9 : decode cJ0_length_8abf5 9 = .ok (.ishr, 1) := by decide +kernel
theorem dJ0_length_8abf5_10 : decode cJ0_length_8abf5 10 = .ok (.ireturn, 1) := by decide +kernel
def s_length  (m : M) : Option (Int32) :=
  Option.bind (s_coder m) (fun v1 => some ((96 : Int32) >>> (v1 &&& 31)))
set_option maxRecDepth 20000 in
theorem t_s_length {G : GG} {x : Cx} (E : En G x cJ0_length_8abf5 "java/lang/String" 2 (some .int)) (hn : xn x = 1)  (m : M) : Sm G x 0 [(0, .ref (G.2.1 210))] [] m (s_length m) (KRi m) := by
  unfold s_length
  refine s_aload_n 0 E dJ0_length_8abf5_0 rfl rfl ?_
  refine s_strv 0 (by decide) E W1870 dJ0_length_8abf5_1 ?_
  refine s_strl (v := (96 : Int32)) 0 (by decide) (by decide) E dJ0_length_8abf5_4 ?_
  refine s_aload_n 0 E dJ0_length_8abf5_5 rfl rfl ?_
  refine s_bd (fun v1 hz => ?_)
  refine s_cT (rest := [.int (96 : Int32)]) 0 (by decide) E (C_s_coder (xl x) G  m hz) mdJ0_coder_7d493 W638 W639 W640 W105 W641 rfl rfl (Nat.le_of_ble_eq_true rfl) ⟨by decide, by decide⟩ dJ0_length_8abf5_6 ?_
  refine s_ishr E dJ0_length_8abf5_9 ?_
  exact s_iret E rfl dJ0_length_8abf5_10
set_option maxRecDepth 20000 in
theorem C_s_length (l : Launch) (G : GG)  (m : M) {z : Int32} (hz : s_length m = some z) : Ct l G yJ0_length_8abf5 cJ0_length_8abf5 1 (some .int) 2 [.ref (G.2.1 210)] m (some (.int z)) m :=
  ct_of (K := (KRi m)) (by decide) (Nat.le_of_ble_eq_true rfl) (congrArg (fun q => Option.bind q _) hz) (fun x hl hn E => (t_s_length E hn  m))
theorem mdJ0_length_8abf5 : mdq yJ0_length_8abf5 0 := ⟨by decide, by decide, by decide +kernel⟩
theorem dJ0_isLatin1_aae02_0 : decode cJ0_isLatin1_aae02 0 = .ok (.getstatic 38, 3) := by decide +kernel
theorem dJ0_isLatin1_aae02_3 : decode cJ0_isLatin1_aae02 3 = .ok (.ifCond .eq 14, 3) := by decide +kernel
theorem dJ0_isLatin1_aae02_6 : decode cJ0_isLatin1_aae02 6 = .ok (.aload_n 0, 1) := by decide +kernel
theorem dJ0_isLatin1_aae02_7 : decode cJ0_isLatin1_aae02 7 = .ok (.getfield 15, 3) := by decide +kernel
theorem dJ0_isLatin1_aae02_10 : decode cJ0_isLatin1_aae02 10 = .ok (.ifCond .ne 7, 3) := by decide +kernel
theorem dJ0_isLatin1_aae02_13 : decode cJ0_isLatin1_aae02 13 = .ok (.iconst 1, 1) := by decide +kernel
theorem dJ0_isLatin1_aae02_14 : decode cJ0_isLatin1_aae02 14 = .ok (.goto 4, 3) := by decide +kernel
theorem dJ0_isLatin1_aae02_17 : decode cJ0_isLatin1_aae02 17 = .ok (.iconst 0, 1) := by decide +kernel
theorem dJ0_isLatin1_aae02_18 : decode cJ0_isLatin1_aae02 18 = .ok (.ireturn, 1) := by decide +kernel
def s_isLatin1  (m : M) : Option (Int32) :=
  (if (1 : Int32) = 0 then some (0 : Int32) else (if (0 : Int32) = 0 then some (1 : Int32) else some (0 : Int32)))
set_option maxRecDepth 20000 in
theorem t_s_isLatin1 {G : GG} {x : Cx} (E : En G x cJ0_isLatin1_aae02 "java/lang/String" 1 (some .boolean)) (hn : xn x = 1)  (m : M) : Sm G x 0 [(0, .ref (G.2.1 210))] [] m (s_isLatin1 m) (KRi m) := by
  unfold s_isLatin1
  refine s_getCS E W632 dJ0_isLatin1_aae02_0 ?_
  refine s_if_eq 17 E dJ0_isLatin1_aae02_3 (by decide) ?_ ?_
  · refine s_iconst (v := (0 : Int32)) E dJ0_isLatin1_aae02_17 (by decide) ?_
    exact s_zret E (by decide) rfl dJ0_isLatin1_aae02_18
  · refine s_aload_n 0 E dJ0_isLatin1_aae02_6 rfl rfl ?_
    refine s_strc 0 (by decide) E W1869 dJ0_isLatin1_aae02_7 ?_
    refine s_if_ne 17 E dJ0_isLatin1_aae02_10 (by decide) ?_ ?_
    · refine s_iconst (v := (0 : Int32)) E dJ0_isLatin1_aae02_17 (by decide) ?_
      exact s_zret E (by decide) rfl dJ0_isLatin1_aae02_18
    · refine s_iconst (v := (1 : Int32)) E dJ0_isLatin1_aae02_13 (by decide) ?_
      refine s_goto 18 E dJ0_isLatin1_aae02_14 (by decide) ?_
      exact s_zret E (by decide) rfl dJ0_isLatin1_aae02_18
set_option maxRecDepth 20000 in
theorem C_s_isLatin1 (l : Launch) (G : GG)  (m : M) {z : Int32} (hz : s_isLatin1 m = some z) : Ct l G yJ0_isLatin1_aae02 cJ0_isLatin1_aae02 1 (some .boolean) 1 [.ref (G.2.1 210)] m (some (.int z)) m :=
  ct_of (K := (KRi m)) (by decide) (Nat.le_of_ble_eq_true rfl) (congrArg (fun q => Option.bind q _) hz) (fun x hl hn E => (t_s_isLatin1 E hn  m))
theorem mdJ0_isLatin1_aae02 : mdq yJ0_isLatin1_aae02 0 := ⟨by decide, by decide, by decide +kernel⟩
theorem dJ3_checkIndex_8e157_0 : decode cJ3_checkIndex_8e157 0 = .ok (.iload_n 0, 1) := by decide +kernel
theorem dJ3_checkIndex_8e157_1 : decode cJ3_checkIndex_8e157 1 = .ok (.ifCond .lt 8, 3) := by decide +kernel
theorem dJ3_checkIndex_8e157_4 : decode cJ3_checkIndex_8e157 4 = .ok (.iload_n 0, 1) := by decide +kernel
theorem dJ3_checkIndex_8e157_5 : decode cJ3_checkIndex_8e157 5 = .ok (.iload_n 1, 1) := by decide +kernel
theorem dJ3_checkIndex_8e157_6 : decode cJ3_checkIndex_8e157 6 = .ok (.if_icmp .lt 10, 3) := by decide +kernel
theorem dJ3_checkIndex_8e157_9 : decode cJ3_checkIndex_8e157 9 = .ok (.aload_n 2, 1) := by decide +kernel
theorem dJ3_checkIndex_8e157_10 : decode cJ3_checkIndex_8e157 10 = .ok (.iload_n 0, 1) := by decide +kernel
theorem dJ3_checkIndex_8e157_11 : decode cJ3_checkIndex_8e157 11 = .ok (.iload_n 1, 1) := by decide +kernel
theorem dJ3_checkIndex_8e157_12 : decode cJ3_checkIndex_8e157 12 = .ok (.invokestatic 95, 3) := by decide +kernel
theorem dJ3_checkIndex_8e157_15 : decode cJ3_checkIndex_8e157 15 = .ok (.athrow, 1) := by decide +kernel
theorem dJ3_checkIndex_8e157_16 : decode cJ3_checkIndex_8e157 16 = .ok (.iload_n 0, 1) := by decide +kernel
theorem dJ3_checkIndex_8e157_17 : decode cJ3_checkIndex_8e157 17 = .ok (.ireturn, 1) := by decide +kernel
def q_checkIndex_9 (a0 : Int32) (a1 : Int32) (m : M) : Option (Int32) :=
  none
set_option maxRecDepth 20000 in
theorem t_q_checkIndex_9 {G : GG} {x : Cx} (E : En G x cJ3_checkIndex_8e157 "jdk/internal/util/Preconditions" 1 (some .int)) (hn : xn x = 3) (a0 : Int32) (a1 : Int32) (m : M) : Sm G x 9 [(0, .int a0), (1, .int a1)] [] m (q_checkIndex_9 a0 a1 m) (KRi m) := by
  unfold q_checkIndex_9
  exact s_none
def q_checkIndex (a0 : Int32) (a1 : Int32) (m : M) : Option (Int32) :=
  (if a0 < 0 then q_checkIndex_9 a0 a1 m else (if a0 < a1 then some a0 else q_checkIndex_9 a0 a1 m))
set_option maxRecDepth 20000 in
theorem t_q_checkIndex {G : GG} {x : Cx} (E : En G x cJ3_checkIndex_8e157 "jdk/internal/util/Preconditions" 1 (some .int)) (hn : xn x = 3) (a0 : Int32) (a1 : Int32) (m : M) : Sm G x 0 [(0, .int a0), (1, .int a1)] [] m (q_checkIndex a0 a1 m) (KRi m) := by
  unfold q_checkIndex
  refine s_iload_n 0 E dJ3_checkIndex_8e157_0 rfl rfl ?_
  refine s_if_lt 9 E dJ3_checkIndex_8e157_1 (by decide) ?_ ?_
  · exact t_q_checkIndex_9 E hn a0 a1 m
  · refine s_iload_n 0 E dJ3_checkIndex_8e157_4 rfl rfl ?_
    refine s_iload_n 1 E dJ3_checkIndex_8e157_5 rfl rfl ?_
    refine s_icmp_lt 16 E dJ3_checkIndex_8e157_6 (by decide) ?_ ?_
    · refine s_iload_n 0 E dJ3_checkIndex_8e157_16 rfl rfl ?_
      exact s_iret E rfl dJ3_checkIndex_8e157_17
    · exact t_q_checkIndex_9 E hn a0 a1 m
set_option maxRecDepth 20000 in
theorem C_q_checkIndex (l : Launch) (G : GG) (a0 : Int32) (a1 : Int32) (a2 : Value) (hw : Value.category a2 = 1) (m : M) {z : Int32} (hz : q_checkIndex a0 a1 m = some z) : Ct l G yJ3_checkIndex_8e157 cJ3_checkIndex_8e157 3 (some .int) 1 [.int a0, .int a1, a2] m (some (.int z)) m := by
  cases a2 <;> first | (exfalso; simp [Value.category] at hw; done) | exact ct_of (K := (KRi m)) (by decide) (Nat.le_of_ble_eq_true rfl) (congrArg (fun q => Option.bind q _) hz) (fun x hl hn E => s_sub [0, 1] rfl (t_q_checkIndex E hn a0 a1 m))
theorem mdJ3_checkIndex_8e157 : mdq yJ3_checkIndex_8e157 3 := ⟨by decide, by decide, by decide +kernel⟩
theorem dJ0_checkIndex_df160_0 : decode cJ0_checkIndex_df160 0 = .ok (.iload_n 0, 1) := by decide +kernel
theorem dJ0_checkIndex_df160_1 : decode cJ0_checkIndex_df160 1 = .ok (.iload_n 1, 1) := by decide +kernel
theorem dJ0_checkIndex_df160_2 : decode cJ0_checkIndex_df160 2 = .ok (.getstatic 1053, 3) := by decide +kernel
theorem dJ0_checkIndex_df160_5 : decode cJ0_checkIndex_df160 5 = .ok (.invokestatic 1059, 3) := by decide +kernel
theorem dJ0_checkIndex_df160_8 : decode cJ0_checkIndex_df160 8 = .ok (.pop, 1) := by decide +kernel
theorem dJ0_checkIndex_df160_9 : decode cJ0_checkIndex_df160 9 = .ok (.return_, 1) := by decide +kernel
def s_checkIndex (a0 : Int32) (a1 : Int32) (m : M) : Option (Unit) :=
  Option.bind (q_checkIndex a0 a1 m) (fun v2 => some ())
set_option maxRecDepth 20000 in
theorem t_s_checkIndex {G : GG} {x : Cx} (E : En G x cJ0_checkIndex_df160 "java/lang/String" 2 none) (hn : xn x = 2) (a0 : Int32) (a1 : Int32) (m : M) : Sm G x 0 [(0, .int a0), (1, .int a1)] [] m (s_checkIndex a0 a1 m) (KRv m) := by
  unfold s_checkIndex
  refine s_iload_n 0 E dJ0_checkIndex_df160_0 rfl rfl ?_
  refine s_iload_n 1 E dJ0_checkIndex_df160_1 rfl rfl ?_
  refine s_getSI E W671 dJ0_checkIndex_df160_2 (fun y1 hw => ?_)
  refine s_bd (fun v2 hz => ?_)
  refine s_cS (rest := []) E (C_q_checkIndex (xl x) G a0 a1 y1 hw m hz) mdJ3_checkIndex_8e157 W722 W723 W108 W724 rfl rfl (Nat.le_of_ble_eq_true rfl) ⟨by decide, by decide⟩ dJ0_checkIndex_df160_5 ?_
  refine s_pop E dJ0_checkIndex_df160_8 rfl ?_
  exact s_vret E rfl dJ0_checkIndex_df160_9
set_option maxRecDepth 20000 in
theorem C_s_checkIndex (l : Launch) (G : GG) (a0 : Int32) (a1 : Int32) (m : M) {z : Unit} (hz : s_checkIndex a0 a1 m = some z) : Ct l G yJ0_checkIndex_df160 cJ0_checkIndex_df160 2 none 2 [.int a0, .int a1] m none m :=
  ct_of (K := (KRv m)) (by decide) (Nat.le_of_ble_eq_true rfl) (congrArg (fun q => Option.bind q _) hz) (fun x hl hn E => (t_s_checkIndex E hn a0 a1 m))
theorem mdJ0_checkIndex_df160 : mdq yJ0_checkIndex_df160 2 := ⟨by decide, by decide, by decide +kernel⟩
theorem dJ1_charAt_3b067_0 : decode cJ1_charAt_3b067 0 = .ok (.iload_n 1, 1) := by decide +kernel
theorem dJ1_charAt_3b067_1 : decode cJ1_charAt_3b067 1 = .ok (.aload_n 0, 1) := by decide +kernel
theorem dJ1_charAt_3b067_2 : decode cJ1_charAt_3b067 2 = .ok (.arraylength, 1) := by decide +kernel
theorem dJ1_charAt_3b067_3 : decode cJ1_charAt_3b067 3 = .ok (.invokestatic 9, 3) := by decide +kernel
theorem dJ1_charAt_3b067_6 : decode cJ1_charAt_3b067 6 = .ok (.aload_n 0, 1) := by decide +kernel
theorem dJ1_charAt_3b067_7 : decode cJ1_charAt_3b067 7 = .ok (.iload_n 1, 1) := by decide +kernel
theorem dJ1_charAt_3b067_8 : decode cJ1_charAt_3b067 8 = .ok (.baload, 1) := by decide +kernel
theorem dJ1_charAt_3b067_9 : decode cJ1_charAt_3b067 9 = .ok (.sipush 255, 3) := by decide +kernel
theorem dJ1_charAt_3b067_12 : decode cJ1_charAt_3b067 12 = .ok (.iand, 1) := by decide +kernel
theorem dJ1_charAt_3b067_13 : decode cJ1_charAt_3b067 13 = .ok (.i2c, 1) := by decide +kernel
theorem dJ1_charAt_3b067_14 : decode cJ1_charAt_3b067 14 = .ok (.ireturn, 1) := by decide +kernel
def l_charAt (a1 : Int32) (m : M) : Option (Int32) :=
  Option.bind (s_checkIndex a1 (96 : Int32) m) (fun _ => Option.bind (rdK txtNames a1) (fun v2 => some (UInt32.toInt32 (UInt16.toUInt32 (UInt32.toUInt16 (Int32.toUInt32 (UInt32.toInt32 (Int32.toUInt32 (v2 &&& (255 : Int32)) % 65536))))))))
set_option maxRecDepth 20000 in
theorem t_l_charAt {G : GG} {x : Cx} (E : En G x cJ1_charAt_3b067 "java/lang/StringLatin1" 3 (some .char)) (hn : xn x = 2) (a1 : Int32) (m : M) : Sm G x 0 [(0, .ref (G.2.1 220)), (1, .int a1)] [] m (l_charAt a1 m) (KRi m) := by
  unfold l_charAt
  refine s_iload_n 1 E dJ1_charAt_3b067_0 rfl rfl ?_
  refine s_aload_n 0 E dJ1_charAt_3b067_1 rfl rfl ?_
  refine s_strl (v := (96 : Int32)) 0 (by decide) (by decide) E dJ1_charAt_3b067_2 ?_
  refine s_bd (fun z1 hz => ?_)
  refine s_cS (rest := []) E (C_s_checkIndex (xl x) G a1 (96 : Int32) m hz) mdJ0_checkIndex_df160 W719 W720 W105 W721 rfl rfl (Nat.le_of_ble_eq_true rfl) ⟨by decide, by decide⟩ dJ1_charAt_3b067_3 ?_
  refine s_aload_n 0 E dJ1_charAt_3b067_6 rfl rfl ?_
  refine s_iload_n 1 E dJ1_charAt_3b067_7 rfl rfl ?_
  refine s_strb 0 (by decide) rfl rfl E dJ1_charAt_3b067_8 (fun v2 => ?_)
  refine s_sipush (v := (255 : Int32)) E dJ1_charAt_3b067_9 (by decide) ?_
  refine s_iand E dJ1_charAt_3b067_12 ?_
  refine s_i2c E dJ1_charAt_3b067_13 ?_
  exact s_nret E rfl rfl dJ1_charAt_3b067_14
set_option maxRecDepth 20000 in
theorem C_l_charAt (l : Launch) (G : GG) (a1 : Int32) (m : M) {z : Int32} (hz : l_charAt a1 m = some z) : Ct l G yJ1_charAt_3b067 cJ1_charAt_3b067 2 (some .char) 3 [.ref (G.2.1 220), .int a1] m (some (.int z)) m :=
  ct_of (K := (KRi m)) (by decide) (Nat.le_of_ble_eq_true rfl) (congrArg (fun q => Option.bind q _) hz) (fun x hl hn E => (t_l_charAt E hn a1 m))
theorem mdJ1_charAt_3b067 : mdq yJ1_charAt_3b067 2 := ⟨by decide, by decide, by decide +kernel⟩
theorem dJ0_charAt_5068e_0 : decode cJ0_charAt_5068e 0 = .ok (.aload_n 0, 1) := by decide +kernel
theorem dJ0_charAt_5068e_1 : decode cJ0_charAt_5068e 1 = .ok (.invokevirtual 492, 3) := by decide +kernel
theorem dJ0_charAt_5068e_4 : decode cJ0_charAt_5068e 4 = .ok (.ifCond .eq 12, 3) := by decide +kernel
theorem dJ0_charAt_5068e_7 : decode cJ0_charAt_5068e 7 = .ok (.aload_n 0, 1) := by decide +kernel
theorem dJ0_charAt_5068e_8 : decode cJ0_charAt_5068e 8 = .ok (.getfield 9, 3) := by decide +kernel
theorem dJ0_charAt_5068e_11 : decode cJ0_charAt_5068e 11 = .ok (.iload_n 1, 1) := by decide +kernel
theorem dJ0_charAt_5068e_12 : decode cJ0_charAt_5068e 12 = .ok (.invokestatic 495, 3) := by decide +kernel
theorem dJ0_charAt_5068e_15 : decode cJ0_charAt_5068e 15 = .ok (.ireturn, 1) := by decide +kernel
theorem dJ0_charAt_5068e_16 : decode cJ0_charAt_5068e 16 = .ok (.aload_n 0, 1) := by decide +kernel
theorem dJ0_charAt_5068e_17 : decode cJ0_charAt_5068e 17 = .ok (.getfield 9, 3) := by decide +kernel
theorem dJ0_charAt_5068e_20 : decode cJ0_charAt_5068e 20 = .ok (.iload_n 1, 1) := by decide +kernel
theorem dJ0_charAt_5068e_21 : decode cJ0_charAt_5068e 21 = .ok (.invokestatic 498, 3) := by decide +kernel
theorem dJ0_charAt_5068e_24 : decode cJ0_charAt_5068e 24 = .ok (.ireturn, 1) := by decide +kernel
def s_charAt (a1 : Int32) (m : M) : Option (Int32) :=
  Option.bind (s_isLatin1 m) (fun v1 => (if v1 = 0 then none else Option.bind (l_charAt a1 m) (fun v2 => some (UInt32.toInt32 (UInt16.toUInt32 (UInt32.toUInt16 (Int32.toUInt32 v2)))))))
set_option maxRecDepth 20000 in
theorem t_s_charAt {G : GG} {x : Cx} (E : En G x cJ0_charAt_5068e "java/lang/String" 4 (some .char)) (hn : xn x = 2) (a1 : Int32) (m : M) : Sm G x 0 [(0, .ref (G.2.1 210)), (1, .int a1)] [] m (s_charAt a1 m) (KRi m) := by
  unfold s_charAt
  refine s_aload_n 0 E dJ0_charAt_5068e_0 rfl rfl ?_
  refine s_bd (fun v1 hz => ?_)
  refine s_cT (rest := []) 0 (by decide) E (C_s_isLatin1 (xl x) G  m hz) mdJ0_isLatin1_aae02 W628 W629 W630 W105 W631 rfl rfl (Nat.le_of_ble_eq_true rfl) ⟨by decide, by decide⟩ dJ0_charAt_5068e_1 ?_
  refine s_if_eq 16 E dJ0_charAt_5068e_4 (by decide) ?_ ?_
  · refine s_aload_n 0 E dJ0_charAt_5068e_16 rfl rfl ?_
    refine s_strv 0 (by decide) E W1870 dJ0_charAt_5068e_17 ?_
    refine s_iload_n 1 E dJ0_charAt_5068e_20 rfl rfl ?_
    exact s_none
  · refine s_aload_n 0 E dJ0_charAt_5068e_7 rfl rfl ?_
    refine s_strv 0 (by decide) E W1870 dJ0_charAt_5068e_8 ?_
    refine s_iload_n 1 E dJ0_charAt_5068e_11 rfl rfl ?_
    refine s_bd (fun v2 hz => ?_)
    refine s_cS (rest := []) E (C_l_charAt (xl x) G a1 m hz) mdJ1_charAt_3b067 W716 W717 W106 W718 rfl rfl (Nat.le_of_ble_eq_true rfl) ⟨by decide, by decide⟩ dJ0_charAt_5068e_12 ?_
    exact s_nret E rfl rfl dJ0_charAt_5068e_15
set_option maxRecDepth 20000 in
theorem C_s_charAt (l : Launch) (G : GG) (a1 : Int32) (m : M) {z : Int32} (hz : s_charAt a1 m = some z) : Ct l G yJ0_charAt_5068e cJ0_charAt_5068e 2 (some .char) 4 [.ref (G.2.1 210), .int a1] m (some (.int z)) m :=
  ct_of (K := (KRi m)) (by decide) (Nat.le_of_ble_eq_true rfl) (congrArg (fun q => Option.bind q _) hz) (fun x hl hn E => (t_s_charAt E hn a1 m))
theorem mdJ0_charAt_5068e : mdq yJ0_charAt_5068e 1 := ⟨by decide, by decide, by decide +kernel⟩
theorem dX9_isName_0 : decode cX9_isName 0 = .ok (.iload_n 1, 1) := by decide +kernel
theorem dX9_isName_1 : decode cX9_isName 1 = .ok (.istore 4, 2) := by decide +kernel
theorem dX9_isName_3 : decode cX9_isName 3 = .ok (.iload 4, 2) := by decide +kernel
theorem dX9_isName_5 : decode cX9_isName 5 = .ok (.iload_n 2, 1) := by decide +kernel
theorem dX9_isName_6 : decode cX9_isName 6 = .ok (.if_icmp .ge 32, 3) := by decide +kernel
theorem dX9_isName_9 : decode cX9_isName 9 = .ok (.ldc 69, 2) := by decide +kernel
theorem dX9_isName_11 : decode cX9_isName 11 = .ok (.iload 4, 2) := by decide +kernel
theorem dX9_isName_13 : decode cX9_isName 13 = .ok (.invokevirtual 75, 3) := by decide +kernel
theorem dX9_isName_16 : decode cX9_isName 16 = .ok (.aload_n 0, 1) := by decide +kernel
theorem dX9_isName_17 : decode cX9_isName 17 = .ok (.getfield 11, 3) := by decide +kernel
theorem dX9_isName_20 : decode cX9_isName 20 = .ok (.iload_n 3, 1) := by decide +kernel
theorem dX9_isName_21 : decode cX9_isName 21 = .ok (.iload 4, 2) := by decide +kernel
theorem dX9_isName_23 : decode cX9_isName 23 = .ok (.iadd, 1) := by decide +kernel
theorem dX9_isName_24 : decode cX9_isName 24 = .ok (.iload_n 1, 1) := by decide +kernel
theorem dX9_isName_25 : decode cX9_isName 25 = .ok (.isub, 1) := by decide +kernel
theorem dX9_isName_26 : decode cX9_isName 26 = .ok (.iaload, 1) := by decide +kernel
theorem dX9_isName_27 : decode cX9_isName 27 = .ok (.if_icmp .eq 5, 3) := by decide +kernel
theorem dX9_isName_30 : decode cX9_isName 30 = .ok (.iconst 0, 1) := by decide +kernel
theorem dX9_isName_31 : decode cX9_isName 31 = .ok (.ireturn, 1) := by decide +kernel
theorem dX9_isName_32 : decode cX9_isName 32 = .ok (.iinc 4 1, 3) := by decide +kernel
theorem dX9_isName_35 : decode cX9_isName 35 = .ok (.goto (-32), 3) := by decide +kernel
theorem dX9_isName_38 : decode cX9_isName 38 = .ok (.iconst 1, 1) := by decide +kernel
theorem dX9_isName_39 : decode cX9_isName 39 = .ok (.ireturn, 1) := by decide +kernel
def t_isName_3b (a1 : Int32) (a2 : Int32) (a3 : Int32) (a4 : Int32) (m : M) : Option ((Int32) ⊕ ((Unit) ⊕ ((Unit)))) :=
  (if a2 ≤ a4 then some (.inr (.inl ())) else Option.bind (s_charAt a4 m) (fun v1 => Option.bind (rdI m 46 ((a3 + a4) - a1)) (fun v2 => (if v1 = v2 then lt (a4 + (1 : Int32)) (fun w3 : Int32 => some (.inl w3)) else some (.inr (.inr ()))))))
set_option maxRecDepth 20000 in
theorem t_t_isName_3b {G : GG} {x : Cx} {K : ((Int32) ⊕ ((Unit) ⊕ ((Unit)))) → Option (Option Value × M)} (E : En G x cX9_isName "WreckBoard$Tape" 5 (some .boolean)) (hn : xn x = 5) (a1 : Int32) (a2 : Int32) (a3 : Int32) (a4 : Int32) (m : M) (hb : ∀ z : Int32, Sm G x 3 [(0, .ref (G.2.1 7)), (1, .int a1), (2, .int a2), (3, .int a3), (4, .int z)] [] m (some (.inl z)) K) (hx0 : ∀ z : Unit, Sm G x 38 [] [] m (some (.inr (.inl z))) K) (hx1 : ∀ z : Unit, Sm G x 30 [] [] m (some (.inr (.inr z))) K) : Sm G x 3 [(0, .ref (G.2.1 7)), (1, .int a1), (2, .int a2), (3, .int a3), (4, .int a4)] [] m (t_isName_3b a1 a2 a3 a4 m) K := by
  unfold t_isName_3b
  refine s_iload 4 E dX9_isName_3 rfl ?_
  refine s_iload_n 2 E dX9_isName_5 rfl rfl ?_
  refine s_icmp_ge 38 E dX9_isName_6 (by decide) ?_ ?_
  · refine s_sub (lv' := []) [] rfl ?_
    exact hx0 ()
  · refine s_ldcN E dX9_isName_9 ?_
    refine s_iload 4 E dX9_isName_11 rfl ?_
    refine s_bd (fun v1 hz => ?_)
    refine s_cT (rest := []) 0 (by decide) E (C_s_charAt (xl x) G a4 m hz) mdJ0_charAt_5068e W712 W713 W714 W105 W715 rfl rfl (Nat.le_of_ble_eq_true rfl) ⟨by decide, by decide⟩ dX9_isName_13 ?_
    refine s_aload_n 0 E dX9_isName_16 rfl rfl ?_
    refine s_getr (k := 1) (T := TX9) 7 E rfl rfl rfl inX9 (by decide) W311 dX9_isName_17 ?_
    refine s_iload_n 3 E dX9_isName_20 rfl rfl ?_
    refine s_iload 4 E dX9_isName_21 rfl ?_
    refine s_iadd E dX9_isName_23 ?_
    refine s_iload_n 1 E dX9_isName_24 rfl rfl ?_
    refine s_isub E dX9_isName_25 ?_
    refine s_iald E dX9_isName_26 (fun v2 => ?_)
    refine s_icmp_eq 32 E dX9_isName_27 (by decide) ?_ ?_
    · refine s_iincL (v := (1 : Int32)) 4 [1, 2, 3, 4, 0] (fun w3 => [(0, .ref (G.2.1 7)), (1, .int a1), (2, .int a2), (3, .int a3), (4, .int w3)]) E dX9_isName_32 rfl (by decide) (by rw [hn]; decide) (fun _ => rfl) (fun w3 => ?_)
      refine s_goto 3 E dX9_isName_35 (by decide) ?_
      exact hb w3
    · refine s_sub (lv' := []) [] rfl ?_
      exact hx1 ()
def t_isName_3 (a1 : Int32) (a2 : Int32) (a3 : Int32) (a4 : Int32) (m : M) : Option (Int32) :=
  Option.bind (iter (fun z => t_isName_3b a1 a2 a3 z m) FU a4) (fun r => (match r with
  | .inl r => some (1 : Int32)
  | .inr r => some (0 : Int32)))
set_option maxRecDepth 20000 in
theorem t_t_isName_3 {G : GG} {x : Cx} (E : En G x cX9_isName "WreckBoard$Tape" 5 (some .boolean)) (hn : xn x = 5) (a1 : Int32) (a2 : Int32) (a3 : Int32) (a4 : Int32) (m : M) : Sm G x 3 [(0, .ref (G.2.1 7)), (1, .int a1), (2, .int a2), (3, .int a3), (4, .int a4)] [] m (t_isName_3 a1 a2 a3 a4 m) (KRi m) := by
  unfold t_isName_3
  refine s_loop (fun z => [(0, .ref (G.2.1 7)), (1, .int a1), (2, .int a2), (3, .int a3), (4, .int z)]) (fun z => m) (fun K2 hb2 hr2 z => ?_) FU a4
  refine t_t_isName_3b (K := K2) E hn a1 a2 a3 z m hb2 (fun r => s_out (hr2 (.inl r)) ?_) (fun r => s_out (hr2 (.inr r)) ?_)
  · refine s_iconst (v := (1 : Int32)) E dX9_isName_38 (by decide) ?_
    exact s_zret E (by decide) rfl dX9_isName_39
  · refine s_iconst (v := (0 : Int32)) E dX9_isName_30 (by decide) ?_
    exact s_zret E (by decide) rfl dX9_isName_31
def t_isName (a1 : Int32) (a2 : Int32) (a3 : Int32) (m : M) : Option (Int32) :=
  t_isName_3 a1 a2 a3 a1 m
set_option maxRecDepth 20000 in
theorem t_t_isName {G : GG} {x : Cx} (E : En G x cX9_isName "WreckBoard$Tape" 5 (some .boolean)) (hn : xn x = 5) (a1 : Int32) (a2 : Int32) (a3 : Int32) (m : M) : Sm G x 0 [(0, .ref (G.2.1 7)), (1, .int a1), (2, .int a2), (3, .int a3)] [] m (t_isName a1 a2 a3 m) (KRi m) := by
  unfold t_isName
  refine s_iload_n 1 E dX9_isName_0 rfl rfl ?_
  refine s_istore (lv' := [(0, .ref (G.2.1 7)), (1, .int a1), (2, .int a2), (3, .int a3), (4, .int a1)]) [1, 2, 3, 4, 0] E dX9_isName_1 (by rw [hn]; decide) rfl ?_
  exact t_t_isName_3 E hn a1 a2 a3 a1 m
set_option maxRecDepth 20000 in
theorem C_t_isName (l : Launch) (G : GG) (a1 : Int32) (a2 : Int32) (a3 : Int32) (m : M) {z : Int32} (hz : t_isName a1 a2 a3 m = some z) : Ct l G yX9_isName cX9_isName 5 (some .boolean) 5 [.ref (G.2.1 7), .int a1, .int a2, .int a3] m (some (.int z)) m :=
  ct_of (K := (KRi m)) (by decide) (Nat.le_of_ble_eq_true rfl) (congrArg (fun q => Option.bind q _) hz) (fun x hl hn E => (t_t_isName E hn a1 a2 a3 m))
theorem mdX9_isName : mdq yX9_isName 3 := ⟨by decide, by decide, by decide +kernel⟩
theorem dX9_nameToken_0 : decode cX9_nameToken 0 = .ok (.iconst 0, 1) := by decide +kernel
theorem dX9_nameToken_1 : decode cX9_nameToken 1 = .ok (.istore_n 3, 1) := by decide +kernel
theorem dX9_nameToken_2 : decode cX9_nameToken 2 = .ok (.iconst 0, 1) := by decide +kernel
theorem dX9_nameToken_3 : decode cX9_nameToken 3 = .ok (.istore 4, 2) := by decide +kernel
theorem dX9_nameToken_5 : decode cX9_nameToken 5 = .ok (.iconst 0, 1) := by decide +kernel
theorem dX9_nameToken_6 : decode cX9_nameToken 6 = .ok (.istore 5, 2) := by decide +kernel
theorem dX9_nameToken_8 : decode cX9_nameToken 8 = .ok (.iload 5, 2) := by decide +kernel
theorem dX9_nameToken_10 : decode cX9_nameToken 10 = .ok (.ldc 69, 2) := by decide +kernel
theorem dX9_nameToken_12 : decode cX9_nameToken 12 = .ok (.invokevirtual 71, 3) := by decide +kernel
theorem dX9_nameToken_15 : decode cX9_nameToken 15 = .ok (.if_icmp .gt 65, 3) := by decide +kernel
theorem dX9_nameToken_18 : decode cX9_nameToken 18 = .ok (.iload 5, 2) := by decide +kernel
theorem dX9_nameToken_20 : decode cX9_nameToken 20 = .ok (.ldc 69, 2) := by decide +kernel
theorem dX9_nameToken_22 : decode cX9_nameToken 22 = .ok (.invokevirtual 71, 3) := by decide +kernel
theorem dX9_nameToken_25 : decode cX9_nameToken 25 = .ok (.if_icmp .eq 15, 3) := by decide +kernel
theorem dX9_nameToken_28 : decode cX9_nameToken 28 = .ok (.ldc 69, 2) := by decide +kernel
theorem dX9_nameToken_30 : decode cX9_nameToken 30 = .ok (.iload 5, 2) := by decide +kernel
theorem dX9_nameToken_32 : decode cX9_nameToken 32 = .ok (.invokevirtual 75, 3) := by decide +kernel
theorem dX9_nameToken_35 : decode cX9_nameToken 35 = .ok (.bipush 32, 2) := by decide +kernel
theorem dX9_nameToken_37 : decode cX9_nameToken 37 = .ok (.if_icmp .ne 37, 3) := by decide +kernel
theorem dX9_nameToken_40 : decode cX9_nameToken 40 = .ok (.iload 5, 2) := by decide +kernel
theorem dX9_nameToken_42 : decode cX9_nameToken 42 = .ok (.iload 4, 2) := by decide +kernel
theorem dX9_nameToken_44 : decode cX9_nameToken 44 = .ok (.isub, 1) := by decide +kernel
theorem dX9_nameToken_45 : decode cX9_nameToken 45 = .ok (.iload_n 2, 1) := by decide +kernel
theorem dX9_nameToken_46 : decode cX9_nameToken 46 = .ok (.iload_n 1, 1) := by decide +kernel
theorem dX9_nameToken_47 : decode cX9_nameToken 47 = .ok (.isub, 1) := by decide +kernel
theorem dX9_nameToken_48 : decode cX9_nameToken 48 = .ok (.if_icmp .ne 17, 3) := by decide +kernel
theorem dX9_nameToken_51 : decode cX9_nameToken 51 = .ok (.aload_n 0, 1) := by decide +kernel
theorem dX9_nameToken_52 : decode cX9_nameToken 52 = .ok (.iload 4, 2) := by decide +kernel
theorem dX9_nameToken_54 : decode cX9_nameToken 54 = .ok (.iload 5, 2) := by decide +kernel
theorem dX9_nameToken_56 : decode cX9_nameToken 56 = .ok (.iload_n 1, 1) := by decide +kernel
theorem dX9_nameToken_57 : decode cX9_nameToken 57 = .ok (.invokevirtual 79, 3) := by decide +kernel
theorem dX9_nameToken_60 : decode cX9_nameToken 60 = .ok (.ifCond .eq 5, 3) := by decide +kernel
theorem dX9_nameToken_63 : decode cX9_nameToken 63 = .ok (.iload_n 3, 1) := by decide +kernel
theorem dX9_nameToken_64 : decode cX9_nameToken 64 = .ok (.ireturn, 1) := by decide +kernel
theorem dX9_nameToken_65 : decode cX9_nameToken 65 = .ok (.iinc 3 1, 3) := by decide +kernel
theorem dX9_nameToken_68 : decode cX9_nameToken 68 = .ok (.iload 5, 2) := by decide +kernel
theorem dX9_nameToken_70 : decode cX9_nameToken 70 = .ok (.iconst 1, 1) := by decide +kernel
theorem dX9_nameToken_71 : decode cX9_nameToken 71 = .ok (.iadd, 1) := by decide +kernel
theorem dX9_nameToken_72 : decode cX9_nameToken 72 = .ok (.istore 4, 2) := by decide +kernel
theorem dX9_nameToken_74 : decode cX9_nameToken 74 = .ok (.iinc 5 1, 3) := by decide +kernel
theorem dX9_nameToken_77 : decode cX9_nameToken 77 = .ok (.goto (-69), 3) := by decide +kernel
theorem dX9_nameToken_80 : decode cX9_nameToken 80 = .ok (.iconst (-1), 1) := by decide +kernel
theorem dX9_nameToken_81 : decode cX9_nameToken 81 = .ok (.ireturn, 1) := by decide +kernel
def t_nameToken_74 (a1 : Int32) (a2 : Int32) (a3 : Int32) (a4 : Int32) (a5 : Int32) (m : M) : Option ((Int32 × Int32 × Int32) ⊕ ((Unit) ⊕ ((Int32)))) :=
  lt (a5 + (1 : Int32)) (fun w1 : Int32 => some (.inl (a3, a4, w1)))
set_option maxRecDepth 20000 in
theorem t_t_nameToken_74 {G : GG} {x : Cx} {K : ((Int32 × Int32 × Int32) ⊕ ((Unit) ⊕ ((Int32)))) → Option (Option Value × M)} (E : En G x cX9_nameToken "WreckBoard$Tape" 6 (some .int)) (hn : xn x = 6) (a1 : Int32) (a2 : Int32) (a3 : Int32) (a4 : Int32) (a5 : Int32) (m : M) (hb : ∀ z : Int32 × Int32 × Int32, Sm G x 8 [(0, .ref (G.2.1 7)), (1, .int a1), (2, .int a2), (3, .int z.1), (4, .int z.2.1), (5, .int z.2.2)] [] m (some (.inl z)) K) (hx0 : ∀ z : Unit, Sm G x 80 [] [] m (some (.inr (.inl z))) K) (hx1 : ∀ z : Int32, Sm G x 63 [(3, .int z)] [] m (some (.inr (.inr z))) K) : Sm G x 74 [(0, .ref (G.2.1 7)), (1, .int a1), (2, .int a2), (3, .int a3), (4, .int a4), (5, .int a5)] [] m (t_nameToken_74 a1 a2 a3 a4 a5 m) K := by
  unfold t_nameToken_74
  refine s_iincL (v := (1 : Int32)) 5 [1, 2, 3, 4, 5, 0] (fun w1 => [(0, .ref (G.2.1 7)), (1, .int a1), (2, .int a2), (3, .int a3), (4, .int a4), (5, .int w1)]) E dX9_nameToken_74 rfl (by decide) (by rw [hn]; decide) (fun _ => rfl) (fun w1 => ?_)
  refine s_goto 8 E dX9_nameToken_77 (by decide) ?_
  exact hb (a3, a4, w1)
def t_nameToken_65 (a1 : Int32) (a2 : Int32) (a3 : Int32) (a5 : Int32) (m : M) : Option ((Int32 × Int32 × Int32) ⊕ ((Unit) ⊕ ((Int32)))) :=
  lt (a3 + (1 : Int32)) (fun w1 : Int32 => lt (a5 + (1 : Int32)) (fun w2 : Int32 => t_nameToken_74 a1 a2 w1 w2 a5 m))
set_option maxRecDepth 20000 in
theorem t_t_nameToken_65 {G : GG} {x : Cx} {K : ((Int32 × Int32 × Int32) ⊕ ((Unit) ⊕ ((Int32)))) → Option (Option Value × M)} (E : En G x cX9_nameToken "WreckBoard$Tape" 6 (some .int)) (hn : xn x = 6) (a1 : Int32) (a2 : Int32) (a3 : Int32) (a5 : Int32) (m : M) (hb : ∀ z : Int32 × Int32 × Int32, Sm G x 8 [(0, .ref (G.2.1 7)), (1, .int a1), (2, .int a2), (3, .int z.1), (4, .int z.2.1), (5, .int z.2.2)] [] m (some (.inl z)) K) (hx0 : ∀ z : Unit, Sm G x 80 [] [] m (some (.inr (.inl z))) K) (hx1 : ∀ z : Int32, Sm G x 63 [(3, .int z)] [] m (some (.inr (.inr z))) K) : Sm G x 65 [(0, .ref (G.2.1 7)), (1, .int a1), (2, .int a2), (3, .int a3), (5, .int a5)] [] m (t_nameToken_65 a1 a2 a3 a5 m) K := by
  unfold t_nameToken_65
  refine s_iincL (v := (1 : Int32)) 3 [1, 2, 3, 0, 4] (fun w1 => [(0, .ref (G.2.1 7)), (1, .int a1), (2, .int a2), (3, .int w1), (5, .int a5)]) E dX9_nameToken_65 rfl (by decide) (by rw [hn]; decide) (fun _ => rfl) (fun w1 => ?_)
  refine s_iload 4 E dX9_nameToken_68 rfl ?_
  refine s_iconst (v := (1 : Int32)) E dX9_nameToken_70 (by decide) ?_
  refine s_iadd E dX9_nameToken_71 ?_
  refine s_lt (fun w2 => [(0, .ref (G.2.1 7)), (1, .int a1), (2, .int a2), (3, .int w1), (5, .int a5)]) (fun w2 => [.int w2]) rfl rfl (fun w2 => ?_)
  refine s_istore (lv' := [(0, .ref (G.2.1 7)), (1, .int a1), (2, .int a2), (3, .int w1), (4, .int w2), (5, .int a5)]) [1, 2, 3, 4, 0, 5] E dX9_nameToken_72 (by rw [hn]; decide) rfl ?_
  exact t_t_nameToken_74 E hn a1 a2 w1 w2 a5 m hb hx0 hx1
def t_nameToken_40 (a1 : Int32) (a2 : Int32) (a3 : Int32) (a4 : Int32) (a5 : Int32) (m : M) : Option ((Int32 × Int32 × Int32) ⊕ ((Unit) ⊕ ((Int32)))) :=
  (if (a5 - a4) = (a2 - a1) then Option.bind (t_isName a4 a5 a1 m) (fun v1 => (if v1 = 0 then t_nameToken_65 a1 a2 a3 a5 m else some (.inr (.inr a3)))) else t_nameToken_65 a1 a2 a3 a5 m)
set_option maxRecDepth 20000 in
theorem t_t_nameToken_40 {G : GG} {x : Cx} {K : ((Int32 × Int32 × Int32) ⊕ ((Unit) ⊕ ((Int32)))) → Option (Option Value × M)} (E : En G x cX9_nameToken "WreckBoard$Tape" 6 (some .int)) (hn : xn x = 6) (a1 : Int32) (a2 : Int32) (a3 : Int32) (a4 : Int32) (a5 : Int32) (m : M) (hb : ∀ z : Int32 × Int32 × Int32, Sm G x 8 [(0, .ref (G.2.1 7)), (1, .int a1), (2, .int a2), (3, .int z.1), (4, .int z.2.1), (5, .int z.2.2)] [] m (some (.inl z)) K) (hx0 : ∀ z : Unit, Sm G x 80 [] [] m (some (.inr (.inl z))) K) (hx1 : ∀ z : Int32, Sm G x 63 [(3, .int z)] [] m (some (.inr (.inr z))) K) : Sm G x 40 [(0, .ref (G.2.1 7)), (1, .int a1), (2, .int a2), (3, .int a3), (4, .int a4), (5, .int a5)] [] m (t_nameToken_40 a1 a2 a3 a4 a5 m) K := by
  unfold t_nameToken_40
  refine s_iload 5 E dX9_nameToken_40 rfl ?_
  refine s_iload 4 E dX9_nameToken_42 rfl ?_
  refine s_isub E dX9_nameToken_44 ?_
  refine s_iload_n 2 E dX9_nameToken_45 rfl rfl ?_
  refine s_iload_n 1 E dX9_nameToken_46 rfl rfl ?_
  refine s_isub E dX9_nameToken_47 ?_
  refine s_icmp_ne 65 E dX9_nameToken_48 (by decide) ?_ ?_
  · refine s_sub (lv' := [(0, .ref (G.2.1 7)), (1, .int a1), (2, .int a2), (3, .int a3), (5, .int a5)]) [0, 1, 2, 3, 5] rfl ?_
    exact t_t_nameToken_65 E hn a1 a2 a3 a5 m hb hx0 hx1
  · refine s_aload_n 0 E dX9_nameToken_51 rfl rfl ?_
    refine s_iload 4 E dX9_nameToken_52 rfl ?_
    refine s_iload 5 E dX9_nameToken_54 rfl ?_
    refine s_iload_n 1 E dX9_nameToken_56 rfl rfl ?_
    refine s_bd (fun v1 hz => ?_)
    refine s_cV (rest := []) E (C_t_isName (xl x) G a4 a5 a1 m hz) mdX9_isName W732 W734 W5 W101 W735 rfl rfl rfl rfl (Nat.le_of_ble_eq_true rfl) ⟨by decide, by decide⟩ dX9_nameToken_57 ?_
    refine s_if_eq 65 E dX9_nameToken_60 (by decide) ?_ ?_
    · refine s_sub (lv' := [(0, .ref (G.2.1 7)), (1, .int a1), (2, .int a2), (3, .int a3), (5, .int a5)]) [0, 1, 2, 3, 5] rfl ?_
      exact t_t_nameToken_65 E hn a1 a2 a3 a5 m hb hx0 hx1
    · refine s_sub (lv' := [(3, .int a3)]) [3] rfl ?_
      exact hx1 a3
def t_nameToken_8b (a1 : Int32) (a2 : Int32) (a3 : Int32) (a4 : Int32) (a5 : Int32) (m : M) : Option ((Int32 × Int32 × Int32) ⊕ ((Unit) ⊕ ((Int32)))) :=
  Option.bind (s_length m) (fun v1 => (if v1 < a5 then some (.inr (.inl ())) else Option.bind (s_length m) (fun v2 => (if a5 = v2 then t_nameToken_40 a1 a2 a3 a4 a5 m else Option.bind (s_charAt a5 m) (fun v3 => (if v3 = (32 : Int32) then t_nameToken_40 a1 a2 a3 a4 a5 m else t_nameToken_74 a1 a2 a3 a4 a5 m))))))
set_option maxRecDepth 20000 in
theorem t_t_nameToken_8b {G : GG} {x : Cx} {K : ((Int32 × Int32 × Int32) ⊕ ((Unit) ⊕ ((Int32)))) → Option (Option Value × M)} (E : En G x cX9_nameToken "WreckBoard$Tape" 6 (some .int)) (hn : xn x = 6) (a1 : Int32) (a2 : Int32) (a3 : Int32) (a4 : Int32) (a5 : Int32) (m : M) (hb : ∀ z : Int32 × Int32 × Int32, Sm G x 8 [(0, .ref (G.2.1 7)), (1, .int a1), (2, .int a2), (3, .int z.1), (4, .int z.2.1), (5, .int z.2.2)] [] m (some (.inl z)) K) (hx0 : ∀ z : Unit, Sm G x 80 [] [] m (some (.inr (.inl z))) K) (hx1 : ∀ z : Int32, Sm G x 63 [(3, .int z)] [] m (some (.inr (.inr z))) K) : Sm G x 8 [(0, .ref (G.2.1 7)), (1, .int a1), (2, .int a2), (3, .int a3), (4, .int a4), (5, .int a5)] [] m (t_nameToken_8b a1 a2 a3 a4 a5 m) K := by
  unfold t_nameToken_8b
  refine s_iload 5 E dX9_nameToken_8 rfl ?_
  refine s_ldcN E dX9_nameToken_10 ?_
  refine s_bd (fun v1 hz => ?_)
  refine s_cT (rest := [.int a5]) 0 (by decide) E (C_s_length (xl x) G  m hz) mdJ0_length_8abf5 W711 W635 W636 W105 W637 rfl rfl (Nat.le_of_ble_eq_true rfl) ⟨by decide, by decide⟩ dX9_nameToken_12 ?_
  refine s_icmp_gt 80 E dX9_nameToken_15 (by decide) ?_ ?_
  · refine s_sub (lv' := []) [] rfl ?_
    exact hx0 ()
  · refine s_iload 5 E dX9_nameToken_18 rfl ?_
    refine s_ldcN E dX9_nameToken_20 ?_
    refine s_bd (fun v2 hz => ?_)
    refine s_cT (rest := [.int a5]) 0 (by decide) E (C_s_length (xl x) G  m hz) mdJ0_length_8abf5 W711 W635 W636 W105 W637 rfl rfl (Nat.le_of_ble_eq_true rfl) ⟨by decide, by decide⟩ dX9_nameToken_22 ?_
    refine s_icmp_eq 40 E dX9_nameToken_25 (by decide) ?_ ?_
    · exact t_t_nameToken_40 E hn a1 a2 a3 a4 a5 m hb hx0 hx1
    · refine s_ldcN E dX9_nameToken_28 ?_
      refine s_iload 5 E dX9_nameToken_30 rfl ?_
      refine s_bd (fun v3 hz => ?_)
      refine s_cT (rest := []) 0 (by decide) E (C_s_charAt (xl x) G a5 m hz) mdJ0_charAt_5068e W712 W713 W714 W105 W715 rfl rfl (Nat.le_of_ble_eq_true rfl) ⟨by decide, by decide⟩ dX9_nameToken_32 ?_
      refine s_bipush (v := (32 : Int32)) E dX9_nameToken_35 (by decide) ?_
      refine s_icmp_ne 74 E dX9_nameToken_37 (by decide) ?_ ?_
      · exact t_t_nameToken_74 E hn a1 a2 a3 a4 a5 m hb hx0 hx1
      · exact t_t_nameToken_40 E hn a1 a2 a3 a4 a5 m hb hx0 hx1
def t_nameToken_8 (a1 : Int32) (a2 : Int32) (a3 : Int32) (a4 : Int32) (a5 : Int32) (m : M) : Option (Int32) :=
  Option.bind (iter (fun z => t_nameToken_8b a1 a2 z.1 z.2.1 z.2.2 m) FU (a3, a4, a5)) (fun r => (match r with
  | .inl r => some (-1 : Int32)
  | .inr r => some r))
set_option maxRecDepth 20000 in
theorem t_t_nameToken_8 {G : GG} {x : Cx} (E : En G x cX9_nameToken "WreckBoard$Tape" 6 (some .int)) (hn : xn x = 6) (a1 : Int32) (a2 : Int32) (a3 : Int32) (a4 : Int32) (a5 : Int32) (m : M) : Sm G x 8 [(0, .ref (G.2.1 7)), (1, .int a1), (2, .int a2), (3, .int a3), (4, .int a4), (5, .int a5)] [] m (t_nameToken_8 a1 a2 a3 a4 a5 m) (KRi m) := by
  unfold t_nameToken_8
  refine s_loop (fun z => [(0, .ref (G.2.1 7)), (1, .int a1), (2, .int a2), (3, .int z.1), (4, .int z.2.1), (5, .int z.2.2)]) (fun z => m) (fun K2 hb2 hr2 z => ?_) FU (a3, a4, a5)
  refine t_t_nameToken_8b (K := K2) E hn a1 a2 z.1 z.2.1 z.2.2 m hb2 (fun r => s_out (hr2 (.inl r)) ?_) (fun r => s_out (hr2 (.inr r)) ?_)
  · refine s_iconst (v := (-1 : Int32)) E dX9_nameToken_80 (by decide) ?_
    exact s_iret E rfl dX9_nameToken_81
  · refine s_iload_n 0 E dX9_nameToken_63 rfl rfl ?_
    exact s_iret E rfl dX9_nameToken_64
def t_nameToken (a1 : Int32) (a2 : Int32) (m : M) : Option (Int32) :=
  t_nameToken_8 a1 a2 (0 : Int32) (0 : Int32) (0 : Int32) m
set_option maxRecDepth 20000 in
theorem t_t_nameToken {G : GG} {x : Cx} (E : En G x cX9_nameToken "WreckBoard$Tape" 6 (some .int)) (hn : xn x = 6) (a1 : Int32) (a2 : Int32) (m : M) : Sm G x 0 [(0, .ref (G.2.1 7)), (1, .int a1), (2, .int a2)] [] m (t_nameToken a1 a2 m) (KRi m) := by
  unfold t_nameToken
  refine s_iconst (v := (0 : Int32)) E dX9_nameToken_0 (by decide) ?_
  refine s_istore_n (lv' := [(0, .ref (G.2.1 7)), (1, .int a1), (2, .int a2), (3, .int (0 : Int32))]) [1, 2, 3, 0] E dX9_nameToken_1 rfl (by rw [hn]; decide) rfl ?_
  refine s_iconst (v := (0 : Int32)) E dX9_nameToken_2 (by decide) ?_
  refine s_istore (lv' := [(0, .ref (G.2.1 7)), (1, .int a1), (2, .int a2), (3, .int (0 : Int32)), (4, .int (0 : Int32))]) [1, 2, 3, 4, 0] E dX9_nameToken_3 (by rw [hn]; decide) rfl ?_
  refine s_iconst (v := (0 : Int32)) E dX9_nameToken_5 (by decide) ?_
  refine s_istore (lv' := [(0, .ref (G.2.1 7)), (1, .int a1), (2, .int a2), (3, .int (0 : Int32)), (4, .int (0 : Int32)), (5, .int (0 : Int32))]) [1, 2, 3, 4, 5, 0] E dX9_nameToken_6 (by rw [hn]; decide) rfl ?_
  exact t_t_nameToken_8 E hn a1 a2 (0 : Int32) (0 : Int32) (0 : Int32) m
set_option maxRecDepth 20000 in
theorem C_t_nameToken (l : Launch) (G : GG) (a1 : Int32) (a2 : Int32) (m : M) {z : Int32} (hz : t_nameToken a1 a2 m = some z) : Ct l G yX9_nameToken cX9_nameToken 6 (some .int) 6 [.ref (G.2.1 7), .int a1, .int a2] m (some (.int z)) m :=
  ct_of (K := (KRi m)) (by decide) (Nat.le_of_ble_eq_true rfl) (congrArg (fun q => Option.bind q _) hz) (fun x hl hn E => (t_t_nameToken E hn a1 a2 m))
theorem mdX9_nameToken : mdq yX9_nameToken 2 := ⟨by decide, by decide, by decide +kernel⟩
theorem dX9_numberToken_0 : decode cX9_numberToken 0 = .ok (.iload_n 2, 1) := by decide +kernel
theorem dX9_numberToken_1 : decode cX9_numberToken 1 = .ok (.iload_n 1, 1) := by decide +kernel
theorem dX9_numberToken_2 : decode cX9_numberToken 2 = .ok (.isub, 1) := by decide +kernel
theorem dX9_numberToken_3 : decode cX9_numberToken 3 = .ok (.iconst 4, 1) := by decide +kernel
theorem dX9_numberToken_4 : decode cX9_numberToken 4 = .ok (.if_icmp .le 5, 3) := by decide +kernel
theorem dX9_numberToken_7 : decode cX9_numberToken 7 = .ok (.iconst (-1), 1) := by decide +kernel
theorem dX9_numberToken_8 : decode cX9_numberToken 8 = .ok (.ireturn, 1) := by decide +kernel
theorem dX9_numberToken_9 : decode cX9_numberToken 9 = .ok (.iconst 0, 1) := by decide +kernel
theorem dX9_numberToken_10 : decode cX9_numberToken 10 = .ok (.istore_n 3, 1) := by decide +kernel
theorem dX9_numberToken_11 : decode cX9_numberToken 11 = .ok (.iload_n 1, 1) := by decide +kernel
theorem dX9_numberToken_12 : decode cX9_numberToken 12 = .ok (.istore 4, 2) := by decide +kernel
theorem dX9_numberToken_14 : decode cX9_numberToken 14 = .ok (.iload 4, 2) := by decide +kernel
theorem dX9_numberToken_16 : decode cX9_numberToken 16 = .ok (.iload_n 2, 1) := by decide +kernel
theorem dX9_numberToken_17 : decode cX9_numberToken 17 = .ok (.if_icmp .ge 25, 3) := by decide +kernel
theorem dX9_numberToken_20 : decode cX9_numberToken 20 = .ok (.bipush 10, 2) := by decide +kernel
theorem dX9_numberToken_22 : decode cX9_numberToken 22 = .ok (.iload_n 3, 1) := by decide +kernel
theorem dX9_numberToken_23 : decode cX9_numberToken 23 = .ok (.imul, 1) := by decide +kernel
theorem dX9_numberToken_24 : decode cX9_numberToken 24 = .ok (.aload_n 0, 1) := by decide +kernel
theorem dX9_numberToken_25 : decode cX9_numberToken 25 = .ok (.getfield 11, 3) := by decide +kernel
theorem dX9_numberToken_28 : decode cX9_numberToken 28 = .ok (.iload 4, 2) := by decide +kernel
theorem dX9_numberToken_30 : decode cX9_numberToken 30 = .ok (.iaload, 1) := by decide +kernel
theorem dX9_numberToken_31 : decode cX9_numberToken 31 = .ok (.iadd, 1) := by decide +kernel
theorem dX9_numberToken_32 : decode cX9_numberToken 32 = .ok (.bipush 48, 2) := by decide +kernel
theorem dX9_numberToken_34 : decode cX9_numberToken 34 = .ok (.isub, 1) := by decide +kernel
theorem dX9_numberToken_35 : decode cX9_numberToken 35 = .ok (.istore_n 3, 1) := by decide +kernel
theorem dX9_numberToken_36 : decode cX9_numberToken 36 = .ok (.iinc 4 1, 3) := by decide +kernel
theorem dX9_numberToken_39 : decode cX9_numberToken 39 = .ok (.goto (-25), 3) := by decide +kernel
theorem dX9_numberToken_42 : decode cX9_numberToken 42 = .ok (.bipush 18, 2) := by decide +kernel
theorem dX9_numberToken_44 : decode cX9_numberToken 44 = .ok (.iload_n 3, 1) := by decide +kernel
theorem dX9_numberToken_45 : decode cX9_numberToken 45 = .ok (.iadd, 1) := by decide +kernel
theorem dX9_numberToken_46 : decode cX9_numberToken 46 = .ok (.ireturn, 1) := by decide +kernel
def t_numberToken_14b (a2 : Int32) (a3 : Int32) (a4 : Int32) (m : M) : Option ((Int32 × Int32) ⊕ ((Int32))) :=
  (if a2 ≤ a4 then some (.inr a3) else Option.bind (rdI m 46 a4) (fun v1 => lt ((((10 : Int32) * a3) + v1) - (48 : Int32)) (fun w2 : Int32 => lt (a4 + (1 : Int32)) (fun w3 : Int32 => some (.inl (w2, w3))))))
set_option maxRecDepth 20000 in
theorem t_t_numberToken_14b {G : GG} {x : Cx} {K : ((Int32 × Int32) ⊕ ((Int32))) → Option (Option Value × M)} (E : En G x cX9_numberToken "WreckBoard$Tape" 1 (some .int)) (hn : xn x = 5) (a2 : Int32) (a3 : Int32) (a4 : Int32) (m : M) (hb : ∀ z : Int32 × Int32, Sm G x 14 [(0, .ref (G.2.1 7)), (2, .int a2), (3, .int z.1), (4, .int z.2)] [] m (some (.inl z)) K) (hx0 : ∀ z : Int32, Sm G x 42 [(3, .int z)] [] m (some (.inr z)) K) : Sm G x 14 [(0, .ref (G.2.1 7)), (2, .int a2), (3, .int a3), (4, .int a4)] [] m (t_numberToken_14b a2 a3 a4 m) K := by
  unfold t_numberToken_14b
  refine s_iload 3 E dX9_numberToken_14 rfl ?_
  refine s_iload_n 1 E dX9_numberToken_16 rfl rfl ?_
  refine s_icmp_ge 42 E dX9_numberToken_17 (by decide) ?_ ?_
  · refine s_sub (lv' := [(3, .int a3)]) [2] rfl ?_
    exact hx0 a3
  · refine s_bipush (v := (10 : Int32)) E dX9_numberToken_20 (by decide) ?_
    refine s_iload_n 2 E dX9_numberToken_22 rfl rfl ?_
    refine s_imul E dX9_numberToken_23 ?_
    refine s_aload_n 0 E dX9_numberToken_24 rfl rfl ?_
    refine s_getr (k := 1) (T := TX9) 7 E rfl rfl rfl inX9 (by decide) W311 dX9_numberToken_25 ?_
    refine s_iload 3 E dX9_numberToken_28 rfl ?_
    refine s_iald E dX9_numberToken_30 (fun v1 => ?_)
    refine s_iadd E dX9_numberToken_31 ?_
    refine s_bipush (v := (48 : Int32)) E dX9_numberToken_32 (by decide) ?_
    refine s_isub E dX9_numberToken_34 ?_
    refine s_lt (fun w2 => [(0, .ref (G.2.1 7)), (2, .int a2), (3, .int a3), (4, .int a4)]) (fun w2 => [.int w2]) rfl rfl (fun w2 => ?_)
    refine s_istore_n (lv' := [(0, .ref (G.2.1 7)), (2, .int a2), (3, .int w2), (4, .int a4)]) [1, 2, 0, 3] E dX9_numberToken_35 rfl (by rw [hn]; decide) rfl ?_
    refine s_iincL (v := (1 : Int32)) 3 [1, 2, 3, 0] (fun w3 => [(0, .ref (G.2.1 7)), (2, .int a2), (3, .int w2), (4, .int w3)]) E dX9_numberToken_36 rfl (by decide) (by rw [hn]; decide) (fun _ => rfl) (fun w3 => ?_)
    refine s_goto 14 E dX9_numberToken_39 (by decide) ?_
    exact hb (w2, w3)
def t_numberToken_14 (a2 : Int32) (a3 : Int32) (a4 : Int32) (m : M) : Option (Int32) :=
  Option.bind (iter (fun z => t_numberToken_14b a2 z.1 z.2 m) FU (a3, a4)) (fun r => some ((18 : Int32) + r))
set_option maxRecDepth 20000 in
theorem t_t_numberToken_14 {G : GG} {x : Cx} (E : En G x cX9_numberToken "WreckBoard$Tape" 1 (some .int)) (hn : xn x = 5) (a2 : Int32) (a3 : Int32) (a4 : Int32) (m : M) : Sm G x 14 [(0, .ref (G.2.1 7)), (2, .int a2), (3, .int a3), (4, .int a4)] [] m (t_numberToken_14 a2 a3 a4 m) (KRi m) := by
  unfold t_numberToken_14
  refine s_loop (fun z => [(0, .ref (G.2.1 7)), (2, .int a2), (3, .int z.1), (4, .int z.2)]) (fun z => m) (fun K2 hb2 hr2 z => ?_) FU (a3, a4)
  refine t_t_numberToken_14b (K := K2) E hn a2 z.1 z.2 m hb2 (fun r => s_out (hr2 r) ?_)
  · refine s_bipush (v := (18 : Int32)) E dX9_numberToken_42 (by decide) ?_
    refine s_iload_n 0 E dX9_numberToken_44 rfl rfl ?_
    refine s_iadd E dX9_numberToken_45 ?_
    exact s_iret E rfl dX9_numberToken_46
def t_numberToken (a1 : Int32) (a2 : Int32) (m : M) : Option (Int32) :=
  (if (a2 - a1) ≤ (4 : Int32) then t_numberToken_14 a2 (0 : Int32) a1 m else some (-1 : Int32))
set_option maxRecDepth 20000 in
theorem t_t_numberToken {G : GG} {x : Cx} (E : En G x cX9_numberToken "WreckBoard$Tape" 1 (some .int)) (hn : xn x = 5) (a1 : Int32) (a2 : Int32) (m : M) : Sm G x 0 [(0, .ref (G.2.1 7)), (1, .int a1), (2, .int a2)] [] m (t_numberToken a1 a2 m) (KRi m) := by
  unfold t_numberToken
  refine s_iload_n 2 E dX9_numberToken_0 rfl rfl ?_
  refine s_iload_n 1 E dX9_numberToken_1 rfl rfl ?_
  refine s_isub E dX9_numberToken_2 ?_
  refine s_iconst (v := (4 : Int32)) E dX9_numberToken_3 (by decide) ?_
  refine s_icmp_le 9 E dX9_numberToken_4 (by decide) ?_ ?_
  · refine s_iconst (v := (0 : Int32)) E dX9_numberToken_9 (by decide) ?_
    refine s_istore_n (lv' := [(0, .ref (G.2.1 7)), (1, .int a1), (2, .int a2), (3, .int (0 : Int32))]) [1, 2, 3, 0] E dX9_numberToken_10 rfl (by rw [hn]; decide) rfl ?_
    refine s_iload_n 1 E dX9_numberToken_11 rfl rfl ?_
    refine s_istore (lv' := [(0, .ref (G.2.1 7)), (2, .int a2), (3, .int (0 : Int32)), (4, .int a1)]) [1, 3, 4, 0] E dX9_numberToken_12 (by rw [hn]; decide) rfl ?_
    exact t_t_numberToken_14 E hn a2 (0 : Int32) a1 m
  · refine s_iconst (v := (-1 : Int32)) E dX9_numberToken_7 (by decide) ?_
    exact s_iret E rfl dX9_numberToken_8
set_option maxRecDepth 20000 in
theorem C_t_numberToken (l : Launch) (G : GG) (a1 : Int32) (a2 : Int32) (m : M) {z : Int32} (hz : t_numberToken a1 a2 m = some z) : Ct l G yX9_numberToken cX9_numberToken 5 (some .int) 1 [.ref (G.2.1 7), .int a1, .int a2] m (some (.int z)) m :=
  ct_of (K := (KRi m)) (by decide) (Nat.le_of_ble_eq_true rfl) (congrArg (fun q => Option.bind q _) hz) (fun x hl hn E => (t_t_numberToken E hn a1 a2 m))
theorem mdX9_numberToken : mdq yX9_numberToken 2 := ⟨by decide, by decide, by decide +kernel⟩
def s_isLatin1_211  (m : M) : Option (Int32) :=
  (if (1 : Int32) = 0 then some (0 : Int32) else (if (0 : Int32) = 0 then some (1 : Int32) else some (0 : Int32)))
set_option maxRecDepth 20000 in
theorem t_s_isLatin1_211 {G : GG} {x : Cx} (E : En G x cJ0_isLatin1_aae02 "java/lang/String" 1 (some .boolean)) (hn : xn x = 1)  (m : M) : Sm G x 0 [(0, .ref (G.2.1 211))] [] m (s_isLatin1_211 m) (KRi m) := by
  unfold s_isLatin1_211
  refine s_getCS E W632 dJ0_isLatin1_aae02_0 ?_
  refine s_if_eq 17 E dJ0_isLatin1_aae02_3 (by decide) ?_ ?_
  · refine s_iconst (v := (0 : Int32)) E dJ0_isLatin1_aae02_17 (by decide) ?_
    exact s_zret E (by decide) rfl dJ0_isLatin1_aae02_18
  · refine s_aload_n 0 E dJ0_isLatin1_aae02_6 rfl rfl ?_
    refine s_strc 1 (by decide) E W1869 dJ0_isLatin1_aae02_7 ?_
    refine s_if_ne 17 E dJ0_isLatin1_aae02_10 (by decide) ?_ ?_
    · refine s_iconst (v := (0 : Int32)) E dJ0_isLatin1_aae02_17 (by decide) ?_
      exact s_zret E (by decide) rfl dJ0_isLatin1_aae02_18
    · refine s_iconst (v := (1 : Int32)) E dJ0_isLatin1_aae02_13 (by decide) ?_
      refine s_goto 18 E dJ0_isLatin1_aae02_14 (by decide) ?_
      exact s_zret E (by decide) rfl dJ0_isLatin1_aae02_18
set_option maxRecDepth 20000 in
theorem C_s_isLatin1_211 (l : Launch) (G : GG)  (m : M) {z : Int32} (hz : s_isLatin1_211 m = some z) : Ct l G yJ0_isLatin1_aae02 cJ0_isLatin1_aae02 1 (some .boolean) 1 [.ref (G.2.1 211)] m (some (.int z)) m :=
  ct_of (K := (KRi m)) (by decide) (Nat.le_of_ble_eq_true rfl) (congrArg (fun q => Option.bind q _) hz) (fun x hl hn E => (t_s_isLatin1_211 E hn  m))
def s_coder_211  (m : M) : Option (Int32) :=
  (if (1 : Int32) = 0 then some (1 : Int32) else some (0 : Int32))
set_option maxRecDepth 20000 in
theorem t_s_coder_211 {G : GG} {x : Cx} (E : En G x cJ0_coder_7d493 "java/lang/String" 1 (some .byte)) (hn : xn x = 1)  (m : M) : Sm G x 0 [(0, .ref (G.2.1 211))] [] m (s_coder_211 m) (KRi m) := by
  unfold s_coder_211
  refine s_getCS E W632 dJ0_coder_7d493_0 ?_
  refine s_if_eq 13 E dJ0_coder_7d493_3 (by decide) ?_ ?_
  · refine s_iconst (v := (1 : Int32)) E dJ0_coder_7d493_13 (by decide) ?_
    exact s_nret (u := (1 : Int32)) E (by decide) rfl dJ0_coder_7d493_14
  · refine s_aload_n 0 E dJ0_coder_7d493_6 rfl rfl ?_
    refine s_strc 1 (by decide) E W1869 dJ0_coder_7d493_7 ?_
    refine s_goto 14 E dJ0_coder_7d493_10 (by decide) ?_
    exact s_nret (u := (0 : Int32)) E (by decide) rfl dJ0_coder_7d493_14
set_option maxRecDepth 20000 in
theorem C_s_coder_211 (l : Launch) (G : GG)  (m : M) {z : Int32} (hz : s_coder_211 m = some z) : Ct l G yJ0_coder_7d493 cJ0_coder_7d493 1 (some .byte) 1 [.ref (G.2.1 211)] m (some (.int z)) m :=
  ct_of (K := (KRi m)) (by decide) (Nat.le_of_ble_eq_true rfl) (congrArg (fun q => Option.bind q _) hz) (fun x hl hn E => (t_s_coder_211 E hn  m))
def s_length_211  (m : M) : Option (Int32) :=
  Option.bind (s_coder_211 m) (fun v1 => some ((6 : Int32) >>> (v1 &&& 31)))
set_option maxRecDepth 20000 in
theorem t_s_length_211 {G : GG} {x : Cx} (E : En G x cJ0_length_8abf5 "java/lang/String" 2 (some .int)) (hn : xn x = 1)  (m : M) : Sm G x 0 [(0, .ref (G.2.1 211))] [] m (s_length_211 m) (KRi m) := by
  unfold s_length_211
  refine s_aload_n 0 E dJ0_length_8abf5_0 rfl rfl ?_
  refine s_strv 1 (by decide) E W1870 dJ0_length_8abf5_1 ?_
  refine s_strl (v := (6 : Int32)) 1 (by decide) (by decide) E dJ0_length_8abf5_4 ?_
  refine s_aload_n 0 E dJ0_length_8abf5_5 rfl rfl ?_
  refine s_bd (fun v1 hz => ?_)
  refine s_cT (rest := [.int (6 : Int32)]) 1 (by decide) E (C_s_coder_211 (xl x) G  m hz) mdJ0_coder_7d493 W638 W639 W640 W105 W641 rfl rfl (Nat.le_of_ble_eq_true rfl) ⟨by decide, by decide⟩ dJ0_length_8abf5_6 ?_
  refine s_ishr E dJ0_length_8abf5_9 ?_
  exact s_iret E rfl dJ0_length_8abf5_10
set_option maxRecDepth 20000 in
theorem C_s_length_211 (l : Launch) (G : GG)  (m : M) {z : Int32} (hz : s_length_211 m = some z) : Ct l G yJ0_length_8abf5 cJ0_length_8abf5 1 (some .int) 2 [.ref (G.2.1 211)] m (some (.int z)) m :=
  ct_of (K := (KRi m)) (by decide) (Nat.le_of_ble_eq_true rfl) (congrArg (fun q => Option.bind q _) hz) (fun x hl hn E => (t_s_length_211 E hn  m))
theorem dJ1_canEncode_9a6ad_0 : decode cJ1_canEncode_9a6ad 0 = .ok (.iload_n 0, 1) := by decide +kernel
theorem dJ1_canEncode_9a6ad_1 : decode cJ1_canEncode_9a6ad 1 = .ok (.ifCond .lt 14, 3) := by decide +kernel
theorem dJ1_canEncode_9a6ad_4 : decode cJ1_canEncode_9a6ad 4 = .ok (.iload_n 0, 1) := by decide +kernel
theorem dJ1_canEncode_9a6ad_5 : decode cJ1_canEncode_9a6ad 5 = .ok (.sipush 255, 3) := by decide +kernel
theorem dJ1_canEncode_9a6ad_8 : decode cJ1_canEncode_9a6ad 8 = .ok (.if_icmp .gt 7, 3) := by decide +kernel
theorem dJ1_canEncode_9a6ad_11 : decode cJ1_canEncode_9a6ad 11 = .ok (.iconst 1, 1) := by decide +kernel
theorem dJ1_canEncode_9a6ad_12 : decode cJ1_canEncode_9a6ad 12 = .ok (.goto 4, 3) := by decide +kernel
theorem dJ1_canEncode_9a6ad_15 : decode cJ1_canEncode_9a6ad 15 = .ok (.iconst 0, 1) := by decide +kernel
theorem dJ1_canEncode_9a6ad_16 : decode cJ1_canEncode_9a6ad 16 = .ok (.ireturn, 1) := by decide +kernel
def l_canEncode (a0 : Int32) (m : M) : Option (Int32) :=
  (if a0 < 0 then some (0 : Int32) else (if (255 : Int32) < a0 then some (0 : Int32) else some (1 : Int32)))
set_option maxRecDepth 20000 in
theorem t_l_canEncode {G : GG} {x : Cx} (E : En G x cJ1_canEncode_9a6ad "java/lang/StringLatin1" 1 (some .boolean)) (hn : xn x = 1) (a0 : Int32) (m : M) : Sm G x 0 [(0, .int a0)] [] m (l_canEncode a0 m) (KRi m) := by
  unfold l_canEncode
  refine s_iload_n 0 E dJ1_canEncode_9a6ad_0 rfl rfl ?_
  refine s_if_lt 15 E dJ1_canEncode_9a6ad_1 (by decide) ?_ ?_
  · refine s_iconst (v := (0 : Int32)) E dJ1_canEncode_9a6ad_15 (by decide) ?_
    exact s_zret E (by decide) rfl dJ1_canEncode_9a6ad_16
  · refine s_iload_n 0 E dJ1_canEncode_9a6ad_4 rfl rfl ?_
    refine s_sipush (v := (255 : Int32)) E dJ1_canEncode_9a6ad_5 (by decide) ?_
    refine s_icmp_gt 15 E dJ1_canEncode_9a6ad_8 (by decide) ?_ ?_
    · refine s_iconst (v := (0 : Int32)) E dJ1_canEncode_9a6ad_15 (by decide) ?_
      exact s_zret E (by decide) rfl dJ1_canEncode_9a6ad_16
    · refine s_iconst (v := (1 : Int32)) E dJ1_canEncode_9a6ad_11 (by decide) ?_
      refine s_goto 16 E dJ1_canEncode_9a6ad_12 (by decide) ?_
      exact s_zret E (by decide) rfl dJ1_canEncode_9a6ad_16
set_option maxRecDepth 20000 in
theorem C_l_canEncode (l : Launch) (G : GG) (a0 : Int32) (m : M) {z : Int32} (hz : l_canEncode a0 m = some z) : Ct l G yJ1_canEncode_9a6ad cJ1_canEncode_9a6ad 1 (some .boolean) 1 [.int a0] m (some (.int z)) m :=
  ct_of (K := (KRi m)) (by decide) (Nat.le_of_ble_eq_true rfl) (congrArg (fun q => Option.bind q _) hz) (fun x hl hn E => (t_l_canEncode E hn a0 m))
theorem mdJ1_canEncode_9a6ad : mdq yJ1_canEncode_9a6ad 1 := ⟨by decide, by decide, by decide +kernel⟩
theorem dJ1_indexOfChar_4cfef_0 : decode cJ1_indexOfChar_4cfef 0 = .ok (.iload_n 1, 1) := by decide +kernel
theorem dJ1_indexOfChar_4cfef_1 : decode cJ1_indexOfChar_4cfef 1 = .ok (.i2b, 1) := by decide +kernel
theorem dJ1_indexOfChar_4cfef_2 : decode cJ1_indexOfChar_4cfef 2 = .ok (.istore 4, 2) := by decide +kernel
theorem dJ1_indexOfChar_4cfef_4 : decode cJ1_indexOfChar_4cfef 4 = .ok (.iload_n 2, 1) := by decide +kernel
theorem dJ1_indexOfChar_4cfef_5 : decode cJ1_indexOfChar_4cfef 5 = .ok (.istore 5, 2) := by decide +kernel
theorem dJ1_indexOfChar_4cfef_7 : decode cJ1_indexOfChar_4cfef 7 = .ok (.iload 5, 2) := by decide +kernel
theorem dJ1_indexOfChar_4cfef_9 : decode cJ1_indexOfChar_4cfef 9 = .ok (.iload_n 3, 1) := by decide +kernel
theorem dJ1_indexOfChar_4cfef_10 : decode cJ1_indexOfChar_4cfef 10 = .ok (.if_icmp .ge 21, 3) := by decide +kernel
theorem dJ1_indexOfChar_4cfef_13 : decode cJ1_indexOfChar_4cfef 13 = .ok (.aload_n 0, 1) := by decide +kernel
theorem dJ1_indexOfChar_4cfef_14 : decode cJ1_indexOfChar_4cfef 14 = .ok (.iload 5, 2) := by decide +kernel
theorem dJ1_indexOfChar_4cfef_16 : decode cJ1_indexOfChar_4cfef 16 = .ok (.baload, 1) := by decide +kernel
theorem dJ1_indexOfChar_4cfef_17 : decode cJ1_indexOfChar_4cfef 17 = .ok (.iload 4, 2) := by decide +kernel
theorem dJ1_indexOfChar_4cfef_19 : decode cJ1_indexOfChar_4cfef 19 = .ok (.if_icmp .ne 6, 3) := by decide +kernel
theorem dJ1_indexOfChar_4cfef_22 : decode cJ1_indexOfChar_4cfef 22 = .ok (.iload 5, 2) := by decide +kernel
theorem dJ1_indexOfChar_4cfef_24 : decode cJ1_indexOfChar_4cfef 24 = .ok (.ireturn, 1) := by decide +kernel
theorem dJ1_indexOfChar_4cfef_25 : decode cJ1_indexOfChar_4cfef 25 = .ok (.iinc 5 1, 3) := by decide +kernel
theorem dJ1_indexOfChar_4cfef_28 : decode cJ1_indexOfChar_4cfef 28 = .ok (.goto (-21), 3) := by decide +kernel
theorem dJ1_indexOfChar_4cfef_31 : decode cJ1_indexOfChar_4cfef 31 = .ok (.iconst (-1), 1) := by decide +kernel
theorem dJ1_indexOfChar_4cfef_32 : decode cJ1_indexOfChar_4cfef 32 = .ok (.ireturn, 1) := by decide +kernel
def l_indexOfChar_7b (a3 : Int32) (a4 : Int32) (a5 : Int32) (m : M) : Option ((Int32) ⊕ ((Unit) ⊕ ((Int32)))) :=
  (if a3 ≤ a5 then some (.inr (.inl ())) else Option.bind (rdK txtSigns a5) (fun v1 => (if v1 = a4 then some (.inr (.inr a5)) else lt (a5 + (1 : Int32)) (fun w2 : Int32 => some (.inl w2)))))
set_option maxRecDepth 20000 in
theorem t_l_indexOfChar_7b {G : GG} {x : Cx} {K : ((Int32) ⊕ ((Unit) ⊕ ((Int32)))) → Option (Option Value × M)} (E : En G x cJ1_indexOfChar_4cfef "java/lang/StringLatin1" 1 (some .int)) (hn : xn x = 6) (a3 : Int32) (a4 : Int32) (a5 : Int32) (m : M) (hb : ∀ z : Int32, Sm G x 7 [(0, .ref (G.2.1 221)), (3, .int a3), (4, .int a4), (5, .int z)] [] m (some (.inl z)) K) (hx0 : ∀ z : Unit, Sm G x 31 [] [] m (some (.inr (.inl z))) K) (hx1 : ∀ z : Int32, Sm G x 22 [(5, .int z)] [] m (some (.inr (.inr z))) K) : Sm G x 7 [(0, .ref (G.2.1 221)), (3, .int a3), (4, .int a4), (5, .int a5)] [] m (l_indexOfChar_7b a3 a4 a5 m) K := by
  unfold l_indexOfChar_7b
  refine s_iload 3 E dJ1_indexOfChar_4cfef_7 rfl ?_
  refine s_iload_n 1 E dJ1_indexOfChar_4cfef_9 rfl rfl ?_
  refine s_icmp_ge 31 E dJ1_indexOfChar_4cfef_10 (by decide) ?_ ?_
  · refine s_sub (lv' := []) [] rfl ?_
    exact hx0 ()
  · refine s_aload_n 0 E dJ1_indexOfChar_4cfef_13 rfl rfl ?_
    refine s_iload 3 E dJ1_indexOfChar_4cfef_14 rfl ?_
    refine s_strb 1 (by decide) rfl rfl E dJ1_indexOfChar_4cfef_16 (fun v1 => ?_)
    refine s_iload 2 E dJ1_indexOfChar_4cfef_17 rfl ?_
    refine s_icmp_ne 25 E dJ1_indexOfChar_4cfef_19 (by decide) ?_ ?_
    · refine s_iincL (v := (1 : Int32)) 3 [1, 2, 3, 0] (fun w2 => [(0, .ref (G.2.1 221)), (3, .int a3), (4, .int a4), (5, .int w2)]) E dJ1_indexOfChar_4cfef_25 rfl (by decide) (by rw [hn]; decide) (fun _ => rfl) (fun w2 => ?_)
      refine s_goto 7 E dJ1_indexOfChar_4cfef_28 (by decide) ?_
      exact hb w2
    · refine s_sub (lv' := [(5, .int a5)]) [3] rfl ?_
      exact hx1 a5
def l_indexOfChar_7 (a3 : Int32) (a4 : Int32) (a5 : Int32) (m : M) : Option (Int32) :=
  Option.bind (iter (fun z => l_indexOfChar_7b a3 a4 z m) FU a5) (fun r => (match r with
  | .inl r => some (-1 : Int32)
  | .inr r => some r))
set_option maxRecDepth 20000 in
theorem t_l_indexOfChar_7 {G : GG} {x : Cx} (E : En G x cJ1_indexOfChar_4cfef "java/lang/StringLatin1" 1 (some .int)) (hn : xn x = 6) (a3 : Int32) (a4 : Int32) (a5 : Int32) (m : M) : Sm G x 7 [(0, .ref (G.2.1 221)), (3, .int a3), (4, .int a4), (5, .int a5)] [] m (l_indexOfChar_7 a3 a4 a5 m) (KRi m) := by
  unfold l_indexOfChar_7
  refine s_loop (fun z => [(0, .ref (G.2.1 221)), (3, .int a3), (4, .int a4), (5, .int z)]) (fun z => m) (fun K2 hb2 hr2 z => ?_) FU a5
  refine t_l_indexOfChar_7b (K := K2) E hn a3 a4 z m hb2 (fun r => s_out (hr2 (.inl r)) ?_) (fun r => s_out (hr2 (.inr r)) ?_)
  · refine s_iconst (v := (-1 : Int32)) E dJ1_indexOfChar_4cfef_31 (by decide) ?_
    exact s_iret E rfl dJ1_indexOfChar_4cfef_32
  · refine s_iload 0 E dJ1_indexOfChar_4cfef_22 rfl ?_
    exact s_iret E rfl dJ1_indexOfChar_4cfef_24
def l_indexOfChar (a1 : Int32) (a2 : Int32) (a3 : Int32) (m : M) : Option (Int32) :=
  lt (Int8.toInt32 (Int32.toInt8 a1)) (fun w1 : Int32 => l_indexOfChar_7 a3 w1 a2 m)
set_option maxRecDepth 20000 in
theorem t_l_indexOfChar {G : GG} {x : Cx} (E : En G x cJ1_indexOfChar_4cfef "java/lang/StringLatin1" 1 (some .int)) (hn : xn x = 6) (a1 : Int32) (a2 : Int32) (a3 : Int32) (m : M) : Sm G x 0 [(0, .ref (G.2.1 221)), (1, .int a1), (2, .int a2), (3, .int a3)] [] m (l_indexOfChar a1 a2 a3 m) (KRi m) := by
  unfold l_indexOfChar
  refine s_iload_n 1 E dJ1_indexOfChar_4cfef_0 rfl rfl ?_
  refine s_i2b E dJ1_indexOfChar_4cfef_1 ?_
  refine s_lt (fun w1 => [(0, .ref (G.2.1 221)), (1, .int a1), (2, .int a2), (3, .int a3)]) (fun w1 => [.int w1]) rfl rfl (fun w1 => ?_)
  refine s_istore (lv' := [(0, .ref (G.2.1 221)), (2, .int a2), (3, .int a3), (4, .int w1)]) [1, 3, 4, 0] E dJ1_indexOfChar_4cfef_2 (by rw [hn]; decide) rfl ?_
  refine s_iload_n 1 E dJ1_indexOfChar_4cfef_4 rfl rfl ?_
  refine s_istore (lv' := [(0, .ref (G.2.1 221)), (3, .int a3), (4, .int w1), (5, .int a2)]) [1, 3, 4, 0] E dJ1_indexOfChar_4cfef_5 (by rw [hn]; decide) rfl ?_
  exact t_l_indexOfChar_7 E hn a3 w1 a2 m
set_option maxRecDepth 20000 in
theorem C_l_indexOfChar (l : Launch) (G : GG) (a1 : Int32) (a2 : Int32) (a3 : Int32) (m : M) {z : Int32} (hz : l_indexOfChar a1 a2 a3 m = some z) : Ct l G yJ1_indexOfChar_4cfef cJ1_indexOfChar_4cfef 6 (some .int) 1 [.ref (G.2.1 221), .int a1, .int a2, .int a3] m (some (.int z)) m :=
  ct_of (K := (KRi m)) (by decide) (Nat.le_of_ble_eq_true rfl) (congrArg (fun q => Option.bind q _) hz) (fun x hl hn E => (t_l_indexOfChar E hn a1 a2 a3 m))
theorem mdJ1_indexOfChar_4cfef : mdq yJ1_indexOfChar_4cfef 4 := ⟨by decide, by decide, by decide +kernel⟩
theorem dJ1_indexOf_4cfef_0 : decode cJ1_indexOf_4cfef 0 = .ok (.iload_n 1, 1) := by decide +kernel
theorem dJ1_indexOf_4cfef_1 : decode cJ1_indexOf_4cfef 1 = .ok (.invokestatic 88, 3) := by decide +kernel
theorem dJ1_indexOf_4cfef_4 : decode cJ1_indexOf_4cfef 4 = .ok (.ifCond .ne 5, 3) := by decide +kernel
theorem dJ1_indexOf_4cfef_7 : decode cJ1_indexOf_4cfef 7 = .ok (.iconst (-1), 1) := by decide +kernel
theorem dJ1_indexOf_4cfef_8 : decode cJ1_indexOf_4cfef 8 = .ok (.ireturn, 1) := by decide +kernel
theorem dJ1_indexOf_4cfef_9 : decode cJ1_indexOf_4cfef 9 = .ok (.iload_n 2, 1) := by decide +kernel
theorem dJ1_indexOf_4cfef_10 : decode cJ1_indexOf_4cfef 10 = .ok (.iconst 0, 1) := by decide +kernel
theorem dJ1_indexOf_4cfef_11 : decode cJ1_indexOf_4cfef 11 = .ok (.invokestatic 92, 3) := by decide +kernel
theorem dJ1_indexOf_4cfef_14 : decode cJ1_indexOf_4cfef 14 = .ok (.istore_n 2, 1) := by decide +kernel
theorem dJ1_indexOf_4cfef_15 : decode cJ1_indexOf_4cfef 15 = .ok (.iload_n 3, 1) := by decide +kernel
theorem dJ1_indexOf_4cfef_16 : decode cJ1_indexOf_4cfef 16 = .ok (.aload_n 0, 1) := by decide +kernel
theorem dJ1_indexOf_4cfef_17 : decode cJ1_indexOf_4cfef 17 = .ok (.arraylength, 1) := by decide +kernel
theorem dJ1_indexOf_4cfef_18 : decode cJ1_indexOf_4cfef 18 = .ok (.invokestatic 38, 3) := by decide +kernel
theorem dJ1_indexOf_4cfef_21 : decode cJ1_indexOf_4cfef 21 = .ok (.istore_n 3, 1) := by decide +kernel
theorem dJ1_indexOf_4cfef_22 : decode cJ1_indexOf_4cfef 22 = .ok (.iload_n 2, 1) := by decide +kernel
theorem dJ1_indexOf_4cfef_23 : decode cJ1_indexOf_4cfef 23 = .ok (.iload_n 3, 1) := by decide +kernel
theorem dJ1_indexOf_4cfef_24 : decode cJ1_indexOf_4cfef 24 = .ok (.if_icmp .lt 5, 3) := by decide +kernel
theorem dJ1_indexOf_4cfef_27 : decode cJ1_indexOf_4cfef 27 = .ok (.iconst (-1), 1) := by decide +kernel
theorem dJ1_indexOf_4cfef_28 : decode cJ1_indexOf_4cfef 28 = .ok (.ireturn, 1) := by decide +kernel
theorem dJ1_indexOf_4cfef_29 : decode cJ1_indexOf_4cfef 29 = .ok (.aload_n 0, 1) := by decide +kernel
theorem dJ1_indexOf_4cfef_30 : decode cJ1_indexOf_4cfef 30 = .ok (.iload_n 1, 1) := by decide +kernel
theorem dJ1_indexOf_4cfef_31 : decode cJ1_indexOf_4cfef 31 = .ok (.iload_n 2, 1) := by decide +kernel
theorem dJ1_indexOf_4cfef_32 : decode cJ1_indexOf_4cfef 32 = .ok (.iload_n 3, 1) := by decide +kernel
theorem dJ1_indexOf_4cfef_33 : decode cJ1_indexOf_4cfef 33 = .ok (.invokestatic 95, 3) := by decide +kernel
theorem dJ1_indexOf_4cfef_36 : decode cJ1_indexOf_4cfef 36 = .ok (.ireturn, 1) := by decide +kernel
def l_indexOf (a1 : Int32) (a2 : Int32) (a3 : Int32) (m : M) : Option (Int32) :=
  Option.bind (l_canEncode a1 m) (fun v1 => (if v1 = 0 then some (-1 : Int32) else lt (mxI a2 (0 : Int32)) (fun w2 : Int32 => lt (mnI a3 (6 : Int32)) (fun w3 : Int32 => (if w2 < w3 then Option.bind (l_indexOfChar a1 w2 w3 m) (fun v4 => some v4) else some (-1 : Int32))))))
set_option maxRecDepth 20000 in
theorem t_l_indexOf {G : GG} {x : Cx} (E : En G x cJ1_indexOf_4cfef "java/lang/StringLatin1" 2 (some .int)) (hn : xn x = 4) (a1 : Int32) (a2 : Int32) (a3 : Int32) (m : M) : Sm G x 0 [(0, .ref (G.2.1 221)), (1, .int a1), (2, .int a2), (3, .int a3)] [] m (l_indexOf a1 a2 a3 m) (KRi m) := by
  unfold l_indexOf
  refine s_iload_n 1 E dJ1_indexOf_4cfef_0 rfl rfl ?_
  refine s_bd (fun v1 hz => ?_)
  refine s_cS (rest := []) E (C_l_canEncode (xl x) G a1 m hz) mdJ1_canEncode_9a6ad W645 W646 W106 W647 rfl rfl (Nat.le_of_ble_eq_true rfl) ⟨by decide, by decide⟩ dJ1_indexOf_4cfef_1 ?_
  refine s_if_ne 9 E dJ1_indexOf_4cfef_4 (by decide) ?_ ?_
  · refine s_iload_n 2 E dJ1_indexOf_4cfef_9 rfl rfl ?_
    refine s_iconst (v := (0 : Int32)) E dJ1_indexOf_4cfef_10 (by decide) ?_
    refine s_mmax E W648 W497 W104 W498 (by decide) (Nat.le_of_ble_eq_true rfl) dJ1_indexOf_4cfef_11 ?_
    refine s_lt (fun w2 => [(0, .ref (G.2.1 221)), (1, .int a1), (2, .int a2), (3, .int a3)]) (fun w2 => [.int w2]) rfl rfl (fun w2 => ?_)
    refine s_istore_n (lv' := [(0, .ref (G.2.1 221)), (1, .int a1), (2, .int w2), (3, .int a3)]) [1, 2, 0, 3] E dJ1_indexOf_4cfef_14 rfl (by rw [hn]; decide) rfl ?_
    refine s_iload_n 3 E dJ1_indexOf_4cfef_15 rfl rfl ?_
    refine s_aload_n 0 E dJ1_indexOf_4cfef_16 rfl rfl ?_
    refine s_strl (v := (6 : Int32)) 1 (by decide) (by decide) E dJ1_indexOf_4cfef_17 ?_
    refine s_mmin E W649 W488 W104 W489 (by decide) (Nat.le_of_ble_eq_true rfl) dJ1_indexOf_4cfef_18 ?_
    refine s_lt (fun w3 => [(0, .ref (G.2.1 221)), (1, .int a1), (2, .int w2), (3, .int a3)]) (fun w3 => [.int w3]) rfl rfl (fun w3 => ?_)
    refine s_istore_n (lv' := [(0, .ref (G.2.1 221)), (1, .int a1), (2, .int w2), (3, .int w3)]) [1, 2, 3, 0] E dJ1_indexOf_4cfef_21 rfl (by rw [hn]; decide) rfl ?_
    refine s_iload_n 2 E dJ1_indexOf_4cfef_22 rfl rfl ?_
    refine s_iload_n 3 E dJ1_indexOf_4cfef_23 rfl rfl ?_
    refine s_icmp_lt 29 E dJ1_indexOf_4cfef_24 (by decide) ?_ ?_
    · refine s_aload_n 0 E dJ1_indexOf_4cfef_29 rfl rfl ?_
      refine s_iload_n 1 E dJ1_indexOf_4cfef_30 rfl rfl ?_
      refine s_iload_n 2 E dJ1_indexOf_4cfef_31 rfl rfl ?_
      refine s_iload_n 3 E dJ1_indexOf_4cfef_32 rfl rfl ?_
      refine s_bd (fun v4 hz => ?_)
      refine s_cS (rest := []) E (C_l_indexOfChar (xl x) G a1 w2 w3 m hz) mdJ1_indexOfChar_4cfef W650 W651 W106 W652 rfl rfl (Nat.le_of_ble_eq_true rfl) ⟨by decide, by decide⟩ dJ1_indexOf_4cfef_33 ?_
      exact s_iret E rfl dJ1_indexOf_4cfef_36
    · refine s_iconst (v := (-1 : Int32)) E dJ1_indexOf_4cfef_27 (by decide) ?_
      exact s_iret E rfl dJ1_indexOf_4cfef_28
  · refine s_iconst (v := (-1 : Int32)) E dJ1_indexOf_4cfef_7 (by decide) ?_
    exact s_iret E rfl dJ1_indexOf_4cfef_8
set_option maxRecDepth 20000 in
theorem C_l_indexOf (l : Launch) (G : GG) (a1 : Int32) (a2 : Int32) (a3 : Int32) (m : M) {z : Int32} (hz : l_indexOf a1 a2 a3 m = some z) : Ct l G yJ1_indexOf_4cfef cJ1_indexOf_4cfef 4 (some .int) 2 [.ref (G.2.1 221), .int a1, .int a2, .int a3] m (some (.int z)) m :=
  ct_of (K := (KRi m)) (by decide) (Nat.le_of_ble_eq_true rfl) (congrArg (fun q => Option.bind q _) hz) (fun x hl hn E => (t_l_indexOf E hn a1 a2 a3 m))
theorem mdJ1_indexOf_4cfef : mdq yJ1_indexOf_4cfef 4 := ⟨by decide, by decide, by decide +kernel⟩
theorem dJ0_indexOf_7cf53_0 : decode cJ0_indexOf_7cf53 0 = .ok (.aload_n 0, 1) := by decide +kernel
theorem dJ0_indexOf_7cf53_1 : decode cJ0_indexOf_7cf53 1 = .ok (.invokevirtual 492, 3) := by decide +kernel
theorem dJ0_indexOf_7cf53_4 : decode cJ0_indexOf_7cf53 4 = .ok (.ifCond .eq 19, 3) := by decide +kernel
theorem dJ0_indexOf_7cf53_7 : decode cJ0_indexOf_7cf53 7 = .ok (.aload_n 0, 1) := by decide +kernel
theorem dJ0_indexOf_7cf53_8 : decode cJ0_indexOf_7cf53 8 = .ok (.getfield 9, 3) := by decide +kernel
theorem dJ0_indexOf_7cf53_11 : decode cJ0_indexOf_7cf53 11 = .ok (.iload_n 1, 1) := by decide +kernel
theorem dJ0_indexOf_7cf53_12 : decode cJ0_indexOf_7cf53 12 = .ok (.iload_n 2, 1) := by decide +kernel
theorem dJ0_indexOf_7cf53_13 : decode cJ0_indexOf_7cf53 13 = .ok (.aload_n 0, 1) := by decide +kernel
theorem dJ0_indexOf_7cf53_14 : decode cJ0_indexOf_7cf53 14 = .ok (.invokevirtual 505, 3) := by decide +kernel
theorem dJ0_indexOf_7cf53_17 : decode cJ0_indexOf_7cf53 17 = .ok (.invokestatic 637, 3) := by decide +kernel
theorem dJ0_indexOf_7cf53_20 : decode cJ0_indexOf_7cf53 20 = .ok (.goto 16, 3) := by decide +kernel
theorem dJ0_indexOf_7cf53_23 : decode cJ0_indexOf_7cf53 23 = .ok (.aload_n 0, 1) := by decide +kernel
theorem dJ0_indexOf_7cf53_24 : decode cJ0_indexOf_7cf53 24 = .ok (.getfield 9, 3) := by decide +kernel
theorem dJ0_indexOf_7cf53_27 : decode cJ0_indexOf_7cf53 27 = .ok (.iload_n 1, 1) := by decide +kernel
theorem dJ0_indexOf_7cf53_28 : decode cJ0_indexOf_7cf53 28 = .ok (.iload_n 2, 1) := by decide +kernel
theorem dJ0_indexOf_7cf53_29 : decode cJ0_indexOf_7cf53 29 = .ok (.aload_n 0, 1) := by decide +kernel
theorem dJ0_indexOf_7cf53_30 : decode cJ0_indexOf_7cf53 30 = .ok (.invokevirtual 505, 3) := by decide +kernel
theorem dJ0_indexOf_7cf53_33 : decode cJ0_indexOf_7cf53 33 = .ok (.invokestatic 640, 3) := by decide +kernel
theorem dJ0_indexOf_7cf53_36 : decode cJ0_indexOf_7cf53 36 = .ok (.ireturn, 1) := by decide +kernel
def s_indexOf_211 (a1 : Int32) (a2 : Int32) (m : M) : Option (Int32) :=
  Option.bind (s_isLatin1_211 m) (fun v1 => (if v1 = 0 then Option.bind (s_length_211 m) (fun v2 => none) else Option.bind (s_length_211 m) (fun v3 => Option.bind (l_indexOf a1 a2 v3 m) (fun v4 => some v4))))
set_option maxRecDepth 20000 in
theorem t_s_indexOf_211 {G : GG} {x : Cx} (E : En G x cJ0_indexOf_7cf53 "java/lang/String" 3 (some .int)) (hn : xn x = 3) (a1 : Int32) (a2 : Int32) (m : M) : Sm G x 0 [(0, .ref (G.2.1 211)), (1, .int a1), (2, .int a2)] [] m (s_indexOf_211 a1 a2 m) (KRi m) := by
  unfold s_indexOf_211
  refine s_aload_n 0 E dJ0_indexOf_7cf53_0 rfl rfl ?_
  refine s_bd (fun v1 hz => ?_)
  refine s_cT (rest := []) 1 (by decide) E (C_s_isLatin1_211 (xl x) G  m hz) mdJ0_isLatin1_aae02 W628 W629 W630 W105 W631 rfl rfl (Nat.le_of_ble_eq_true rfl) ⟨by decide, by decide⟩ dJ0_indexOf_7cf53_1 ?_
  refine s_if_eq 23 E dJ0_indexOf_7cf53_4 (by decide) ?_ ?_
  · refine s_aload_n 0 E dJ0_indexOf_7cf53_23 rfl rfl ?_
    refine s_strv 1 (by decide) E W1870 dJ0_indexOf_7cf53_24 ?_
    refine s_iload_n 1 E dJ0_indexOf_7cf53_27 rfl rfl ?_
    refine s_iload_n 2 E dJ0_indexOf_7cf53_28 rfl rfl ?_
    refine s_aload_n 0 E dJ0_indexOf_7cf53_29 rfl rfl ?_
    refine s_bd (fun v2 hz => ?_)
    refine s_cT (rest := [.int a2, .int a1, .ref (G.2.1 221)]) 1 (by decide) E (C_s_length_211 (xl x) G  m hz) mdJ0_length_8abf5 W634 W635 W636 W105 W637 rfl rfl (Nat.le_of_ble_eq_true rfl) ⟨by decide, by decide⟩ dJ0_indexOf_7cf53_30 ?_
    exact s_none
  · refine s_aload_n 0 E dJ0_indexOf_7cf53_7 rfl rfl ?_
    refine s_strv 1 (by decide) E W1870 dJ0_indexOf_7cf53_8 ?_
    refine s_iload_n 1 E dJ0_indexOf_7cf53_11 rfl rfl ?_
    refine s_iload_n 2 E dJ0_indexOf_7cf53_12 rfl rfl ?_
    refine s_aload_n 0 E dJ0_indexOf_7cf53_13 rfl rfl ?_
    refine s_bd (fun v3 hz => ?_)
    refine s_cT (rest := [.int a2, .int a1, .ref (G.2.1 221)]) 1 (by decide) E (C_s_length_211 (xl x) G  m hz) mdJ0_length_8abf5 W634 W635 W636 W105 W637 rfl rfl (Nat.le_of_ble_eq_true rfl) ⟨by decide, by decide⟩ dJ0_indexOf_7cf53_14 ?_
    refine s_bd (fun v4 hz => ?_)
    refine s_cS (rest := []) E (C_l_indexOf (xl x) G a1 a2 v3 m hz) mdJ1_indexOf_4cfef W642 W643 W106 W644 rfl rfl (Nat.le_of_ble_eq_true rfl) ⟨by decide, by decide⟩ dJ0_indexOf_7cf53_17 ?_
    refine s_goto 36 E dJ0_indexOf_7cf53_20 (by decide) ?_
    exact s_iret E rfl dJ0_indexOf_7cf53_36
set_option maxRecDepth 20000 in
theorem C_s_indexOf_211 (l : Launch) (G : GG) (a1 : Int32) (a2 : Int32) (m : M) {z : Int32} (hz : s_indexOf_211 a1 a2 m = some z) : Ct l G yJ0_indexOf_7cf53 cJ0_indexOf_7cf53 3 (some .int) 3 [.ref (G.2.1 211), .int a1, .int a2] m (some (.int z)) m :=
  ct_of (K := (KRi m)) (by decide) (Nat.le_of_ble_eq_true rfl) (congrArg (fun q => Option.bind q _) hz) (fun x hl hn E => (t_s_indexOf_211 E hn a1 a2 m))
theorem mdJ0_indexOf_7cf53 : mdq yJ0_indexOf_7cf53 2 := ⟨by decide, by decide, by decide +kernel⟩
theorem dJ0_indexOf_0f7a4_0 : decode cJ0_indexOf_0f7a4 0 = .ok (.aload_n 0, 1) := by decide +kernel
theorem dJ0_indexOf_0f7a4_1 : decode cJ0_indexOf_0f7a4 1 = .ok (.iload_n 1, 1) := by decide +kernel
theorem dJ0_indexOf_0f7a4_2 : decode cJ0_indexOf_0f7a4 2 = .ok (.iconst 0, 1) := by decide +kernel
theorem dJ0_indexOf_0f7a4_3 : decode cJ0_indexOf_0f7a4 3 = .ok (.invokevirtual 633, 3) := by decide +kernel
theorem dJ0_indexOf_0f7a4_6 : decode cJ0_indexOf_0f7a4 6 = .ok (.ireturn, 1) := by decide +kernel
def s_indexOf (a1 : Int32) (m : M) : Option (Int32) :=
  Option.bind (s_indexOf_211 a1 (0 : Int32) m) (fun v1 => some v1)
set_option maxRecDepth 20000 in
theorem t_s_indexOf {G : GG} {x : Cx} (E : En G x cJ0_indexOf_0f7a4 "java/lang/String" 4 (some .int)) (hn : xn x = 2) (a1 : Int32) (m : M) : Sm G x 0 [(0, .ref (G.2.1 211)), (1, .int a1)] [] m (s_indexOf a1 m) (KRi m) := by
  unfold s_indexOf
  refine s_aload_n 0 E dJ0_indexOf_0f7a4_0 rfl rfl ?_
  refine s_iload_n 1 E dJ0_indexOf_0f7a4_1 rfl rfl ?_
  refine s_iconst (v := (0 : Int32)) E dJ0_indexOf_0f7a4_2 (by decide) ?_
  refine s_bd (fun v1 hz => ?_)
  refine s_cT (rest := []) 1 (by decide) E (C_s_indexOf_211 (xl x) G a1 (0 : Int32) m hz) mdJ0_indexOf_7cf53 W624 W625 W626 W105 W627 rfl rfl (Nat.le_of_ble_eq_true rfl) ⟨by decide, by decide⟩ dJ0_indexOf_0f7a4_3 ?_
  exact s_iret E rfl dJ0_indexOf_0f7a4_6
set_option maxRecDepth 20000 in
theorem C_s_indexOf (l : Launch) (G : GG) (a1 : Int32) (m : M) {z : Int32} (hz : s_indexOf a1 m = some z) : Ct l G yJ0_indexOf_0f7a4 cJ0_indexOf_0f7a4 2 (some .int) 4 [.ref (G.2.1 211), .int a1] m (some (.int z)) m :=
  ct_of (K := (KRi m)) (by decide) (Nat.le_of_ble_eq_true rfl) (congrArg (fun q => Option.bind q _) hz) (fun x hl hn E => (t_s_indexOf E hn a1 m))
theorem mdJ0_indexOf_0f7a4 : mdq yJ0_indexOf_0f7a4 1 := ⟨by decide, by decide, by decide +kernel⟩
theorem dX9_tokenAt_0 : decode cX9_tokenAt 0 = .ok (.aload_n 0, 1) := by decide +kernel
theorem dX9_tokenAt_1 : decode cX9_tokenAt 1 = .ok (.getfield 11, 3) := by decide +kernel
theorem dX9_tokenAt_4 : decode cX9_tokenAt 4 = .ok (.iload_n 1, 1) := by decide +kernel
theorem dX9_tokenAt_5 : decode cX9_tokenAt 5 = .ok (.iaload, 1) := by decide +kernel
theorem dX9_tokenAt_6 : decode cX9_tokenAt 6 = .ok (.invokestatic 48, 3) := by decide +kernel
theorem dX9_tokenAt_9 : decode cX9_tokenAt 9 = .ok (.istore_n 2, 1) := by decide +kernel
theorem dX9_tokenAt_10 : decode cX9_tokenAt 10 = .ok (.iload_n 2, 1) := by decide +kernel
theorem dX9_tokenAt_11 : decode cX9_tokenAt 11 = .ok (.iconst 3, 1) := by decide +kernel
theorem dX9_tokenAt_12 : decode cX9_tokenAt 12 = .ok (.if_icmp .ne 30, 3) := by decide +kernel
theorem dX9_tokenAt_15 : decode cX9_tokenAt 15 = .ok (.ldc 55, 2) := by decide +kernel
theorem dX9_tokenAt_17 : decode cX9_tokenAt 17 = .ok (.aload_n 0, 1) := by decide +kernel
theorem dX9_tokenAt_18 : decode cX9_tokenAt 18 = .ok (.getfield 11, 3) := by decide +kernel
theorem dX9_tokenAt_21 : decode cX9_tokenAt 21 = .ok (.iload_n 1, 1) := by decide +kernel
theorem dX9_tokenAt_22 : decode cX9_tokenAt 22 = .ok (.iaload, 1) := by decide +kernel
theorem dX9_tokenAt_23 : decode cX9_tokenAt 23 = .ok (.i2c, 1) := by decide +kernel
theorem dX9_tokenAt_24 : decode cX9_tokenAt 24 = .ok (.invokevirtual 57, 3) := by decide +kernel
theorem dX9_tokenAt_27 : decode cX9_tokenAt 27 = .ok (.istore_n 3, 1) := by decide +kernel
theorem dX9_tokenAt_28 : decode cX9_tokenAt 28 = .ok (.iload_n 3, 1) := by decide +kernel
theorem dX9_tokenAt_29 : decode cX9_tokenAt 29 = .ok (.ifCond .ge 7, 3) := by decide +kernel
theorem dX9_tokenAt_32 : decode cX9_tokenAt 32 = .ok (.iconst (-1), 1) := by decide +kernel
theorem dX9_tokenAt_33 : decode cX9_tokenAt 33 = .ok (.goto 8, 3) := by decide +kernel
theorem dX9_tokenAt_36 : decode cX9_tokenAt 36 = .ok (.sipush 10018, 3) := by decide +kernel
theorem dX9_tokenAt_39 : decode cX9_tokenAt 39 = .ok (.iload_n 3, 1) := by decide +kernel
theorem dX9_tokenAt_40 : decode cX9_tokenAt 40 = .ok (.iadd, 1) := by decide +kernel
theorem dX9_tokenAt_41 : decode cX9_tokenAt 41 = .ok (.ireturn, 1) := by decide +kernel
theorem dX9_tokenAt_42 : decode cX9_tokenAt 42 = .ok (.iload_n 1, 1) := by decide +kernel
theorem dX9_tokenAt_43 : decode cX9_tokenAt 43 = .ok (.iconst 1, 1) := by decide +kernel
theorem dX9_tokenAt_44 : decode cX9_tokenAt 44 = .ok (.iadd, 1) := by decide +kernel
theorem dX9_tokenAt_45 : decode cX9_tokenAt 45 = .ok (.istore_n 3, 1) := by decide +kernel
theorem dX9_tokenAt_46 : decode cX9_tokenAt 46 = .ok (.iload_n 3, 1) := by decide +kernel
theorem dX9_tokenAt_47 : decode cX9_tokenAt 47 = .ok (.aload_n 0, 1) := by decide +kernel
theorem dX9_tokenAt_48 : decode cX9_tokenAt 48 = .ok (.getfield 21, 3) := by decide +kernel
theorem dX9_tokenAt_51 : decode cX9_tokenAt 51 = .ok (.if_icmp .ge 22, 3) := by decide +kernel
theorem dX9_tokenAt_54 : decode cX9_tokenAt 54 = .ok (.aload_n 0, 1) := by decide +kernel
theorem dX9_tokenAt_55 : decode cX9_tokenAt 55 = .ok (.getfield 11, 3) := by decide +kernel
theorem dX9_tokenAt_58 : decode cX9_tokenAt 58 = .ok (.iload_n 3, 1) := by decide +kernel
theorem dX9_tokenAt_59 : decode cX9_tokenAt 59 = .ok (.iaload, 1) := by decide +kernel
theorem dX9_tokenAt_60 : decode cX9_tokenAt 60 = .ok (.invokestatic 48, 3) := by decide +kernel
theorem dX9_tokenAt_63 : decode cX9_tokenAt 63 = .ok (.iload_n 2, 1) := by decide +kernel
theorem dX9_tokenAt_64 : decode cX9_tokenAt 64 = .ok (.if_icmp .ne 9, 3) := by decide +kernel
theorem dX9_tokenAt_67 : decode cX9_tokenAt 67 = .ok (.iinc 3 1, 3) := by decide +kernel
theorem dX9_tokenAt_70 : decode cX9_tokenAt 70 = .ok (.goto (-24), 3) := by decide +kernel
theorem dX9_tokenAt_73 : decode cX9_tokenAt 73 = .ok (.iload_n 2, 1) := by decide +kernel
theorem dX9_tokenAt_74 : decode cX9_tokenAt 74 = .ok (.iconst 2, 1) := by decide +kernel
theorem dX9_tokenAt_75 : decode cX9_tokenAt 75 = .ok (.if_icmp .ne 12, 3) := by decide +kernel
theorem dX9_tokenAt_78 : decode cX9_tokenAt 78 = .ok (.aload_n 0, 1) := by decide +kernel
theorem dX9_tokenAt_79 : decode cX9_tokenAt 79 = .ok (.iload_n 1, 1) := by decide +kernel
theorem dX9_tokenAt_80 : decode cX9_tokenAt 80 = .ok (.iload_n 3, 1) := by decide +kernel
theorem dX9_tokenAt_81 : decode cX9_tokenAt 81 = .ok (.invokevirtual 62, 3) := by decide +kernel
theorem dX9_tokenAt_84 : decode cX9_tokenAt 84 = .ok (.goto 9, 3) := by decide +kernel
theorem dX9_tokenAt_87 : decode cX9_tokenAt 87 = .ok (.aload_n 0, 1) := by decide +kernel
theorem dX9_tokenAt_88 : decode cX9_tokenAt 88 = .ok (.iload_n 1, 1) := by decide +kernel
theorem dX9_tokenAt_89 : decode cX9_tokenAt 89 = .ok (.iload_n 3, 1) := by decide +kernel
theorem dX9_tokenAt_90 : decode cX9_tokenAt 90 = .ok (.invokevirtual 66, 3) := by decide +kernel
theorem dX9_tokenAt_93 : decode cX9_tokenAt 93 = .ok (.ireturn, 1) := by decide +kernel
