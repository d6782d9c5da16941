set_option maxRecDepth 20000 in
theorem C_k_power (l : Launch) (G : GG) (a1 : Int32) (m : M) {z : Int32} (hz : k_power a1 m = some z) : Ct l G yX11_power cX11_power 9 (some .int) 6 [.ref (G.2.1 0), .int a1] m (some (.int z)) m :=
  ct_of (K := (KRi m)) (by decide) (Nat.le_of_ble_eq_true rfl) (congrArg (fun q => Option.bind q _) hz) (fun x hl hn E => (t_k_power E hn a1 m))
theorem dX11_packed_0 : decode cX11_packed 0 = .ok (.iload_n 0, 1) := by decide +kernel
theorem dX11_packed_1 : decode cX11_packed 1 = .ok (.i2l, 1) := by decide +kernel
theorem dX11_packed_2 : decode cX11_packed 2 = .ok (.bipush 32, 2) := by decide +kernel
theorem dX11_packed_4 : decode cX11_packed 4 = .ok (.lshl, 1) := by decide +kernel
theorem dX11_packed_5 : decode cX11_packed 5 = .ok (.iload_n 1, 1) := by decide +kernel
theorem dX11_packed_6 : decode cX11_packed 6 = .ok (.i2l, 1) := by decide +kernel
theorem dX11_packed_7 : decode cX11_packed 7 = .ok (.bipush 12, 2) := by decide +kernel
theorem dX11_packed_9 : decode cX11_packed 9 = .ok (.lshl, 1) := by decide +kernel
theorem dX11_packed_10 : decode cX11_packed 10 = .ok (.lor, 1) := by decide +kernel
theorem dX11_packed_11 : decode cX11_packed 11 = .ok (.iload_n 2, 1) := by decide +kernel
theorem dX11_packed_12 : decode cX11_packed 12 = .ok (.i2l, 1) := by decide +kernel
theorem dX11_packed_13 : decode cX11_packed 13 = .ok (.lor, 1) := by decide +kernel
theorem dX11_packed_14 : decode cX11_packed 14 = .ok (.lreturn, 1) := by decide +kernel
def k_packed (a0 : Int32) (a1 : Int32) (a2 : Int32) (m : M) : Option (Int64) :=
  some ((((Int32.toInt64 a0) <<< (Int32.toInt64 (32 : Int32) &&& 63)) ||| ((Int32.toInt64 a1) <<< (Int32.toInt64 (12 : Int32) &&& 63))) ||| (Int32.toInt64 a2))
set_option maxRecDepth 20000 in
theorem t_k_packed {G : GG} {x : Cx} (E : En G x cX11_packed "WreckBoard" 1 (some .long)) (hn : xn x = 3) (a0 : Int32) (a1 : Int32) (a2 : Int32) (m : M) : Sm G x 0 [(0, .int a0), (1, .int a1), (2, .int a2)] [] m (k_packed a0 a1 a2 m) (KRl m) := by
  unfold k_packed
  refine s_iload_n 0 E dX11_packed_0 rfl rfl ?_
  refine s_i2l E dX11_packed_1 ?_
  refine s_bipush (v := (32 : Int32)) E dX11_packed_2 (by decide) ?_
  refine s_lshl E dX11_packed_4 ?_
  refine s_iload_n 1 E dX11_packed_5 rfl rfl ?_
  refine s_i2l E dX11_packed_6 ?_
  refine s_bipush (v := (12 : Int32)) E dX11_packed_7 (by decide) ?_
  refine s_lshl E dX11_packed_9 ?_
  refine s_lor E dX11_packed_10 ?_
  refine s_iload_n 2 E dX11_packed_11 rfl rfl ?_
  refine s_i2l E dX11_packed_12 ?_
  refine s_lor E dX11_packed_13 ?_
  exact s_lret E rfl dX11_packed_14
set_option maxRecDepth 20000 in
theorem C_k_packed (l : Launch) (G : GG) (a0 : Int32) (a1 : Int32) (a2 : Int32) (m : M) {z : Int64} (hz : k_packed a0 a1 a2 m = some z) : Ct l G yX11_packed cX11_packed 3 (some .long) 1 [.int a0, .int a1, .int a2] m (some (.long z)) m :=
  ct_of (K := (KRl m)) (by decide) (Nat.le_of_ble_eq_true rfl) (congrArg (fun q => Option.bind q _) hz) (fun x hl hn E => (t_k_packed E hn a0 a1 a2 m))
theorem mdX11_packed : mdq yX11_packed 3 := ⟨by decide, by decide, by decide +kernel⟩
theorem mdX11_bestPlans : mdq yX11_bestPlans 2 := ⟨by decide, by decide, by decide +kernel⟩
theorem dX11_worthOf_0 : decode cX11_worthOf 0 = .ok (.lload_n 0, 1) := by decide +kernel
theorem dX11_worthOf_1 : decode cX11_worthOf 1 = .ok (.bipush 32, 2) := by decide +kernel
theorem dX11_worthOf_3 : decode cX11_worthOf 3 = .ok (.lshr, 1) := by decide +kernel
theorem dX11_worthOf_4 : decode cX11_worthOf 4 = .ok (.l2i, 1) := by decide +kernel
theorem dX11_worthOf_5 : decode cX11_worthOf 5 = .ok (.ireturn, 1) := by decide +kernel
def k_worthOf (a0 : Int64) (m : M) : Option (Int32) :=
  some (Int64.toInt32 (a0 >>> (Int32.toInt64 (32 : Int32) &&& 63)))
set_option maxRecDepth 20000 in
theorem t_k_worthOf {G : GG} {x : Cx} (E : En G x cX11_worthOf "WreckBoard" 1 (some .int)) (hn : xn x = 2) (a0 : Int64) (m : M) : Sm G x 0 [(0, .long a0)] [] m (k_worthOf a0 m) (KRi m) := by
  unfold k_worthOf
  refine s_lload_n 0 E dX11_worthOf_0 rfl rfl ?_
  refine s_bipush (v := (32 : Int32)) E dX11_worthOf_1 (by decide) ?_
  refine s_lshr E dX11_worthOf_3 ?_
  refine s_l2i E dX11_worthOf_4 ?_
  exact s_iret E rfl dX11_worthOf_5
set_option maxRecDepth 20000 in
theorem C_k_worthOf (l : Launch) (G : GG) (a0 : Int64) (m : M) {z : Int32} (hz : k_worthOf a0 m = some z) : Ct l G yX11_worthOf cX11_worthOf 2 (some .int) 1 [.long a0] m (some (.int z)) m :=
  ct_of (K := (KRi m)) (by decide) (Nat.le_of_ble_eq_true rfl) (congrArg (fun q => Option.bind q _) hz) (fun x hl hn E => (t_k_worthOf E hn a0 m))
theorem mdX11_worthOf : mdq yX11_worthOf 1 := ⟨by decide, by decide, by decide +kernel⟩
theorem dX11_waysOf_0 : decode cX11_waysOf 0 = .ok (.lload_n 0, 1) := by decide +kernel
theorem dX11_waysOf_1 : decode cX11_waysOf 1 = .ok (.bipush 12, 2) := by decide +kernel
theorem dX11_waysOf_3 : decode cX11_waysOf 3 = .ok (.lshr, 1) := by decide +kernel
theorem dX11_waysOf_4 : decode cX11_waysOf 4 = .ok (.l2i, 1) := by decide +kernel
theorem dX11_waysOf_5 : decode cX11_waysOf 5 = .ok (.ldc_w 260, 3) := by decide +kernel
theorem dX11_waysOf_8 : decode cX11_waysOf 8 = .ok (.iand, 1) := by decide +kernel
theorem dX11_waysOf_9 : decode cX11_waysOf 9 = .ok (.ireturn, 1) := by decide +kernel
def k_waysOf (a0 : Int64) (m : M) : Option (Int32) :=
  some ((Int64.toInt32 (a0 >>> (Int32.toInt64 (12 : Int32) &&& 63))) &&& (1048575 : Int32))
set_option maxRecDepth 20000 in
theorem t_k_waysOf {G : GG} {x : Cx} (E : En G x cX11_waysOf "WreckBoard" 1 (some .int)) (hn : xn x = 2) (a0 : Int64) (m : M) : Sm G x 0 [(0, .long a0)] [] m (k_waysOf a0 m) (KRi m) := by
  unfold k_waysOf
  refine s_lload_n 0 E dX11_waysOf_0 rfl rfl ?_
  refine s_bipush (v := (12 : Int32)) E dX11_waysOf_1 (by decide) ?_
  refine s_lshr E dX11_waysOf_3 ?_
  refine s_l2i E dX11_waysOf_4 ?_
  refine s_ldcw (v := (1048575 : Int32)) E dX11_waysOf_5 W919 ?_
  refine s_iand E dX11_waysOf_8 ?_
  exact s_iret E rfl dX11_waysOf_9
set_option maxRecDepth 20000 in
theorem C_k_waysOf (l : Launch) (G : GG) (a0 : Int64) (m : M) {z : Int32} (hz : k_waysOf a0 m = some z) : Ct l G yX11_waysOf cX11_waysOf 2 (some .int) 1 [.long a0] m (some (.int z)) m :=
  ct_of (K := (KRi m)) (by decide) (Nat.le_of_ble_eq_true rfl) (congrArg (fun q => Option.bind q _) hz) (fun x hl hn E => (t_k_waysOf E hn a0 m))
theorem mdX11_waysOf : mdq yX11_waysOf 1 := ⟨by decide, by decide, by decide +kernel⟩
theorem dX11_actsOf_0 : decode cX11_actsOf 0 = .ok (.lload_n 0, 1) := by decide +kernel
theorem dX11_actsOf_1 : decode cX11_actsOf 1 = .ok (.l2i, 1) := by decide +kernel
theorem dX11_actsOf_2 : decode cX11_actsOf 2 = .ok (.sipush 4095, 3) := by decide +kernel
theorem dX11_actsOf_5 : decode cX11_actsOf 5 = .ok (.iand, 1) := by decide +kernel
theorem dX11_actsOf_6 : decode cX11_actsOf 6 = .ok (.ireturn, 1) := by decide +kernel
def k_actsOf (a0 : Int64) (m : M) : Option (Int32) :=
  some ((Int64.toInt32 a0) &&& (4095 : Int32))
set_option maxRecDepth 20000 in
theorem t_k_actsOf {G : GG} {x : Cx} (E : En G x cX11_actsOf "WreckBoard" 1 (some .int)) (hn : xn x = 2) (a0 : Int64) (m : M) : Sm G x 0 [(0, .long a0)] [] m (k_actsOf a0 m) (KRi m) := by
  unfold k_actsOf
  refine s_lload_n 0 E dX11_actsOf_0 rfl rfl ?_
  refine s_l2i E dX11_actsOf_1 ?_
  refine s_sipush (v := (4095 : Int32)) E dX11_actsOf_2 (by decide) ?_
  refine s_iand E dX11_actsOf_5 ?_
  exact s_iret E rfl dX11_actsOf_6
set_option maxRecDepth 20000 in
theorem C_k_actsOf (l : Launch) (G : GG) (a0 : Int64) (m : M) {z : Int32} (hz : k_actsOf a0 m = some z) : Ct l G yX11_actsOf cX11_actsOf 2 (some .int) 1 [.long a0] m (some (.int z)) m :=
  ct_of (K := (KRi m)) (by decide) (Nat.le_of_ble_eq_true rfl) (congrArg (fun q => Option.bind q _) hz) (fun x hl hn E => (t_k_actsOf E hn a0 m))
theorem mdX11_actsOf : mdq yX11_actsOf 1 := ⟨by decide, by decide, by decide +kernel⟩
theorem dX11_bestPlans_0 : decode cX11_bestPlans 0 = .ok (.iload_n 1, 1) := by decide +kernel
theorem dX11_bestPlans_1 : decode cX11_bestPlans 1 = .ok (.ifCond .le 10, 3) := by decide +kernel
theorem dX11_bestPlans_4 : decode cX11_bestPlans 4 = .ok (.aload_n 0, 1) := by decide +kernel
theorem dX11_bestPlans_5 : decode cX11_bestPlans 5 = .ok (.invokevirtual 148, 3) := by decide +kernel
theorem dX11_bestPlans_8 : decode cX11_bestPlans 8 = .ok (.ifCond .eq 10, 3) := by decide +kernel
theorem dX11_bestPlans_11 : decode cX11_bestPlans 11 = .ok (.iconst 0, 1) := by decide +kernel
theorem dX11_bestPlans_12 : decode cX11_bestPlans 12 = .ok (.iconst 1, 1) := by decide +kernel
theorem dX11_bestPlans_13 : decode cX11_bestPlans 13 = .ok (.iconst 0, 1) := by decide +kernel
theorem dX11_bestPlans_14 : decode cX11_bestPlans 14 = .ok (.invokestatic 250, 3) := by decide +kernel
theorem dX11_bestPlans_17 : decode cX11_bestPlans 17 = .ok (.lreturn, 1) := by decide +kernel
theorem dX11_bestPlans_18 : decode cX11_bestPlans 18 = .ok (.aload_n 0, 1) := by decide +kernel
theorem dX11_bestPlans_19 : decode cX11_bestPlans 19 = .ok (.invokevirtual 178, 3) := by decide +kernel
theorem dX11_bestPlans_22 : decode cX11_bestPlans 22 = .ok (.lstore_n 2, 1) := by decide +kernel
theorem dX11_bestPlans_23 : decode cX11_bestPlans 23 = .ok (.iconst (-1), 1) := by decide +kernel
theorem dX11_bestPlans_24 : decode cX11_bestPlans 24 = .ok (.istore 4, 2) := by decide +kernel
theorem dX11_bestPlans_26 : decode cX11_bestPlans 26 = .ok (.iconst 0, 1) := by decide +kernel
theorem dX11_bestPlans_27 : decode cX11_bestPlans 27 = .ok (.istore 5, 2) := by decide +kernel
theorem dX11_bestPlans_29 : decode cX11_bestPlans 29 = .ok (.iconst 0, 1) := by decide +kernel
theorem dX11_bestPlans_30 : decode cX11_bestPlans 30 = .ok (.istore 6, 2) := by decide +kernel
theorem dX11_bestPlans_32 : decode cX11_bestPlans 32 = .ok (.aload_n 0, 1) := by decide +kernel
theorem dX11_bestPlans_33 : decode cX11_bestPlans 33 = .ok (.invokevirtual 102, 3) := by decide +kernel
theorem dX11_bestPlans_36 : decode cX11_bestPlans 36 = .ok (.istore 7, 2) := by decide +kernel
theorem dX11_bestPlans_38 : decode cX11_bestPlans 38 = .ok (.iconst 0, 1) := by decide +kernel
theorem dX11_bestPlans_39 : decode cX11_bestPlans 39 = .ok (.istore 8, 2) := by decide +kernel
theorem dX11_bestPlans_41 : decode cX11_bestPlans 41 = .ok (.iload 8, 2) := by decide +kernel
theorem dX11_bestPlans_43 : decode cX11_bestPlans 43 = .ok (.aload_n 0, 1) := by decide +kernel
theorem dX11_bestPlans_44 : decode cX11_bestPlans 44 = .ok (.getfield 65, 3) := by decide +kernel
theorem dX11_bestPlans_47 : decode cX11_bestPlans 47 = .ok (.if_icmp .gt 86, 3) := by decide +kernel
theorem dX11_bestPlans_50 : decode cX11_bestPlans 50 = .ok (.aload_n 0, 1) := by decide +kernel
theorem dX11_bestPlans_51 : decode cX11_bestPlans 51 = .ok (.iload 8, 2) := by decide +kernel
theorem dX11_bestPlans_53 : decode cX11_bestPlans 53 = .ok (.iload 7, 2) := by decide +kernel
theorem dX11_bestPlans_55 : decode cX11_bestPlans 55 = .ok (.invokevirtual 254, 3) := by decide +kernel
theorem dX11_bestPlans_58 : decode cX11_bestPlans 58 = .ok (.istore 9, 2) := by decide +kernel
theorem dX11_bestPlans_60 : decode cX11_bestPlans 60 = .ok (.aload_n 0, 1) := by decide +kernel
theorem dX11_bestPlans_61 : decode cX11_bestPlans 61 = .ok (.iload_n 1, 1) := by decide +kernel
theorem dX11_bestPlans_62 : decode cX11_bestPlans 62 = .ok (.iconst 1, 1) := by decide +kernel
theorem dX11_bestPlans_63 : decode cX11_bestPlans 63 = .ok (.isub, 1) := by decide +kernel
theorem dX11_bestPlans_64 : decode cX11_bestPlans 64 = .ok (.invokestatic 225, 3) := by decide +kernel
theorem dX11_bestPlans_67 : decode cX11_bestPlans 67 = .ok (.lstore 10, 2) := by decide +kernel
theorem dX11_bestPlans_69 : decode cX11_bestPlans 69 = .ok (.aload_n 0, 1) := by decide +kernel
theorem dX11_bestPlans_70 : decode cX11_bestPlans 70 = .ok (.lload_n 2, 1) := by decide +kernel
theorem dX11_bestPlans_71 : decode cX11_bestPlans 71 = .ok (.invokevirtual 185, 3) := by decide +kernel
theorem dX11_bestPlans_74 : decode cX11_bestPlans 74 = .ok (.iload 9, 2) := by decide +kernel
theorem dX11_bestPlans_76 : decode cX11_bestPlans 76 = .ok (.lload 10, 2) := by decide +kernel
theorem dX11_bestPlans_78 : decode cX11_bestPlans 78 = .ok (.invokestatic 229, 3) := by decide +kernel
theorem dX11_bestPlans_81 : decode cX11_bestPlans 81 = .ok (.iadd, 1) := by decide +kernel
theorem dX11_bestPlans_82 : decode cX11_bestPlans 82 = .ok (.istore 9, 2) := by decide +kernel
theorem dX11_bestPlans_84 : decode cX11_bestPlans 84 = .ok (.iload 9, 2) := by decide +kernel
theorem dX11_bestPlans_86 : decode cX11_bestPlans 86 = .ok (.iload 4, 2) := by decide +kernel
theorem dX11_bestPlans_88 : decode cX11_bestPlans 88 = .ok (.if_icmp .le 22, 3) := by decide +kernel
theorem dX11_bestPlans_91 : decode cX11_bestPlans 91 = .ok (.iload 9, 2) := by decide +kernel
theorem dX11_bestPlans_93 : decode cX11_bestPlans 93 = .ok (.istore 4, 2) := by decide +kernel
theorem dX11_bestPlans_95 : decode cX11_bestPlans 95 = .ok (.iconst 0, 1) := by decide +kernel
theorem dX11_bestPlans_96 : decode cX11_bestPlans 96 = .ok (.istore 5, 2) := by decide +kernel
theorem dX11_bestPlans_98 : decode cX11_bestPlans 98 = .ok (.iload 8, 2) := by decide +kernel
theorem dX11_bestPlans_100 : decode cX11_bestPlans 100 = .ok (.lload 10, 2) := by decide +kernel
theorem dX11_bestPlans_102 : decode cX11_bestPlans 102 = .ok (.invokestatic 257, 3) := by decide +kernel
theorem dX11_bestPlans_105 : decode cX11_bestPlans 105 = .ok (.iconst 3, 1) := by decide +kernel
theorem dX11_bestPlans_106 : decode cX11_bestPlans 106 = .ok (.ishl, 1) := by decide +kernel
theorem dX11_bestPlans_107 : decode cX11_bestPlans 107 = .ok (.ior, 1) := by decide +kernel
theorem dX11_bestPlans_108 : decode cX11_bestPlans 108 = .ok (.istore 6, 2) := by decide +kernel
theorem dX11_bestPlans_110 : decode cX11_bestPlans 110 = .ok (.iload 9, 2) := by decide +kernel
theorem dX11_bestPlans_112 : decode cX11_bestPlans 112 = .ok (.iload 4, 2) := by decide +kernel
theorem dX11_bestPlans_114 : decode cX11_bestPlans 114 = .ok (.if_icmp .ne 13, 3) := by decide +kernel
theorem dX11_bestPlans_117 : decode cX11_bestPlans 117 = .ok (.iload 5, 2) := by decide +kernel
theorem dX11_bestPlans_119 : decode cX11_bestPlans 119 = .ok (.lload 10, 2) := by decide +kernel
theorem dX11_bestPlans_121 : decode cX11_bestPlans 121 = .ok (.invokestatic 236, 3) := by decide +kernel
theorem dX11_bestPlans_124 : decode cX11_bestPlans 124 = .ok (.iadd, 1) := by decide +kernel
theorem dX11_bestPlans_125 : decode cX11_bestPlans 125 = .ok (.istore 5, 2) := by decide +kernel
theorem dX11_bestPlans_127 : decode cX11_bestPlans 127 = .ok (.iinc 8 1, 3) := by decide +kernel
theorem dX11_bestPlans_130 : decode cX11_bestPlans 130 = .ok (.goto (-89), 3) := by decide +kernel
theorem dX11_bestPlans_133 : decode cX11_bestPlans 133 = .ok (.iload 4, 2) := by decide +kernel
theorem dX11_bestPlans_135 : decode cX11_bestPlans 135 = .ok (.iload 5, 2) := by decide +kernel
theorem dX11_bestPlans_137 : decode cX11_bestPlans 137 = .ok (.iload 6, 2) := by decide +kernel
theorem dX11_bestPlans_139 : decode cX11_bestPlans 139 = .ok (.invokestatic 250, 3) := by decide +kernel
theorem dX11_bestPlans_142 : decode cX11_bestPlans 142 = .ok (.lreturn, 1) := by decide +kernel
def k_bestPlans_11 (rec : Int32 → M → Option (Int64 × M))  (m : M) : Option (Int64 × M) :=
  Option.bind (k_packed (0 : Int32) (1 : Int32) (0 : Int32) m) (fun v1 => some (v1, m))
set_option maxRecDepth 20000 in
theorem t_k_bestPlans_11 {G : GG} {x : Cx} {lv0 : Nat} (E : En G x cX11_bestPlans "WreckBoard" (lv0 + 1) (some .long)) (hn : xn x = 12) (rec : Int32 → M → Option (Int64 × M)) (hlb : 5 ≤ lv0) (hrec : ∀ (a1 : Int32) (m : M) (z : Int64 × M), rec a1 m = some z → Ct (xl x) G yX11_bestPlans cX11_bestPlans 12 (some .long) lv0 [.ref (G.2.1 1), .int a1] m (some (.long z.1)) z.2)  (m : M) : Sm G x 11 [] [] m (k_bestPlans_11 rec m) KWl := by
  unfold k_bestPlans_11
  refine s_iconst (v := (0 : Int32)) E dX11_bestPlans_11 (by decide) ?_
  refine s_iconst (v := (1 : Int32)) E dX11_bestPlans_12 (by decide) ?_
  refine s_iconst (v := (0 : Int32)) E dX11_bestPlans_13 (by decide) ?_
  refine s_bd (fun v1 hz => ?_)
  refine s_cS (rest := []) E (C_k_packed (xl x) G (0 : Int32) (1 : Int32) (0 : Int32) m hz) mdX11_packed W906 W907 W91 W908 rfl rfl (Nat.le_of_ble_eq_true rfl) ⟨by omega, by omega⟩ dX11_bestPlans_14 ?_
  exact s_lret E rfl dX11_bestPlans_17
def k_bestPlans_127 (rec : Int32 → M → Option (Int64 × M)) (a1 : Int32) (a2 : Int64) (a4 : Int32) (a5 : Int32) (a6 : Int32) (a7 : Int32) (a8 : Int32) (m : M) : Option ((Int32 × Int32 × Int32 × Int32 × M) ⊕ ((Int32 × Int32 × Int32 × M))) :=
  lt (a8 + (1 : Int32)) (fun w1 : Int32 => some (.inl (a4, a5, a6, w1, m)))
set_option maxRecDepth 20000 in
theorem t_k_bestPlans_127 {G : GG} {x : Cx} {lv0 : Nat} {K : ((Int32 × Int32 × Int32 × Int32 × M) ⊕ ((Int32 × Int32 × Int32 × M))) → Option (Option Value × M)} (E : En G x cX11_bestPlans "WreckBoard" (lv0 + 1) (some .long)) (hn : xn x = 12) (rec : Int32 → M → Option (Int64 × M)) (hlb : 5 ≤ lv0) (hrec : ∀ (a1 : Int32) (m : M) (z : Int64 × M), rec a1 m = some z → Ct (xl x) G yX11_bestPlans cX11_bestPlans 12 (some .long) lv0 [.ref (G.2.1 1), .int a1] m (some (.long z.1)) z.2) (a1 : Int32) (a2 : Int64) (a4 : Int32) (a5 : Int32) (a6 : Int32) (a7 : Int32) (a8 : Int32) (m : M) (hb : ∀ z : Int32 × Int32 × Int32 × Int32 × M, Sm G x 41 [(0, .ref (G.2.1 1)), (1, .int a1), (2, .long a2), (4, .int z.1), (5, .int z.2.1), (6, .int z.2.2.1), (7, .int a7), (8, .int z.2.2.2.1)] [] z.2.2.2.2 (some (.inl z)) K) (hx0 : ∀ z : Int32 × Int32 × Int32 × M, Sm G x 133 [(4, .int z.1), (5, .int z.2.1), (6, .int z.2.2.1)] [] z.2.2.2 (some (.inr z)) K) : Sm G x 127 [(0, .ref (G.2.1 1)), (1, .int a1), (2, .long a2), (4, .int a4), (5, .int a5), (6, .int a6), (7, .int a7), (8, .int a8)] [] m (k_bestPlans_127 rec a1 a2 a4 a5 a6 a7 a8 m) K := by
  unfold k_bestPlans_127
  refine s_iincL (v := (1 : Int32)) 7 [1, 2, 3, 4, 5, 6, 7, 0] (fun w1 => [(0, .ref (G.2.1 1)), (1, .int a1), (2, .long a2), (4, .int a4), (5, .int a5), (6, .int a6), (7, .int a7), (8, .int w1)]) E dX11_bestPlans_127 rfl (by decide) (by rw [hn]; decide) (fun _ => rfl) (fun w1 => ?_)
  refine s_goto 41 E dX11_bestPlans_130 (by decide) ?_
  exact hb (a4, a5, a6, w1, m)
def k_bestPlans_110 (rec : Int32 → M → Option (Int64 × M)) (a1 : Int32) (a2 : Int64) (a4 : Int32) (a5 : Int32) (a6 : Int32) (a7 : Int32) (a8 : Int32) (a9 : Int32) (a10 : Int64) (m : M) : Option ((Int32 × Int32 × Int32 × Int32 × M) ⊕ ((Int32 × Int32 × Int32 × M))) :=
  (if a9 = a4 then Option.bind (k_waysOf a10 m) (fun v1 => lt (a5 + v1) (fun w2 : Int32 => k_bestPlans_127 rec a1 a2 a4 w2 a6 a7 a8 m)) else k_bestPlans_127 rec a1 a2 a4 a5 a6 a7 a8 m)
set_option maxRecDepth 20000 in
theorem t_k_bestPlans_110 {G : GG} {x : Cx} {lv0 : Nat} {K : ((Int32 × Int32 × Int32 × Int32 × M) ⊕ ((Int32 × Int32 × Int32 × M))) → Option (Option Value × M)} (E : En G x cX11_bestPlans "WreckBoard" (lv0 + 1) (some .long)) (hn : xn x = 12) (rec : Int32 → M → Option (Int64 × M)) (hlb : 5 ≤ lv0) (hrec : ∀ (a1 : Int32) (m : M) (z : Int64 × M), rec a1 m = some z → Ct (xl x) G yX11_bestPlans cX11_bestPlans 12 (some .long) lv0 [.ref (G.2.1 1), .int a1] m (some (.long z.1)) z.2) (a1 : Int32) (a2 : Int64) (a4 : Int32) (a5 : Int32) (a6 : Int32) (a7 : Int32) (a8 : Int32) (a9 : Int32) (a10 : Int64) (m : M) (hb : ∀ z : Int32 × Int32 × Int32 × Int32 × M, Sm G x 41 [(0, .ref (G.2.1 1)), (1, .int a1), (2, .long a2), (4, .int z.1), (5, .int z.2.1), (6, .int z.2.2.1), (7, .int a7), (8, .int z.2.2.2.1)] [] z.2.2.2.2 (some (.inl z)) K) (hx0 : ∀ z : Int32 × Int32 × Int32 × M, Sm G x 133 [(4, .int z.1), (5, .int z.2.1), (6, .int z.2.2.1)] [] z.2.2.2 (some (.inr z)) K) : Sm G x 110 [(0, .ref (G.2.1 1)), (1, .int a1), (2, .long a2), (4, .int a4), (5, .int a5), (6, .int a6), (7, .int a7), (8, .int a8), (9, .int a9), (10, .long a10)] [] m (k_bestPlans_110 rec a1 a2 a4 a5 a6 a7 a8 a9 a10 m) K := by
  unfold k_bestPlans_110
  refine s_iload 8 E dX11_bestPlans_110 rfl ?_
  refine s_iload 3 E dX11_bestPlans_112 rfl ?_
  refine s_icmp_ne 127 E dX11_bestPlans_114 (by decide) ?_ ?_
  · refine s_sub (lv' := [(0, .ref (G.2.1 1)), (1, .int a1), (2, .long a2), (4, .int a4), (5, .int a5), (6, .int a6), (7, .int a7), (8, .int a8)]) [0, 1, 2, 3, 4, 5, 6, 7] rfl ?_
    exact t_k_bestPlans_127 E hn rec hlb hrec a1 a2 a4 a5 a6 a7 a8 m hb hx0
  · refine s_iload 4 E dX11_bestPlans_117 rfl ?_
    refine s_lload 9 E dX11_bestPlans_119 rfl ?_
    refine s_bd (fun v1 hz => ?_)
    refine s_cS (rest := [.int a5]) E (C_k_waysOf (xl x) G a10 m hz) mdX11_waysOf W916 W917 W91 W918 rfl rfl (Nat.le_of_ble_eq_true rfl) ⟨by omega, by omega⟩ dX11_bestPlans_121 ?_
    refine s_iadd E dX11_bestPlans_124 ?_
    refine s_lt (fun w2 => [(0, .ref (G.2.1 1)), (1, .int a1), (2, .long a2), (4, .int a4), (5, .int a5), (6, .int a6), (7, .int a7), (8, .int a8), (9, .int a9), (10, .long a10)]) (fun w2 => [.int w2]) rfl rfl (fun w2 => ?_)
    refine s_istore (lv' := [(0, .ref (G.2.1 1)), (1, .int a1), (2, .long a2), (4, .int a4), (5, .int w2), (6, .int a6), (7, .int a7), (8, .int a8)]) [1, 2, 3, 4, 0, 5, 6, 7] E dX11_bestPlans_125 (by rw [hn]; decide) rfl ?_
    exact t_k_bestPlans_127 E hn rec hlb hrec a1 a2 a4 w2 a6 a7 a8 m hb hx0
def k_bestPlans_41b (rec : Int32 → M → Option (Int64 × M)) (a1 : Int32) (a2 : Int64) (a4 : Int32) (a5 : Int32) (a6 : Int32) (a7 : Int32) (a8 : Int32) (m : M) : Option ((Int32 × Int32 × Int32 × Int32 × M) ⊕ ((Int32 × Int32 × Int32 × M))) :=
  (if (m 1 6) < a8 then some (.inr (a4, a5, a6, m)) else Option.bind (b_goesBy a8 a7 m) (fun z1 => Option.bind (rec (a1 - (1 : Int32)) z1.2) (fun z2 => Option.bind (b_goBackTo a2 z2.2) (fun m3 => Option.bind (k_worthOf z2.1 m3) (fun v4 => lt (z1.1 + v4) (fun w5 : Int32 => (if w5 ≤ a4 then k_bestPlans_110 rec a1 a2 a4 a5 a6 a7 a8 w5 z2.1 m3 else Option.bind (k_actsOf z2.1 m3) (fun v6 => lt (a8 ||| (v6 <<< ((3 : Int32) &&& 31))) (fun w7 : Int32 => k_bestPlans_110 rec a1 a2 w5 (0 : Int32) w7 a7 a8 w5 z2.1 m3)))))))))
set_option maxRecDepth 20000 in
theorem t_k_bestPlans_41b {G : GG} {x : Cx} {lv0 : Nat} {K : ((Int32 × Int32 × Int32 × Int32 × M) ⊕ ((Int32 × Int32 × Int32 × M))) → Option (Option Value × M)} (E : En G x cX11_bestPlans "WreckBoard" (lv0 + 1) (some .long)) (hn : xn x = 12) (rec : Int32 → M → Option (Int64 × M)) (hlb : 5 ≤ lv0) (hrec : ∀ (a1 : Int32) (m : M) (z : Int64 × M), rec a1 m = some z → Ct (xl x) G yX11_bestPlans cX11_bestPlans 12 (some .long) lv0 [.ref (G.2.1 1), .int a1] m (some (.long z.1)) z.2) (a1 : Int32) (a2 : Int64) (a4 : Int32) (a5 : Int32) (a6 : Int32) (a7 : Int32) (a8 : Int32) (m : M) (hb : ∀ z : Int32 × Int32 × Int32 × Int32 × M, Sm G x 41 [(0, .ref (G.2.1 1)), (1, .int a1), (2, .long a2), (4, .int z.1), (5, .int z.2.1), (6, .int z.2.2.1), (7, .int a7), (8, .int z.2.2.2.1)] [] z.2.2.2.2 (some (.inl z)) K) (hx0 : ∀ z : Int32 × Int32 × Int32 × M, Sm G x 133 [(4, .int z.1), (5, .int z.2.1), (6, .int z.2.2.1)] [] z.2.2.2 (some (.inr z)) K) : Sm G x 41 [(0, .ref (G.2.1 1)), (1, .int a1), (2, .long a2), (4, .int a4), (5, .int a5), (6, .int a6), (7, .int a7), (8, .int a8)] [] m (k_bestPlans_41b rec a1 a2 a4 a5 a6 a7 a8 m) K := by
  unfold k_bestPlans_41b
  refine s_iload 7 E dX11_bestPlans_41 rfl ?_
  refine s_aload_n 0 E dX11_bestPlans_43 rfl rfl ?_
  refine s_geti (k := 6) (T := TX0) 1 E rfl rfl rfl inX0 (by decide) W237 dX11_bestPlans_44 ?_
  refine s_icmp_gt 133 E dX11_bestPlans_47 (by decide) ?_ ?_
  · refine s_sub (lv' := [(4, .int a4), (5, .int a5), (6, .int a6)]) [3, 4, 5] rfl ?_
    exact hx0 (a4, a5, a6, m)
  · refine s_aload_n 0 E dX11_bestPlans_50 rfl rfl ?_
    refine s_iload 7 E dX11_bestPlans_51 rfl ?_
    refine s_iload 6 E dX11_bestPlans_53 rfl ?_
    refine s_bd (fun z1 hz => ?_)
    refine s_cV (rest := []) E (C_b_goesBy (xl x) G a8 a7 m hz) mdX0_goesBy W909 W799 W800 W92 W801 rfl rfl rfl rfl (Nat.le_of_ble_eq_true rfl) ⟨by omega, by omega⟩ dX11_bestPlans_55 ?_
    refine s_istore (lv' := [(0, .ref (G.2.1 1)), (1, .int a1), (2, .long a2), (4, .int a4), (5, .int a5), (6, .int a6), (7, .int a7), (8, .int a8), (9, .int z1.1)]) [1, 2, 3, 4, 5, 6, 7, 8, 0] E dX11_bestPlans_58 (by rw [hn]; decide) rfl ?_
    refine s_aload_n 0 E dX11_bestPlans_60 rfl rfl ?_
    refine s_iload_n 1 E dX11_bestPlans_61 rfl rfl ?_
    refine s_iconst (v := (1 : Int32)) E dX11_bestPlans_62 (by decide) ?_
    refine s_isub E dX11_bestPlans_63 ?_
    refine s_bd (fun z2 hz => ?_)
    refine s_cS (rest := []) E (hrec (a1 - (1 : Int32)) z1.2 z2 hz) mdX11_bestPlans W903 W904 W91 W905 rfl rfl (Nat.le_of_ble_eq_true rfl) ⟨by omega, by omega⟩ dX11_bestPlans_64 ?_
    refine s_lstore (lv' := [(0, .ref (G.2.1 1)), (1, .int a1), (2, .long a2), (4, .int a4), (5, .int a5), (6, .int a6), (7, .int a7), (8, .int a8), (9, .int z1.1), (10, .long z2.1)]) [1, 2, 3, 4, 5, 6, 7, 8, 9, 0] E dX11_bestPlans_67 (by rw [hn]; decide) rfl ?_
    refine s_aload_n 0 E dX11_bestPlans_69 rfl rfl ?_
    refine s_lload_n 2 E dX11_bestPlans_70 rfl rfl ?_
    refine s_bd (fun m3 hz => ?_)
    refine s_cV (rest := []) E (C_b_goBackTo (xl x) G a2 z2.2 hz) mdX0_goBackTo W835 W836 W837 W92 W838 rfl rfl rfl rfl (Nat.le_of_ble_eq_true rfl) ⟨by omega, by omega⟩ dX11_bestPlans_71 ?_
    refine s_iload 8 E dX11_bestPlans_74 rfl ?_
    refine s_lload 9 E dX11_bestPlans_76 rfl ?_
    refine s_bd (fun v4 hz => ?_)
    refine s_cS (rest := [.int z1.1]) E (C_k_worthOf (xl x) G z2.1 m3 hz) mdX11_worthOf W910 W911 W91 W912 rfl rfl (Nat.le_of_ble_eq_true rfl) ⟨by omega, by omega⟩ dX11_bestPlans_78 ?_
    refine s_iadd E dX11_bestPlans_81 ?_
    refine s_lt (fun w5 => [(0, .ref (G.2.1 1)), (1, .int a1), (2, .long a2), (4, .int a4), (5, .int a5), (6, .int a6), (7, .int a7), (8, .int a8), (9, .int z1.1), (10, .long z2.1)]) (fun w5 => [.int w5]) rfl rfl (fun w5 => ?_)
    refine s_istore (lv' := [(0, .ref (G.2.1 1)), (1, .int a1), (2, .long a2), (4, .int a4), (5, .int a5), (6, .int a6), (7, .int a7), (8, .int a8), (9, .int w5), (10, .long z2.1)]) [1, 2, 3, 4, 5, 6, 7, 8, 0, 9] E dX11_bestPlans_82 (by rw [hn]; decide) rfl ?_
    refine s_iload 8 E dX11_bestPlans_84 rfl ?_
    refine s_iload 3 E dX11_bestPlans_86 rfl ?_
    refine s_icmp_le 110 E dX11_bestPlans_88 (by decide) ?_ ?_
    · exact t_k_bestPlans_110 E hn rec hlb hrec a1 a2 a4 a5 a6 a7 a8 w5 z2.1 m3 hb hx0
    · refine s_iload 8 E dX11_bestPlans_91 rfl ?_
      refine s_istore (lv' := [(0, .ref (G.2.1 1)), (1, .int a1), (2, .long a2), (4, .int w5), (7, .int a7), (8, .int a8), (9, .int w5), (10, .long z2.1)]) [1, 2, 3, 0, 6, 7, 8, 9] E dX11_bestPlans_93 (by rw [hn]; decide) rfl ?_
      refine s_iconst (v := (0 : Int32)) E dX11_bestPlans_95 (by decide) ?_
      refine s_istore (lv' := [(0, .ref (G.2.1 1)), (1, .int a1), (2, .long a2), (4, .int w5), (5, .int (0 : Int32)), (7, .int a7), (8, .int a8), (9, .int w5), (10, .long z2.1)]) [1, 2, 3, 4, 0, 5, 6, 7, 8] E dX11_bestPlans_96 (by rw [hn]; decide) rfl ?_
      refine s_iload 6 E dX11_bestPlans_98 rfl ?_
      refine s_lload 8 E dX11_bestPlans_100 rfl ?_
      refine s_bd (fun v6 hz => ?_)
      refine s_cS (rest := [.int a8]) E (C_k_actsOf (xl x) G z2.1 m3 hz) mdX11_actsOf W913 W914 W91 W915 rfl rfl (Nat.le_of_ble_eq_true rfl) ⟨by omega, by omega⟩ dX11_bestPlans_102 ?_
      refine s_iconst (v := (3 : Int32)) E dX11_bestPlans_105 (by decide) ?_
      refine s_ishl E dX11_bestPlans_106 ?_
      refine s_ior E dX11_bestPlans_107 ?_
      refine s_lt (fun w7 => [(0, .ref (G.2.1 1)), (1, .int a1), (2, .long a2), (4, .int w5), (5, .int (0 : Int32)), (7, .int a7), (8, .int a8), (9, .int w5), (10, .long z2.1)]) (fun w7 => [.int w7]) rfl rfl (fun w7 => ?_)
      refine s_istore (lv' := [(0, .ref (G.2.1 1)), (1, .int a1), (2, .long a2), (4, .int w5), (5, .int (0 : Int32)), (6, .int w7), (7, .int a7), (8, .int a8), (9, .int w5), (10, .long z2.1)]) [1, 2, 3, 4, 5, 0, 6, 7, 8, 9] E dX11_bestPlans_108 (by rw [hn]; decide) rfl ?_
      exact t_k_bestPlans_110 E hn rec hlb hrec a1 a2 w5 (0 : Int32) w7 a7 a8 w5 z2.1 m3 hb hx0
def k_bestPlans_41 (rec : Int32 → M → Option (Int64 × M)) (a1 : Int32) (a2 : Int64) (a4 : Int32) (a5 : Int32) (a6 : Int32) (a7 : Int32) (a8 : Int32) (m : M) : Option (Int64 × M) :=
  Option.bind (iter (fun z => k_bestPlans_41b rec a1 a2 z.1 z.2.1 z.2.2.1 a7 z.2.2.2.1 z.2.2.2.2) FU (a4, a5, a6, a8, m)) (fun r => Option.bind (k_packed r.1 r.2.1 r.2.2.1 r.2.2.2) (fun v8 => some (v8, r.2.2.2)))
set_option maxRecDepth 20000 in
theorem t_k_bestPlans_41 {G : GG} {x : Cx} {lv0 : Nat} (E : En G x cX11_bestPlans "WreckBoard" (lv0 + 1) (some .long)) (hn : xn x = 12) (rec : Int32 → M → Option (Int64 × M)) (hlb : 5 ≤ lv0) (hrec : ∀ (a1 : Int32) (m : M) (z : Int64 × M), rec a1 m = some z → Ct (xl x) G yX11_bestPlans cX11_bestPlans 12 (some .long) lv0 [.ref (G.2.1 1), .int a1] m (some (.long z.1)) z.2) (a1 : Int32) (a2 : Int64) (a4 : Int32) (a5 : Int32) (a6 : Int32) (a7 : Int32) (a8 : Int32) (m : M) : Sm G x 41 [(0, .ref (G.2.1 1)), (1, .int a1), (2, .long a2), (4, .int a4), (5, .int a5), (6, .int a6), (7, .int a7), (8, .int a8)] [] m (k_bestPlans_41 rec a1 a2 a4 a5 a6 a7 a8 m) KWl := by
  unfold k_bestPlans_41
  refine s_loop (fun z => [(0, .ref (G.2.1 1)), (1, .int a1), (2, .long a2), (4, .int z.1), (5, .int z.2.1), (6, .int z.2.2.1), (7, .int a7), (8, .int z.2.2.2.1)]) (fun z => z.2.2.2.2) (fun K2 hb2 hr2 z => ?_) FU (a4, a5, a6, a8, m)
  refine t_k_bestPlans_41b (K := K2) E hn rec hlb hrec a1 a2 z.1 z.2.1 z.2.2.1 a7 z.2.2.2.1 z.2.2.2.2 hb2 (fun r => s_out (hr2 r) ?_)
  · refine s_iload 0 E dX11_bestPlans_133 rfl ?_
    refine s_iload 1 E dX11_bestPlans_135 rfl ?_
    refine s_iload 2 E dX11_bestPlans_137 rfl ?_
    refine s_bd (fun v8 hz => ?_)
    refine s_cS (rest := []) E (C_k_packed (xl x) G r.1 r.2.1 r.2.2.1 r.2.2.2 hz) mdX11_packed W906 W907 W91 W908 rfl rfl (Nat.le_of_ble_eq_true rfl) ⟨by omega, by omega⟩ dX11_bestPlans_139 ?_
    exact s_lret E rfl dX11_bestPlans_142
def k_bestPlans (rec : Int32 → M → Option (Int64 × M)) (a1 : Int32) (m : M) : Option (Int64 × M) :=
  (if a1 ≤ 0 then k_bestPlans_11 rec m else Option.bind (b_isOver m) (fun v1 => (if v1 = 0 then Option.bind (b_moment m) (fun v2 => Option.bind (b_count m) (fun v3 => k_bestPlans_41 rec a1 v2 (-1 : Int32) (0 : Int32) (0 : Int32) v3 (0 : Int32) m)) else k_bestPlans_11 rec m)))
set_option maxRecDepth 20000 in
theorem t_k_bestPlans {G : GG} {x : Cx} {lv0 : Nat} (E : En G x cX11_bestPlans "WreckBoard" (lv0 + 1) (some .long)) (hn : xn x = 12) (rec : Int32 → M → Option (Int64 × M)) (hlb : 5 ≤ lv0) (hrec : ∀ (a1 : Int32) (m : M) (z : Int64 × M), rec a1 m = some z → Ct (xl x) G yX11_bestPlans cX11_bestPlans 12 (some .long) lv0 [.ref (G.2.1 1), .int a1] m (some (.long z.1)) z.2) (a1 : Int32) (m : M) : Sm G x 0 [(0, .ref (G.2.1 1)), (1, .int a1)] [] m (k_bestPlans rec a1 m) KWl := by
  unfold k_bestPlans
  refine s_iload_n 1 E dX11_bestPlans_0 rfl rfl ?_
  refine s_if_le 11 E dX11_bestPlans_1 (by decide) ?_ ?_
  · refine s_sub (lv' := []) [] rfl ?_
    exact t_k_bestPlans_11 E hn rec hlb hrec m
  · refine s_aload_n 0 E dX11_bestPlans_4 rfl rfl ?_
    refine s_bd (fun v1 hz => ?_)
    refine s_cV (rest := []) E (C_b_isOver (xl x) G  m hz) mdX0_isOver W578 W579 W580 W92 W581 rfl rfl rfl rfl (Nat.le_of_ble_eq_true rfl) ⟨by omega, by omega⟩ dX11_bestPlans_5 ?_
    refine s_if_eq 18 E dX11_bestPlans_8 (by decide) ?_ ?_
    · refine s_aload_n 0 E dX11_bestPlans_18 rfl rfl ?_
      refine s_bd (fun v2 hz => ?_)
      refine s_cV (rest := []) E (C_b_moment (xl x) G  m hz) mdX0_moment W822 W823 W824 W92 W825 rfl rfl rfl rfl (Nat.le_of_ble_eq_true rfl) ⟨by omega, by omega⟩ dX11_bestPlans_19 ?_
      refine s_lstore_n (lv' := [(0, .ref (G.2.1 1)), (1, .int a1), (2, .long v2)]) [1, 2, 0] E dX11_bestPlans_22 rfl (by rw [hn]; decide) rfl ?_
      refine s_iconst (v := (-1 : Int32)) E dX11_bestPlans_23 (by decide) ?_
      refine s_istore (lv' := [(0, .ref (G.2.1 1)), (1, .int a1), (2, .long v2), (4, .int (-1 : Int32))]) [1, 2, 3, 0] E dX11_bestPlans_24 (by rw [hn]; decide) rfl ?_
      refine s_iconst (v := (0 : Int32)) E dX11_bestPlans_26 (by decide) ?_
      refine s_istore (lv' := [(0, .ref (G.2.1 1)), (1, .int a1), (2, .long v2), (4, .int (-1 : Int32)), (5, .int (0 : Int32))]) [1, 2, 3, 4, 0] E dX11_bestPlans_27 (by rw [hn]; decide) rfl ?_
      refine s_iconst (v := (0 : Int32)) E dX11_bestPlans_29 (by decide) ?_
      refine s_istore (lv' := [(0, .ref (G.2.1 1)), (1, .int a1), (2, .long v2), (4, .int (-1 : Int32)), (5, .int (0 : Int32)), (6, .int (0 : Int32))]) [1, 2, 3, 4, 5, 0] E dX11_bestPlans_30 (by rw [hn]; decide) rfl ?_
      refine s_aload_n 0 E dX11_bestPlans_32 rfl rfl ?_
      refine s_bd (fun v3 hz => ?_)
      refine s_cV (rest := []) E (C_b_count (xl x) G  m hz) mdX0_count W499 W500 W501 W92 W502 rfl rfl rfl rfl (Nat.le_of_ble_eq_true rfl) ⟨by omega, by omega⟩ dX11_bestPlans_33 ?_
      refine s_istore (lv' := [(0, .ref (G.2.1 1)), (1, .int a1), (2, .long v2), (4, .int (-1 : Int32)), (5, .int (0 : Int32)), (6, .int (0 : Int32)), (7, .int v3)]) [1, 2, 3, 4, 5, 6, 0] E dX11_bestPlans_36 (by rw [hn]; decide) rfl ?_
      refine s_iconst (v := (0 : Int32)) E dX11_bestPlans_38 (by decide) ?_
      refine s_istore (lv' := [(0, .ref (G.2.1 1)), (1, .int a1), (2, .long v2), (4, .int (-1 : Int32)), (5, .int (0 : Int32)), (6, .int (0 : Int32)), (7, .int v3), (8, .int (0 : Int32))]) [1, 2, 3, 4, 5, 6, 7, 0] E dX11_bestPlans_39 (by rw [hn]; decide) rfl ?_
      exact t_k_bestPlans_41 E hn rec hlb hrec a1 v2 (-1 : Int32) (0 : Int32) (0 : Int32) v3 (0 : Int32) m
    · refine s_sub (lv' := []) [] rfl ?_
      exact t_k_bestPlans_11 E hn rec hlb hrec m
set_option maxRecDepth 20000 in
theorem C_k_bestPlans (l : Launch) (G : GG) (rec : Int32 → M → Option (Int64 × M)) {lv0 : Nat} (hlb : 5 ≤ lv0) (hrec : ∀ (a1 : Int32) (m : M) (z : Int64 × M), rec a1 m = some z → Ct l G yX11_bestPlans cX11_bestPlans 12 (some .long) lv0 [.ref (G.2.1 1), .int a1] m (some (.long z.1)) z.2) (a1 : Int32) (m : M) {z : Int64 × M} (hz : k_bestPlans rec a1 m = some z) : Ct l G yX11_bestPlans cX11_bestPlans 12 (some .long) (lv0 + 1) [.ref (G.2.1 1), .int a1] m (some (.long z.1)) z.2 :=
  ct_of (K := KWl) (by decide) (Nat.le_of_ble_eq_true rfl) (congrArg (fun q => Option.bind q _) hz) (fun x hl hn E => (t_k_bestPlans E hn rec hlb (by rw [hl]; exact hrec) a1 m))
def k_bestPlans_d : Nat → Int32 → M → Option (Int64 × M)
  | 0 => fun _ _ => none
  | d + 1 => fun a1 m => k_bestPlans (k_bestPlans_d d) a1 m
theorem C_k_bestPlans_d (l : Launch) (G : GG) : ∀ (d : Nat) (a1 : Int32) (m : M) {z : Int64 × M}, k_bestPlans_d d a1 m = some z → Ct l G yX11_bestPlans cX11_bestPlans 12 (some .long) (5 + 1 * d) [.ref (G.2.1 1), .int a1] m (some (.long z.1)) z.2 := by
  intro d
  induction d with
  | zero => intro a1 m z hz; cases hz
  | succ d ih =>
    intro a1 m z hz
    exact C_k_bestPlans l G (k_bestPlans_d d) (lv0 := 5 + 1 * d) (by omega) (fun a1 m z h => ih a1 m h) a1 m hz
theorem dX11_best_0 : decode cX11_best 0 = .ok (.iload_n 1, 1) := by decide +kernel
theorem dX11_best_1 : decode cX11_best 1 = .ok (.iconst 0, 1) := by decide +kernel
theorem dX11_best_2 : decode cX11_best 2 = .ok (.iconst 4, 1) := by decide +kernel
theorem dX11_best_3 : decode cX11_best 3 = .ok (.invokestatic 61, 3) := by decide +kernel
theorem dX11_best_6 : decode cX11_best 6 = .ok (.ifCond .eq 17, 3) := by decide +kernel
theorem dX11_best_9 : decode cX11_best 9 = .ok (.aload_n 0, 1) := by decide +kernel
theorem dX11_best_10 : decode cX11_best 10 = .ok (.getfield 12, 3) := by decide +kernel
theorem dX11_best_13 : decode cX11_best 13 = .ok (.iload_n 1, 1) := by decide +kernel
theorem dX11_best_14 : decode cX11_best 14 = .ok (.invokestatic 225, 3) := by decide +kernel
theorem dX11_best_17 : decode cX11_best 17 = .ok (.invokestatic 229, 3) := by decide +kernel
theorem dX11_best_20 : decode cX11_best 20 = .ok (.goto 4, 3) := by decide +kernel
theorem dX11_best_23 : decode cX11_best 23 = .ok (.iconst (-1), 1) := by decide +kernel
theorem dX11_best_24 : decode cX11_best 24 = .ok (.ireturn, 1) := by decide +kernel
def k_best (a1 : Int32) (m : M) : Option (Int32 × M) :=
  Option.bind (k_within a1 (0 : Int32) (4 : Int32) m) (fun v1 => (if v1 = 0 then some ((-1 : Int32), m) else Option.bind (k_bestPlans_d 8 a1 m) (fun z2 => Option.bind (k_worthOf z2.1 z2.2) (fun v3 => some (v3, z2.2)))))
set_option maxRecDepth 20000 in
theorem t_k_best {G : GG} {x : Cx} (E : En G x cX11_best "WreckBoard" 14 (some .int)) (hn : xn x = 2) (a1 : Int32) (m : M) : Sm G x 0 [(0, .ref (G.2.1 0)), (1, .int a1)] [] m (k_best a1 m) KWi := by
  unfold k_best
  refine s_iload_n 1 E dX11_best_0 rfl rfl ?_
  refine s_iconst (v := (0 : Int32)) E dX11_best_1 (by decide) ?_
  refine s_iconst (v := (4 : Int32)) E dX11_best_2 (by decide) ?_
  refine s_bd (fun v1 hz => ?_)
  refine s_cS (rest := []) E (C_k_within (xl x) G a1 (0 : Int32) (4 : Int32) m hz) mdX11_within W404 W405 W91 W406 rfl rfl (Nat.le_of_ble_eq_true rfl) ⟨by decide, by decide⟩ dX11_best_3 ?_
  refine s_if_eq 23 E dX11_best_6 (by decide) ?_ ?_
  · refine s_iconst (v := (-1 : Int32)) E dX11_best_23 (by decide) ?_
    exact s_iret E rfl dX11_best_24
  · refine s_aload_n 0 E dX11_best_9 rfl rfl ?_
    refine s_getr (k := 0) (T := TX11) 0 E rfl rfl rfl inX11 (by decide) W360 dX11_best_10 ?_
    refine s_iload_n 1 E dX11_best_13 rfl rfl ?_
    refine s_bd (fun z2 hz => ?_)
    refine s_cS (rest := []) E (C_k_bestPlans_d (xl x) G 8 a1 m hz) mdX11_bestPlans W903 W904 W91 W905 rfl rfl (Nat.le_of_ble_eq_true rfl) ⟨by decide, by decide⟩ dX11_best_14 ?_
    refine s_bd (fun v3 hz => ?_)
    refine s_cS (rest := []) E (C_k_worthOf (xl x) G z2.1 z2.2 hz) mdX11_worthOf W910 W911 W91 W912 rfl rfl (Nat.le_of_ble_eq_true rfl) ⟨by decide, by decide⟩ dX11_best_17 ?_
    refine s_goto 24 E dX11_best_20 (by decide) ?_
    exact s_iret E rfl dX11_best_24
set_option maxRecDepth 20000 in
theorem C_k_best (l : Launch) (G : GG) (a1 : Int32) (m : M) {z : Int32 × M} (hz : k_best a1 m = some z) : Ct l G yX11_best cX11_best 2 (some .int) 14 [.ref (G.2.1 0), .int a1] m (some (.int z.1)) z.2 :=
  ct_of (K := KWi) (by decide) (Nat.le_of_ble_eq_true rfl) (congrArg (fun q => Option.bind q _) hz) (fun x hl hn E => (t_k_best E hn a1 m))
theorem dX11_actOf_0 : decode cX11_actOf 0 = .ok (.lload_n 0, 1) := by decide +kernel
theorem dX11_actOf_1 : decode cX11_actOf 1 = .ok (.invokestatic 257, 3) := by decide +kernel
theorem dX11_actOf_4 : decode cX11_actOf 4 = .ok (.iconst 3, 1) := by decide +kernel
theorem dX11_actOf_5 : decode cX11_actOf 5 = .ok (.iload_n 2, 1) := by decide +kernel
theorem dX11_actOf_6 : decode cX11_actOf 6 = .ok (.imul, 1) := by decide +kernel
theorem dX11_actOf_7 : decode cX11_actOf 7 = .ok (.ishr, 1) := by decide +kernel
theorem dX11_actOf_8 : decode cX11_actOf 8 = .ok (.bipush 7, 2) := by decide +kernel
theorem dX11_actOf_10 : decode cX11_actOf 10 = .ok (.iand, 1) := by decide +kernel
theorem dX11_actOf_11 : decode cX11_actOf 11 = .ok (.ireturn, 1) := by decide +kernel
def k_actOf (a0 : Int64) (a2 : Int32) (m : M) : Option (Int32) :=
  Option.bind (k_actsOf a0 m) (fun v1 => some ((v1 >>> (((3 : Int32) * a2) &&& 31)) &&& (7 : Int32)))
set_option maxRecDepth 20000 in
theorem t_k_actOf {G : GG} {x : Cx} (E : En G x cX11_actOf "WreckBoard" 2 (some .int)) (hn : xn x = 3) (a0 : Int64) (a2 : Int32) (m : M) : Sm G x 0 [(0, .long a0), (2, .int a2)] [] m (k_actOf a0 a2 m) (KRi m) := by
  unfold k_actOf
  refine s_lload_n 0 E dX11_actOf_0 rfl rfl ?_
  refine s_bd (fun v1 hz => ?_)
  refine s_cS (rest := []) E (C_k_actsOf (xl x) G a0 m hz) mdX11_actsOf W913 W914 W91 W915 rfl rfl (Nat.le_of_ble_eq_true rfl) ⟨by decide, by decide⟩ dX11_actOf_1 ?_
  refine s_iconst (v := (3 : Int32)) E dX11_actOf_4 (by decide) ?_
  refine s_iload_n 1 E dX11_actOf_5 rfl rfl ?_
  refine s_imul E dX11_actOf_6 ?_
  refine s_ishr E dX11_actOf_7 ?_
  refine s_bipush (v := (7 : Int32)) E dX11_actOf_8 (by decide) ?_
  refine s_iand E dX11_actOf_10 ?_
  exact s_iret E rfl dX11_actOf_11
set_option maxRecDepth 20000 in
theorem C_k_actOf (l : Launch) (G : GG) (a0 : Int64) (a2 : Int32) (m : M) {z : Int32} (hz : k_actOf a0 a2 m = some z) : Ct l G yX11_actOf cX11_actOf 3 (some .int) 2 [.long a0, .int a2] m (some (.int z)) m :=
  ct_of (K := (KRi m)) (by decide) (Nat.le_of_ble_eq_true rfl) (congrArg (fun q => Option.bind q _) hz) (fun x hl hn E => (t_k_actOf E hn a0 a2 m))
theorem mdX11_actOf : mdq yX11_actOf 2 := ⟨by decide, by decide, by decide +kernel⟩
theorem dX11_ith_0 : decode cX11_ith 0 = .ok (.iload_n 1, 1) := by decide +kernel
theorem dX11_ith_1 : decode cX11_ith 1 = .ok (.iconst 0, 1) := by decide +kernel
theorem dX11_ith_2 : decode cX11_ith 2 = .ok (.iconst 4, 1) := by decide +kernel
theorem dX11_ith_3 : decode cX11_ith 3 = .ok (.invokestatic 61, 3) := by decide +kernel
theorem dX11_ith_6 : decode cX11_ith 6 = .ok (.ifCond .eq 12, 3) := by decide +kernel
theorem dX11_ith_9 : decode cX11_ith 9 = .ok (.iload_n 2, 1) := by decide +kernel
theorem dX11_ith_10 : decode cX11_ith 10 = .ok (.iconst 0, 1) := by decide +kernel
theorem dX11_ith_11 : decode cX11_ith 11 = .ok (.iconst 3, 1) := by decide +kernel
theorem dX11_ith_12 : decode cX11_ith 12 = .ok (.invokestatic 61, 3) := by decide +kernel
theorem dX11_ith_15 : decode cX11_ith 15 = .ok (.ifCond .ne 5, 3) := by decide +kernel
theorem dX11_ith_18 : decode cX11_ith 18 = .ok (.iconst (-1), 1) := by decide +kernel
theorem dX11_ith_19 : decode cX11_ith 19 = .ok (.ireturn, 1) := by decide +kernel
theorem dX11_ith_20 : decode cX11_ith 20 = .ok (.iload_n 2, 1) := by decide +kernel
theorem dX11_ith_21 : decode cX11_ith 21 = .ok (.aload_n 0, 1) := by decide +kernel
theorem dX11_ith_22 : decode cX11_ith 22 = .ok (.getfield 12, 3) := by decide +kernel
theorem dX11_ith_25 : decode cX11_ith 25 = .ok (.iload_n 1, 1) := by decide +kernel
theorem dX11_ith_26 : decode cX11_ith 26 = .ok (.invokevirtual 189, 3) := by decide +kernel
theorem dX11_ith_29 : decode cX11_ith 29 = .ok (.if_icmp .ge 18, 3) := by decide +kernel
theorem dX11_ith_32 : decode cX11_ith 32 = .ok (.aload_n 0, 1) := by decide +kernel
theorem dX11_ith_33 : decode cX11_ith 33 = .ok (.getfield 12, 3) := by decide +kernel
theorem dX11_ith_36 : decode cX11_ith 36 = .ok (.iload_n 1, 1) := by decide +kernel
theorem dX11_ith_37 : decode cX11_ith 37 = .ok (.invokestatic 225, 3) := by decide +kernel
theorem dX11_ith_40 : decode cX11_ith 40 = .ok (.iload_n 2, 1) := by decide +kernel
theorem dX11_ith_41 : decode cX11_ith 41 = .ok (.invokestatic 233, 3) := by decide +kernel
theorem dX11_ith_44 : decode cX11_ith 44 = .ok (.goto 5, 3) := by decide +kernel
theorem dX11_ith_47 : decode cX11_ith 47 = .ok (.bipush (-3), 2) := by decide +kernel
theorem dX11_ith_49 : decode cX11_ith 49 = .ok (.ireturn, 1) := by decide +kernel
def k_ith (a1 : Int32) (a2 : Int32) (m : M) : Option (Int32 × M) :=
  Option.bind (k_within a1 (0 : Int32) (4 : Int32) m) (fun v1 => (if v1 = 0 then some ((-1 : Int32), m) else Option.bind (k_within a2 (0 : Int32) (3 : Int32) m) (fun v2 => (if v2 = 0 then some ((-1 : Int32), m) else Option.bind (b_nightsOf a1 m) (fun v3 => (if v3 ≤ a2 then some ((-3 : Int32), m) else Option.bind (k_bestPlans_d 8 a1 m) (fun z4 => Option.bind (k_actOf z4.1 a2 z4.2) (fun v5 => some (v5, z4.2)))))))))
set_option maxRecDepth 20000 in
theorem t_k_ith {G : GG} {x : Cx} (E : En G x cX11_ith "WreckBoard" 14 (some .int)) (hn : xn x = 3) (a1 : Int32) (a2 : Int32) (m : M) : Sm G x 0 [(0, .ref (G.2.1 0)), (1, .int a1), (2, .int a2)] [] m (k_ith a1 a2 m) KWi := by
  unfold k_ith
  refine s_iload_n 1 E dX11_ith_0 rfl rfl ?_
  refine s_iconst (v := (0 : Int32)) E dX11_ith_1 (by decide) ?_
  refine s_iconst (v := (4 : Int32)) E dX11_ith_2 (by decide) ?_
  refine s_bd (fun v1 hz => ?_)
  refine s_cS (rest := []) E (C_k_within (xl x) G a1 (0 : Int32) (4 : Int32) m hz) mdX11_within W404 W405 W91 W406 rfl rfl (Nat.le_of_ble_eq_true rfl) ⟨by decide, by decide⟩ dX11_ith_3 ?_
  refine s_if_eq 18 E dX11_ith_6 (by decide) ?_ ?_
  · refine s_iconst (v := (-1 : Int32)) E dX11_ith_18 (by decide) ?_
    exact s_iret E rfl dX11_ith_19
  · refine s_iload_n 2 E dX11_ith_9 rfl rfl ?_
    refine s_iconst (v := (0 : Int32)) E dX11_ith_10 (by decide) ?_
    refine s_iconst (v := (3 : Int32)) E dX11_ith_11 (by decide) ?_
    refine s_bd (fun v2 hz => ?_)
    refine s_cS (rest := []) E (C_k_within (xl x) G a2 (0 : Int32) (3 : Int32) m hz) mdX11_within W404 W405 W91 W406 rfl rfl (Nat.le_of_ble_eq_true rfl) ⟨by decide, by decide⟩ dX11_ith_12 ?_
    refine s_if_ne 20 E dX11_ith_15 (by decide) ?_ ?_
    · refine s_iload_n 2 E dX11_ith_20 rfl rfl ?_
      refine s_aload_n 0 E dX11_ith_21 rfl rfl ?_
      refine s_getr (k := 0) (T := TX11) 0 E rfl rfl rfl inX11 (by decide) W360 dX11_ith_22 ?_
      refine s_iload_n 1 E dX11_ith_25 rfl rfl ?_
      refine s_bd (fun v3 hz => ?_)
      refine s_cV (rest := [.int a2]) E (C_b_nightsOf (xl x) G a1 m hz) mdX0_nightsOf W843 W831 W832 W92 W833 rfl rfl rfl rfl (Nat.le_of_ble_eq_true rfl) ⟨by decide, by decide⟩ dX11_ith_26 ?_
      refine s_icmp_ge 47 E dX11_ith_29 (by decide) ?_ ?_
      · refine s_bipush (v := (-3 : Int32)) E dX11_ith_47 (by decide) ?_
        exact s_iret E rfl dX11_ith_49
      · refine s_aload_n 0 E dX11_ith_32 rfl rfl ?_
        refine s_getr (k := 0) (T := TX11) 0 E rfl rfl rfl inX11 (by decide) W360 dX11_ith_33 ?_
        refine s_iload_n 1 E dX11_ith_36 rfl rfl ?_
        refine s_bd (fun z4 hz => ?_)
        refine s_cS (rest := []) E (C_k_bestPlans_d (xl x) G 8 a1 m hz) mdX11_bestPlans W903 W904 W91 W905 rfl rfl (Nat.le_of_ble_eq_true rfl) ⟨by decide, by decide⟩ dX11_ith_37 ?_
        refine s_iload_n 2 E dX11_ith_40 rfl rfl ?_
        refine s_bd (fun v5 hz => ?_)
        refine s_cS (rest := []) E (C_k_actOf (xl x) G z4.1 a2 z4.2 hz) mdX11_actOf W924 W925 W91 W926 rfl rfl (Nat.le_of_ble_eq_true rfl) ⟨by decide, by decide⟩ dX11_ith_41 ?_
        refine s_goto 49 E dX11_ith_44 (by decide) ?_
        exact s_iret E rfl dX11_ith_49
    · refine s_iconst (v := (-1 : Int32)) E dX11_ith_18 (by decide) ?_
      exact s_iret E rfl dX11_ith_19
set_option maxRecDepth 20000 in
theorem C_k_ith (l : Launch) (G : GG) (a1 : Int32) (a2 : Int32) (m : M) {z : Int32 × M} (hz : k_ith a1 a2 m = some z) : Ct l G yX11_ith cX11_ith 3 (some .int) 14 [.ref (G.2.1 0), .int a1, .int a2] m (some (.int z.1)) z.2 :=
  ct_of (K := KWi) (by decide) (Nat.le_of_ble_eq_true rfl) (congrArg (fun q => Option.bind q _) hz) (fun x hl hn E => (t_k_ith E hn a1 a2 m))
theorem dX11_ways_0 : decode cX11_ways 0 = .ok (.iload_n 1, 1) := by decide +kernel
theorem dX11_ways_1 : decode cX11_ways 1 = .ok (.iconst 0, 1) := by decide +kernel
theorem dX11_ways_2 : decode cX11_ways 2 = .ok (.iconst 4, 1) := by decide +kernel
theorem dX11_ways_3 : decode cX11_ways 3 = .ok (.invokestatic 61, 3) := by decide +kernel
theorem dX11_ways_6 : decode cX11_ways 6 = .ok (.ifCond .eq 17, 3) := by decide +kernel
theorem dX11_ways_9 : decode cX11_ways 9 = .ok (.aload_n 0, 1) := by decide +kernel
theorem dX11_ways_10 : decode cX11_ways 10 = .ok (.getfield 12, 3) := by decide +kernel
theorem dX11_ways_13 : decode cX11_ways 13 = .ok (.iload_n 1, 1) := by decide +kernel
theorem dX11_ways_14 : decode cX11_ways 14 = .ok (.invokestatic 225, 3) := by decide +kernel
theorem dX11_ways_17 : decode cX11_ways 17 = .ok (.invokestatic 236, 3) := by decide +kernel
theorem dX11_ways_20 : decode cX11_ways 20 = .ok (.goto 4, 3) := by decide +kernel
theorem dX11_ways_23 : decode cX11_ways 23 = .ok (.iconst (-1), 1) := by decide +kernel
theorem dX11_ways_24 : decode cX11_ways 24 = .ok (.ireturn, 1) := by decide +kernel
def k_ways (a1 : Int32) (m : M) : Option (Int32 × M) :=
  Option.bind (k_within a1 (0 : Int32) (4 : Int32) m) (fun v1 => (if v1 = 0 then some ((-1 : Int32), m) else Option.bind (k_bestPlans_d 8 a1 m) (fun z2 => Option.bind (k_waysOf z2.1 z2.2) (fun v3 => some (v3, z2.2)))))
set_option maxRecDepth 20000 in
theorem t_k_ways {G : GG} {x : Cx} (E : En G x cX11_ways "WreckBoard" 14 (some .int)) (hn : xn x = 2) (a1 : Int32) (m : M) : Sm G x 0 [(0, .ref (G.2.1 0)), (1, .int a1)] [] m (k_ways a1 m) KWi := by
  unfold k_ways
  refine s_iload_n 1 E dX11_ways_0 rfl rfl ?_
  refine s_iconst (v := (0 : Int32)) E dX11_ways_1 (by decide) ?_
  refine s_iconst (v := (4 : Int32)) E dX11_ways_2 (by decide) ?_
  refine s_bd (fun v1 hz => ?_)
  refine s_cS (rest := []) E (C_k_within (xl x) G a1 (0 : Int32) (4 : Int32) m hz) mdX11_within W404 W405 W91 W406 rfl rfl (Nat.le_of_ble_eq_true rfl) ⟨by decide, by decide⟩ dX11_ways_3 ?_
  refine s_if_eq 23 E dX11_ways_6 (by decide) ?_ ?_
  · refine s_iconst (v := (-1 : Int32)) E dX11_ways_23 (by decide) ?_
    exact s_iret E rfl dX11_ways_24
  · refine s_aload_n 0 E dX11_ways_9 rfl rfl ?_
    refine s_getr (k := 0) (T := TX11) 0 E rfl rfl rfl inX11 (by decide) W360 dX11_ways_10 ?_
    refine s_iload_n 1 E dX11_ways_13 rfl rfl ?_
    refine s_bd (fun z2 hz => ?_)
    refine s_cS (rest := []) E (C_k_bestPlans_d (xl x) G 8 a1 m hz) mdX11_bestPlans W903 W904 W91 W905 rfl rfl (Nat.le_of_ble_eq_true rfl) ⟨by decide, by decide⟩ dX11_ways_14 ?_
    refine s_bd (fun v3 hz => ?_)
    refine s_cS (rest := []) E (C_k_waysOf (xl x) G z2.1 z2.2 hz) mdX11_waysOf W916 W917 W91 W918 rfl rfl (Nat.le_of_ble_eq_true rfl) ⟨by decide, by decide⟩ dX11_ways_17 ?_
    refine s_goto 24 E dX11_ways_20 (by decide) ?_
    exact s_iret E rfl dX11_ways_24
set_option maxRecDepth 20000 in
theorem C_k_ways (l : Launch) (G : GG) (a1 : Int32) (m : M) {z : Int32 × M} (hz : k_ways a1 m = some z) : Ct l G yX11_ways cX11_ways 2 (some .int) 14 [.ref (G.2.1 0), .int a1] m (some (.int z.1)) z.2 :=
  ct_of (K := KWi) (by decide) (Nat.le_of_ble_eq_true rfl) (congrArg (fun q => Option.bind q _) hz) (fun x hl hn E => (t_k_ways E hn a1 m))
theorem dX0_isSet_0 : decode cX0_isSet 0 = .ok (.iload_n 1, 1) := by decide +kernel
theorem dX0_isSet_1 : decode cX0_isSet 1 = .ok (.iconst 0, 1) := by decide +kernel
theorem dX0_isSet_2 : decode cX0_isSet 2 = .ok (.iconst 1, 1) := by decide +kernel
theorem dX0_isSet_3 : decode cX0_isSet 3 = .ok (.aload_n 0, 1) := by decide +kernel
theorem dX0_isSet_4 : decode cX0_isSet 4 = .ok (.getfield 79, 3) := by decide +kernel
theorem dX0_isSet_7 : decode cX0_isSet 7 = .ok (.ishl, 1) := by decide +kernel
theorem dX0_isSet_8 : decode cX0_isSet 8 = .ok (.iconst 1, 1) := by decide +kernel
theorem dX0_isSet_9 : decode cX0_isSet 9 = .ok (.isub, 1) := by decide +kernel
theorem dX0_isSet_10 : decode cX0_isSet 10 = .ok (.invokestatic 82, 3) := by decide +kernel
theorem dX0_isSet_13 : decode cX0_isSet 13 = .ok (.ireturn, 1) := by decide +kernel
def b_isSet (a1 : Int32) (m : M) : Option (Int32) :=
  Option.bind (k_within a1 (0 : Int32) (((1 : Int32) <<< ((m 1 6) &&& 31)) - (1 : Int32)) m) (fun v1 => some (v1 &&& 1))
set_option maxRecDepth 20000 in
theorem t_b_isSet {G : GG} {x : Cx} (E : En G x cX0_isSet "WreckBoard$Board" 2 (some .boolean)) (hn : xn x = 2) (a1 : Int32) (m : M) : Sm G x 0 [(0, .ref (G.2.1 1)), (1, .int a1)] [] m (b_isSet a1 m) (KRi m) := by
  unfold b_isSet
  refine s_iload_n 1 E dX0_isSet_0 rfl rfl ?_
  refine s_iconst (v := (0 : Int32)) E dX0_isSet_1 (by decide) ?_
  refine s_iconst (v := (1 : Int32)) E dX0_isSet_2 (by decide) ?_
  refine s_aload_n 0 E dX0_isSet_3 rfl rfl ?_
  refine s_geti (k := 6) (T := TX0) 1 E rfl rfl rfl inX0 (by decide) W236 dX0_isSet_4 ?_
  refine s_ishl E dX0_isSet_7 ?_
  refine s_iconst (v := (1 : Int32)) E dX0_isSet_8 (by decide) ?_
  refine s_isub E dX0_isSet_9 ?_
  refine s_bd (fun v1 hz => ?_)
  refine s_cSN (rest := []) (host := "WreckBoard") E (C_k_within (xl x) G a1 (0 : Int32) (((1 : Int32) <<< ((m 1 6) &&& 31)) - (1 : Int32)) m hz) mdX11_within (by decide) W405 W91 W406 rfl rfl (Nat.le_of_ble_eq_true rfl) ⟨by decide, by decide⟩ dX0_isSet_10 ?_
  exact s_zretN E rfl dX0_isSet_13
set_option maxRecDepth 20000 in
theorem C_b_isSet (l : Launch) (G : GG) (a1 : Int32) (m : M) {z : Int32} (hz : b_isSet a1 m = some z) : Ct l G yX0_isSet cX0_isSet 2 (some .boolean) 2 [.ref (G.2.1 1), .int a1] m (some (.int z)) m :=
  ct_of (K := (KRi m)) (by decide) (Nat.le_of_ble_eq_true rfl) (congrArg (fun q => Option.bind q _) hz) (fun x hl hn E => (t_b_isSet E hn a1 m))
theorem mdX0_isSet : mdq yX0_isSet 1 := ⟨by decide, by decide, by decide +kernel⟩
theorem mdX11_fewestActs : mdq yX11_fewestActs 3 := ⟨by decide, by decide, by decide +kernel⟩
theorem dX11_fewestActs_0 : decode cX11_fewestActs 0 = .ok (.aload_n 0, 1) := by decide +kernel
theorem dX11_fewestActs_1 : decode cX11_fewestActs 1 = .ok (.getfield 145, 3) := by decide +kernel
theorem dX11_fewestActs_4 : decode cX11_fewestActs 4 = .ok (.iload_n 2, 1) := by decide +kernel
theorem dX11_fewestActs_5 : decode cX11_fewestActs 5 = .ok (.iand, 1) := by decide +kernel
theorem dX11_fewestActs_6 : decode cX11_fewestActs 6 = .ok (.iload_n 2, 1) := by decide +kernel
theorem dX11_fewestActs_7 : decode cX11_fewestActs 7 = .ok (.if_icmp .ne 5, 3) := by decide +kernel
theorem dX11_fewestActs_10 : decode cX11_fewestActs 10 = .ok (.iconst 0, 1) := by decide +kernel
theorem dX11_fewestActs_11 : decode cX11_fewestActs 11 = .ok (.ireturn, 1) := by decide +kernel
theorem dX11_fewestActs_12 : decode cX11_fewestActs 12 = .ok (.iload_n 1, 1) := by decide +kernel
theorem dX11_fewestActs_13 : decode cX11_fewestActs 13 = .ok (.ifCond .le 10, 3) := by decide +kernel
theorem dX11_fewestActs_16 : decode cX11_fewestActs 16 = .ok (.aload_n 0, 1) := by decide +kernel
theorem dX11_fewestActs_17 : decode cX11_fewestActs 17 = .ok (.invokevirtual 148, 3) := by decide +kernel
theorem dX11_fewestActs_20 : decode cX11_fewestActs 20 = .ok (.ifCond .eq 6, 3) := by decide +kernel
theorem dX11_fewestActs_23 : decode cX11_fewestActs 23 = .ok (.bipush 99, 2) := by decide +kernel
theorem dX11_fewestActs_25 : decode cX11_fewestActs 25 = .ok (.ireturn, 1) := by decide +kernel
theorem dX11_fewestActs_26 : decode cX11_fewestActs 26 = .ok (.aload_n 0, 1) := by decide +kernel
theorem dX11_fewestActs_27 : decode cX11_fewestActs 27 = .ok (.invokevirtual 178, 3) := by decide +kernel
theorem dX11_fewestActs_30 : decode cX11_fewestActs 30 = .ok (.lstore_n 3, 1) := by decide +kernel
theorem dX11_fewestActs_31 : decode cX11_fewestActs 31 = .ok (.bipush 99, 2) := by decide +kernel
theorem dX11_fewestActs_33 : decode cX11_fewestActs 33 = .ok (.istore 5, 2) := by decide +kernel
theorem dX11_fewestActs_35 : decode cX11_fewestActs 35 = .ok (.aload_n 0, 1) := by decide +kernel
theorem dX11_fewestActs_36 : decode cX11_fewestActs 36 = .ok (.invokevirtual 102, 3) := by decide +kernel
theorem dX11_fewestActs_39 : decode cX11_fewestActs 39 = .ok (.istore 6, 2) := by decide +kernel
theorem dX11_fewestActs_41 : decode cX11_fewestActs 41 = .ok (.iconst 0, 1) := by decide +kernel
theorem dX11_fewestActs_42 : decode cX11_fewestActs 42 = .ok (.istore 7, 2) := by decide +kernel
theorem dX11_fewestActs_44 : decode cX11_fewestActs 44 = .ok (.iload 7, 2) := by decide +kernel
theorem dX11_fewestActs_46 : decode cX11_fewestActs 46 = .ok (.aload_n 0, 1) := by decide +kernel
theorem dX11_fewestActs_47 : decode cX11_fewestActs 47 = .ok (.getfield 65, 3) := by decide +kernel
theorem dX11_fewestActs_50 : decode cX11_fewestActs 50 = .ok (.if_icmp .gt 53, 3) := by decide +kernel
theorem dX11_fewestActs_53 : decode cX11_fewestActs 53 = .ok (.aload_n 0, 1) := by decide +kernel
theorem dX11_fewestActs_54 : decode cX11_fewestActs 54 = .ok (.iload 7, 2) := by decide +kernel
theorem dX11_fewestActs_56 : decode cX11_fewestActs 56 = .ok (.iload 6, 2) := by decide +kernel
theorem dX11_fewestActs_58 : decode cX11_fewestActs 58 = .ok (.invokevirtual 254, 3) := by decide +kernel
theorem dX11_fewestActs_61 : decode cX11_fewestActs 61 = .ok (.pop, 1) := by decide +kernel
theorem dX11_fewestActs_62 : decode cX11_fewestActs 62 = .ok (.aload_n 0, 1) := by decide +kernel
theorem dX11_fewestActs_63 : decode cX11_fewestActs 63 = .ok (.iload_n 1, 1) := by decide +kernel
theorem dX11_fewestActs_64 : decode cX11_fewestActs 64 = .ok (.iconst 1, 1) := by decide +kernel
theorem dX11_fewestActs_65 : decode cX11_fewestActs 65 = .ok (.isub, 1) := by decide +kernel
theorem dX11_fewestActs_66 : decode cX11_fewestActs 66 = .ok (.iload_n 2, 1) := by decide +kernel
theorem dX11_fewestActs_67 : decode cX11_fewestActs 67 = .ok (.invokestatic 242, 3) := by decide +kernel
theorem dX11_fewestActs_70 : decode cX11_fewestActs 70 = .ok (.iload 7, 2) := by decide +kernel
theorem dX11_fewestActs_72 : decode cX11_fewestActs 72 = .ok (.ifCond .le 7, 3) := by decide +kernel
theorem dX11_fewestActs_75 : decode cX11_fewestActs 75 = .ok (.iconst 1, 1) := by decide +kernel
theorem dX11_fewestActs_76 : decode cX11_fewestActs 76 = .ok (.goto 4, 3) := by decide +kernel
theorem dX11_fewestActs_79 : decode cX11_fewestActs 79 = .ok (.iconst 0, 1) := by decide +kernel
theorem dX11_fewestActs_80 : decode cX11_fewestActs 80 = .ok (.iadd, 1) := by decide +kernel
theorem dX11_fewestActs_81 : decode cX11_fewestActs 81 = .ok (.istore 8, 2) := by decide +kernel
theorem dX11_fewestActs_83 : decode cX11_fewestActs 83 = .ok (.aload_n 0, 1) := by decide +kernel
theorem dX11_fewestActs_84 : decode cX11_fewestActs 84 = .ok (.lload_n 3, 1) := by decide +kernel
theorem dX11_fewestActs_85 : decode cX11_fewestActs 85 = .ok (.invokevirtual 185, 3) := by decide +kernel
theorem dX11_fewestActs_88 : decode cX11_fewestActs 88 = .ok (.iload 5, 2) := by decide +kernel
theorem dX11_fewestActs_90 : decode cX11_fewestActs 90 = .ok (.iload 8, 2) := by decide +kernel
theorem dX11_fewestActs_92 : decode cX11_fewestActs 92 = .ok (.invokestatic 261, 3) := by decide +kernel
theorem dX11_fewestActs_95 : decode cX11_fewestActs 95 = .ok (.istore 5, 2) := by decide +kernel
theorem dX11_fewestActs_97 : decode cX11_fewestActs 97 = .ok (.iinc 7 1, 3) := by decide +kernel
theorem dX11_fewestActs_100 : decode cX11_fewestActs 100 = .ok (.goto (-56), 3) := by decide +kernel
theorem dX11_fewestActs_103 : decode cX11_fewestActs 103 = .ok (.iload 5, 2) := by decide +kernel
theorem dX11_fewestActs_105 : decode cX11_fewestActs 105 = .ok (.ireturn, 1) := by decide +kernel
def k_fewestActs_80 (rec : Int32 → Int32 → M → Option (Int32 × M)) (a1 : Int32) (a2 : Int32) (a3 : Int64) (a5 : Int32) (a6 : Int32) (a7 : Int32) (s0 : Int32) (s1 : Int32) (m : M) : Option ((Int32 × Int32 × M) ⊕ ((Int32 × M))) :=
  lt (s0 + s1) (fun w1 : Int32 => Option.bind (b_goBackTo a3 m) (fun m2 => lt (mnI a5 w1) (fun w3 : Int32 => lt (a7 + (1 : Int32)) (fun w4 : Int32 => some (.inl (w3, w4, m2))))))
set_option maxRecDepth 20000 in
theorem t_k_fewestActs_80 {G : GG} {x : Cx} {lv0 : Nat} {K : ((Int32 × Int32 × M) ⊕ ((Int32 × M))) → Option (Option Value × M)} (E : En G x cX11_fewestActs "WreckBoard" (lv0 + 1) (some .int)) (hn : xn x = 9) (rec : Int32 → Int32 → M → Option (Int32 × M)) (hlb : 5 ≤ lv0) (hrec : ∀ (a1 : Int32) (a2 : Int32) (m : M) (z : Int32 × M), rec a1 a2 m = some z → Ct (xl x) G yX11_fewestActs cX11_fewestActs 9 (some .int) lv0 [.ref (G.2.1 1), .int a1, .int a2] m (some (.int z.1)) z.2) (a1 : Int32) (a2 : Int32) (a3 : Int64) (a5 : Int32) (a6 : Int32) (a7 : Int32) (s0 : Int32) (s1 : Int32) (m : M) (hb : ∀ z : Int32 × Int32 × M, Sm G x 44 [(0, .ref (G.2.1 1)), (1, .int a1), (2, .int a2), (3, .long a3), (5, .int z.1), (6, .int a6), (7, .int z.2.1)] [] z.2.2 (some (.inl z)) K) (hx0 : ∀ z : Int32 × M, Sm G x 103 [(5, .int z.1)] [] z.2 (some (.inr z)) K) : Sm G x 80 [(0, .ref (G.2.1 1)), (1, .int a1), (2, .int a2), (3, .long a3), (5, .int a5), (6, .int a6), (7, .int a7)] [.int s1, .int s0] m (k_fewestActs_80 rec a1 a2 a3 a5 a6 a7 s0 s1 m) K := by
  unfold k_fewestActs_80
  refine s_iadd E dX11_fewestActs_80 ?_
  refine s_lt (fun w1 => [(0, .ref (G.2.1 1)), (1, .int a1), (2, .int a2), (3, .long a3), (5, .int a5), (6, .int a6), (7, .int a7)]) (fun w1 => [.int w1]) rfl rfl (fun w1 => ?_)
  refine s_istore (lv' := [(0, .ref (G.2.1 1)), (1, .int a1), (2, .int a2), (3, .long a3), (5, .int a5), (6, .int a6), (7, .int a7), (8, .int w1)]) [1, 2, 3, 4, 5, 6, 7, 0] E dX11_fewestActs_81 (by rw [hn]; decide) rfl ?_
  refine s_aload_n 0 E dX11_fewestActs_83 rfl rfl ?_
  refine s_lload_n 3 E dX11_fewestActs_84 rfl rfl ?_
  refine s_bd (fun m2 hz => ?_)
  refine s_cV (rest := []) E (C_b_goBackTo (xl x) G a3 m hz) mdX0_goBackTo W835 W836 W837 W92 W838 rfl rfl rfl rfl (Nat.le_of_ble_eq_true rfl) ⟨by omega, by omega⟩ dX11_fewestActs_85 ?_
  refine s_iload 4 E dX11_fewestActs_88 rfl ?_
  refine s_iload 7 E dX11_fewestActs_90 rfl ?_
  refine s_mmin E W942 W488 W104 W489 (by omega) (Nat.le_of_ble_eq_true rfl) dX11_fewestActs_92 ?_
  refine s_lt (fun w3 => [(0, .ref (G.2.1 1)), (1, .int a1), (2, .int a2), (3, .long a3), (5, .int a5), (6, .int a6), (7, .int a7), (8, .int w1)]) (fun w3 => [.int w3]) rfl rfl (fun w3 => ?_)
  refine s_istore (lv' := [(0, .ref (G.2.1 1)), (1, .int a1), (2, .int a2), (3, .long a3), (5, .int w3), (6, .int a6), (7, .int a7)]) [1, 2, 3, 4, 0, 5, 6] E dX11_fewestActs_95 (by rw [hn]; decide) rfl ?_
  refine s_iincL (v := (1 : Int32)) 6 [1, 2, 3, 4, 5, 6, 0] (fun w4 => [(0, .ref (G.2.1 1)), (1, .int a1), (2, .int a2), (3, .long a3), (5, .int w3), (6, .int a6), (7, .int w4)]) E dX11_fewestActs_97 rfl (by decide) (by rw [hn]; decide) (fun _ => rfl) (fun w4 => ?_)
  refine s_goto 44 E dX11_fewestActs_100 (by decide) ?_
  exact hb (w3, w4, m2)
def k_fewestActs_44b (rec : Int32 → Int32 → M → Option (Int32 × M)) (a1 : Int32) (a2 : Int32) (a3 : Int64) (a5 : Int32) (a6 : Int32) (a7 : Int32) (m : M) : Option ((Int32 × Int32 × M) ⊕ ((Int32 × M))) :=
  (if (m 1 6) < a7 then some (.inr (a5, m)) else Option.bind (b_goesBy a7 a6 m) (fun z1 => Option.bind (rec (a1 - (1 : Int32)) a2 z1.2) (fun z2 => (if a7 ≤ 0 then k_fewestActs_80 rec a1 a2 a3 a5 a6 a7 z2.1 (0 : Int32) z2.2 else k_fewestActs_80 rec a1 a2 a3 a5 a6 a7 z2.1 (1 : Int32) z2.2))))
set_option maxRecDepth 20000 in
theorem t_k_fewestActs_44b {G : GG} {x : Cx} {lv0 : Nat} {K : ((Int32 × Int32 × M) ⊕ ((Int32 × M))) → Option (Option Value × M)} (E : En G x cX11_fewestActs "WreckBoard" (lv0 + 1) (some .int)) (hn : xn x = 9) (rec : Int32 → Int32 → M → Option (Int32 × M)) (hlb : 5 ≤ lv0) (hrec : ∀ (a1 : Int32) (a2 : Int32) (m : M) (z : Int32 × M), rec a1 a2 m = some z → Ct (xl x) G yX11_fewestActs cX11_fewestActs 9 (some .int) lv0 [.ref (G.2.1 1), .int a1, .int a2] m (some (.int z.1)) z.2) (a1 : Int32) (a2 : Int32) (a3 : Int64) (a5 : Int32) (a6 : Int32) (a7 : Int32) (m : M) (hb : ∀ z : Int32 × Int32 × M, Sm G x 44 [(0, .ref (G.2.1 1)), (1, .int a1), (2, .int a2), (3, .long a3), (5, .int z.1), (6, .int a6), (7, .int z.2.1)] [] z.2.2 (some (.inl z)) K) (hx0 : ∀ z : Int32 × M, Sm G x 103 [(5, .int z.1)] [] z.2 (some (.inr z)) K) : Sm G x 44 [(0, .ref (G.2.1 1)), (1, .int a1), (2, .int a2), (3, .long a3), (5, .int a5), (6, .int a6), (7, .int a7)] [] m (k_fewestActs_44b rec a1 a2 a3 a5 a6 a7 m) K := by
  unfold k_fewestActs_44b
  refine s_iload 6 E dX11_fewestActs_44 rfl ?_
  refine s_aload_n 0 E dX11_fewestActs_46 rfl rfl ?_
  refine s_geti (k := 6) (T := TX0) 1 E rfl rfl rfl inX0 (by decide) W237 dX11_fewestActs_47 ?_
  refine s_icmp_gt 103 E dX11_fewestActs_50 (by decide) ?_ ?_
  · refine s_sub (lv' := [(5, .int a5)]) [4] rfl ?_
    exact hx0 (a5, m)
  · refine s_aload_n 0 E dX11_fewestActs_53 rfl rfl ?_
    refine s_iload 6 E dX11_fewestActs_54 rfl ?_
    refine s_iload 5 E dX11_fewestActs_56 rfl ?_
    refine s_bd (fun z1 hz => ?_)
    refine s_cV (rest := []) E (C_b_goesBy (xl x) G a7 a6 m hz) mdX0_goesBy W909 W799 W800 W92 W801 rfl rfl rfl rfl (Nat.le_of_ble_eq_true rfl) ⟨by omega, by omega⟩ dX11_fewestActs_58 ?_
    refine s_pop E dX11_fewestActs_61 rfl ?_
    refine s_aload_n 0 E dX11_fewestActs_62 rfl rfl ?_
    refine s_iload_n 1 E dX11_fewestActs_63 rfl rfl ?_
    refine s_iconst (v := (1 : Int32)) E dX11_fewestActs_64 (by decide) ?_
    refine s_isub E dX11_fewestActs_65 ?_
    refine s_iload_n 2 E dX11_fewestActs_66 rfl rfl ?_
    refine s_bd (fun z2 hz => ?_)
    refine s_cS (rest := []) E (hrec (a1 - (1 : Int32)) a2 z1.2 z2 hz) mdX11_fewestActs W939 W940 W91 W941 rfl rfl (Nat.le_of_ble_eq_true rfl) ⟨by omega, by omega⟩ dX11_fewestActs_67 ?_
    refine s_iload 6 E dX11_fewestActs_70 rfl ?_
    refine s_if_le 79 E dX11_fewestActs_72 (by decide) ?_ ?_
    · refine s_iconst (v := (0 : Int32)) E dX11_fewestActs_79 (by decide) ?_
      exact t_k_fewestActs_80 E hn rec hlb hrec a1 a2 a3 a5 a6 a7 z2.1 (0 : Int32) z2.2 hb hx0
    · refine s_iconst (v := (1 : Int32)) E dX11_fewestActs_75 (by decide) ?_
      refine s_goto 80 E dX11_fewestActs_76 (by decide) ?_
      exact t_k_fewestActs_80 E hn rec hlb hrec a1 a2 a3 a5 a6 a7 z2.1 (1 : Int32) z2.2 hb hx0
def k_fewestActs_44 (rec : Int32 → Int32 → M → Option (Int32 × M)) (a1 : Int32) (a2 : Int32) (a3 : Int64) (a5 : Int32) (a6 : Int32) (a7 : Int32) (m : M) : Option (Int32 × M) :=
  Option.bind (iter (fun z => k_fewestActs_44b rec a1 a2 a3 z.1 a6 z.2.1 z.2.2) FU (a5, a7, m)) (fun r => some (r.1, r.2))
set_option maxRecDepth 20000 in
theorem t_k_fewestActs_44 {G : GG} {x : Cx} {lv0 : Nat} (E : En G x cX11_fewestActs "WreckBoard" (lv0 + 1) (some .int)) (hn : xn x = 9) (rec : Int32 → Int32 → M → Option (Int32 × M)) (hlb : 5 ≤ lv0) (hrec : ∀ (a1 : Int32) (a2 : Int32) (m : M) (z : Int32 × M), rec a1 a2 m = some z → Ct (xl x) G yX11_fewestActs cX11_fewestActs 9 (some .int) lv0 [.ref (G.2.1 1), .int a1, .int a2] m (some (.int z.1)) z.2) (a1 : Int32) (a2 : Int32) (a3 : Int64) (a5 : Int32) (a6 : Int32) (a7 : Int32) (m : M) : Sm G x 44 [(0, .ref (G.2.1 1)), (1, .int a1), (2, .int a2), (3, .long a3), (5, .int a5), (6, .int a6), (7, .int a7)] [] m (k_fewestActs_44 rec a1 a2 a3 a5 a6 a7 m) KWi := by
  unfold k_fewestActs_44
  refine s_loop (fun z => [(0, .ref (G.2.1 1)), (1, .int a1), (2, .int a2), (3, .long a3), (5, .int z.1), (6, .int a6), (7, .int z.2.1)]) (fun z => z.2.2) (fun K2 hb2 hr2 z => ?_) FU (a5, a7, m)
  refine t_k_fewestActs_44b (K := K2) E hn rec hlb hrec a1 a2 a3 z.1 a6 z.2.1 z.2.2 hb2 (fun r => s_out (hr2 r) ?_)
  · refine s_iload 0 E dX11_fewestActs_103 rfl ?_
    exact s_iret E rfl dX11_fewestActs_105
def k_fewestActs (rec : Int32 → Int32 → M → Option (Int32 × M)) (a1 : Int32) (a2 : Int32) (m : M) : Option (Int32 × M) :=
  (if ((m 1 7) &&& a2) = a2 then some ((0 : Int32), m) else (if a1 ≤ 0 then some ((99 : Int32), m) else Option.bind (b_isOver m) (fun v1 => (if v1 = 0 then Option.bind (b_moment m) (fun v2 => Option.bind (b_count m) (fun v3 => k_fewestActs_44 rec a1 a2 v2 (99 : Int32) v3 (0 : Int32) m)) else some ((99 : Int32), m)))))
set_option maxRecDepth 20000 in
theorem t_k_fewestActs {G : GG} {x : Cx} {lv0 : Nat} (E : En G x cX11_fewestActs "WreckBoard" (lv0 + 1) (some .int)) (hn : xn x = 9) (rec : Int32 → Int32 → M → Option (Int32 × M)) (hlb : 5 ≤ lv0) (hrec : ∀ (a1 : Int32) (a2 : Int32) (m : M) (z : Int32 × M), rec a1 a2 m = some z → Ct (xl x) G yX11_fewestActs cX11_fewestActs 9 (some .int) lv0 [.ref (G.2.1 1), .int a1, .int a2] m (some (.int z.1)) z.2) (a1 : Int32) (a2 : Int32) (m : M) : Sm G x 0 [(0, .ref (G.2.1 1)), (1, .int a1), (2, .int a2)] [] m (k_fewestActs rec a1 a2 m) KWi := by
  unfold k_fewestActs
  refine s_aload_n 0 E dX11_fewestActs_0 rfl rfl ?_
  refine s_geti (k := 7) (T := TX0) 1 E rfl rfl rfl inX0 (by decide) W239 dX11_fewestActs_1 ?_
  refine s_iload_n 2 E dX11_fewestActs_4 rfl rfl ?_
  refine s_iand E dX11_fewestActs_5 ?_
  refine s_iload_n 2 E dX11_fewestActs_6 rfl rfl ?_
  refine s_icmp_ne 12 E dX11_fewestActs_7 (by decide) ?_ ?_
  · refine s_iload_n 1 E dX11_fewestActs_12 rfl rfl ?_
    refine s_if_le 23 E dX11_fewestActs_13 (by decide) ?_ ?_
    · refine s_bipush (v := (99 : Int32)) E dX11_fewestActs_23 (by decide) ?_
      exact s_iret E rfl dX11_fewestActs_25
    · refine s_aload_n 0 E dX11_fewestActs_16 rfl rfl ?_
      refine s_bd (fun v1 hz => ?_)
      refine s_cV (rest := []) E (C_b_isOver (xl x) G  m hz) mdX0_isOver W578 W579 W580 W92 W581 rfl rfl rfl rfl (Nat.le_of_ble_eq_true rfl) ⟨by omega, by omega⟩ dX11_fewestActs_17 ?_
      refine s_if_eq 26 E dX11_fewestActs_20 (by decide) ?_ ?_
      · refine s_aload_n 0 E dX11_fewestActs_26 rfl rfl ?_
        refine s_bd (fun v2 hz => ?_)
        refine s_cV (rest := []) E (C_b_moment (xl x) G  m hz) mdX0_moment W822 W823 W824 W92 W825 rfl rfl rfl rfl (Nat.le_of_ble_eq_true rfl) ⟨by omega, by omega⟩ dX11_fewestActs_27 ?_
        refine s_lstore_n (lv' := [(0, .ref (G.2.1 1)), (1, .int a1), (2, .int a2), (3, .long v2)]) [1, 2, 3, 0] E dX11_fewestActs_30 rfl (by rw [hn]; decide) rfl ?_
        refine s_bipush (v := (99 : Int32)) E dX11_fewestActs_31 (by decide) ?_
        refine s_istore (lv' := [(0, .ref (G.2.1 1)), (1, .int a1), (2, .int a2), (3, .long v2), (5, .int (99 : Int32))]) [1, 2, 3, 4, 0] E dX11_fewestActs_33 (by rw [hn]; decide) rfl ?_
        refine s_aload_n 0 E dX11_fewestActs_35 rfl rfl ?_
        refine s_bd (fun v3 hz => ?_)
        refine s_cV (rest := []) E (C_b_count (xl x) G  m hz) mdX0_count W499 W500 W501 W92 W502 rfl rfl rfl rfl (Nat.le_of_ble_eq_true rfl) ⟨by omega, by omega⟩ dX11_fewestActs_36 ?_
        refine s_istore (lv' := [(0, .ref (G.2.1 1)), (1, .int a1), (2, .int a2), (3, .long v2), (5, .int (99 : Int32)), (6, .int v3)]) [1, 2, 3, 4, 5, 0] E dX11_fewestActs_39 (by rw [hn]; decide) rfl ?_
        refine s_iconst (v := (0 : Int32)) E dX11_fewestActs_41 (by decide) ?_
        refine s_istore (lv' := [(0, .ref (G.2.1 1)), (1, .int a1), (2, .int a2), (3, .long v2), (5, .int (99 : Int32)), (6, .int v3), (7, .int (0 : Int32))]) [1, 2, 3, 4, 5, 6, 0] E dX11_fewestActs_42 (by rw [hn]; decide) rfl ?_
        exact t_k_fewestActs_44 E hn rec hlb hrec a1 a2 v2 (99 : Int32) v3 (0 : Int32) m
      · refine s_bipush (v := (99 : Int32)) E dX11_fewestActs_23 (by decide) ?_
        exact s_iret E rfl dX11_fewestActs_25
  · refine s_iconst (v := (0 : Int32)) E dX11_fewestActs_10 (by decide) ?_
    exact s_iret E rfl dX11_fewestActs_11
set_option maxRecDepth 20000 in
theorem C_k_fewestActs (l : Launch) (G : GG) (rec : Int32 → Int32 → M → Option (Int32 × M)) {lv0 : Nat} (hlb : 5 ≤ lv0) (hrec : ∀ (a1 : Int32) (a2 : Int32) (m : M) (z : Int32 × M), rec a1 a2 m = some z → Ct l G yX11_fewestActs cX11_fewestActs 9 (some .int) lv0 [.ref (G.2.1 1), .int a1, .int a2] m (some (.int z.1)) z.2) (a1 : Int32) (a2 : Int32) (m : M) {z : Int32 × M} (hz : k_fewestActs rec a1 a2 m = some z) : Ct l G yX11_fewestActs cX11_fewestActs 9 (some .int) (lv0 + 1) [.ref (G.2.1 1), .int a1, .int a2] m (some (.int z.1)) z.2 :=
  ct_of (K := KWi) (by decide) (Nat.le_of_ble_eq_true rfl) (congrArg (fun q => Option.bind q _) hz) (fun x hl hn E => (t_k_fewestActs E hn rec hlb (by rw [hl]; exact hrec) a1 a2 m))
def k_fewestActs_d : Nat → Int32 → Int32 → M → Option (Int32 × M)
  | 0 => fun _ _ _ => none
  | d + 1 => fun a1 a2 m => k_fewestActs (k_fewestActs_d d) a1 a2 m
theorem C_k_fewestActs_d (l : Launch) (G : GG) : ∀ (d : Nat) (a1 : Int32) (a2 : Int32) (m : M) {z : Int32 × M}, k_fewestActs_d d a1 a2 m = some z → Ct l G yX11_fewestActs cX11_fewestActs 9 (some .int) (5 + 1 * d) [.ref (G.2.1 1), .int a1, .int a2] m (some (.int z.1)) z.2 := by
  intro d
  induction d with
  | zero => intro a1 a2 m z hz; cases hz
  | succ d ih =>
    intro a1 a2 m z hz
    exact C_k_fewestActs l G (k_fewestActs_d d) (lv0 := 5 + 1 * d) (by omega) (fun a1 a2 m z h => ih a1 a2 m h) a1 a2 m hz
theorem dX11_agenda_0 : decode cX11_agenda 0 = .ok (.iload_n 1, 1) := by decide +kernel
theorem dX11_agenda_1 : decode cX11_agenda 1 = .ok (.iconst 0, 1) := by decide +kernel
theorem dX11_agenda_2 : decode cX11_agenda 2 = .ok (.iconst 4, 1) := by decide +kernel
theorem dX11_agenda_3 : decode cX11_agenda 3 = .ok (.invokestatic 61, 3) := by decide +kernel
theorem dX11_agenda_6 : decode cX11_agenda 6 = .ok (.ifCond .eq 14, 3) := by decide +kernel
theorem dX11_agenda_9 : decode cX11_agenda 9 = .ok (.aload_n 0, 1) := by decide +kernel
theorem dX11_agenda_10 : decode cX11_agenda 10 = .ok (.getfield 12, 3) := by decide +kernel
theorem dX11_agenda_13 : decode cX11_agenda 13 = .ok (.iload_n 2, 1) := by decide +kernel
theorem dX11_agenda_14 : decode cX11_agenda 14 = .ok (.invokevirtual 239, 3) := by decide +kernel
theorem dX11_agenda_17 : decode cX11_agenda 17 = .ok (.ifCond .ne 5, 3) := by decide +kernel
theorem dX11_agenda_20 : decode cX11_agenda 20 = .ok (.iconst (-1), 1) := by decide +kernel
theorem dX11_agenda_21 : decode cX11_agenda 21 = .ok (.ireturn, 1) := by decide +kernel
theorem dX11_agenda_22 : decode cX11_agenda 22 = .ok (.aload_n 0, 1) := by decide +kernel
theorem dX11_agenda_23 : decode cX11_agenda 23 = .ok (.getfield 12, 3) := by decide +kernel
theorem dX11_agenda_26 : decode cX11_agenda 26 = .ok (.iload_n 1, 1) := by decide +kernel
theorem dX11_agenda_27 : decode cX11_agenda 27 = .ok (.iload_n 2, 1) := by decide +kernel
theorem dX11_agenda_28 : decode cX11_agenda 28 = .ok (.invokestatic 242, 3) := by decide +kernel
theorem dX11_agenda_31 : decode cX11_agenda 31 = .ok (.istore_n 3, 1) := by decide +kernel
theorem dX11_agenda_32 : decode cX11_agenda 32 = .ok (.iload_n 3, 1) := by decide +kernel
theorem dX11_agenda_33 : decode cX11_agenda 33 = .ok (.iconst 4, 1) := by decide +kernel
theorem dX11_agenda_34 : decode cX11_agenda 34 = .ok (.if_icmp .gt 7, 3) := by decide +kernel
theorem dX11_agenda_37 : decode cX11_agenda 37 = .ok (.iload_n 3, 1) := by decide +kernel
theorem dX11_agenda_38 : decode cX11_agenda 38 = .ok (.goto 5, 3) := by decide +kernel
theorem dX11_agenda_41 : decode cX11_agenda 41 = .ok (.bipush (-3), 2) := by decide +kernel
theorem dX11_agenda_43 : decode cX11_agenda 43 = .ok (.ireturn, 1) := by decide +kernel
def k_agenda (a1 : Int32) (a2 : Int32) (m : M) : Option (Int32 × M) :=
  Option.bind (k_within a1 (0 : Int32) (4 : Int32) m) (fun v1 => (if v1 = 0 then some ((-1 : Int32), m) else Option.bind (b_isSet a2 m) (fun v2 => (if v2 = 0 then some ((-1 : Int32), m) else Option.bind (k_fewestActs_d 8 a1 a2 m) (fun z3 => (if (4 : Int32) < z3.1 then some ((-3 : Int32), z3.2) else some (z3.1, z3.2)))))))
set_option maxRecDepth 20000 in
theorem t_k_agenda {G : GG} {x : Cx} (E : En G x cX11_agenda "WreckBoard" 14 (some .int)) (hn : xn x = 4) (a1 : Int32) (a2 : Int32) (m : M) : Sm G x 0 [(0, .ref (G.2.1 0)), (1, .int a1), (2, .int a2)] [] m (k_agenda a1 a2 m) KWi := by
  unfold k_agenda
  refine s_iload_n 1 E dX11_agenda_0 rfl rfl ?_
  refine s_iconst (v := (0 : Int32)) E dX11_agenda_1 (by decide) ?_
  refine s_iconst (v := (4 : Int32)) E dX11_agenda_2 (by decide) ?_
  refine s_bd (fun v1 hz => ?_)
  refine s_cS (rest := []) E (C_k_within (xl x) G a1 (0 : Int32) (4 : Int32) m hz) mdX11_within W404 W405 W91 W406 rfl rfl (Nat.le_of_ble_eq_true rfl) ⟨by decide, by decide⟩ dX11_agenda_3 ?_
  refine s_if_eq 20 E dX11_agenda_6 (by decide) ?_ ?_
  · refine s_iconst (v := (-1 : Int32)) E dX11_agenda_20 (by decide) ?_
    exact s_iret E rfl dX11_agenda_21
  · refine s_aload_n 0 E dX11_agenda_9 rfl rfl ?_
    refine s_getr (k := 0) (T := TX11) 0 E rfl rfl rfl inX11 (by decide) W360 dX11_agenda_10 ?_
    refine s_iload_n 2 E dX11_agenda_13 rfl rfl ?_
    refine s_bd (fun v2 hz => ?_)
    refine s_cV (rest := []) E (C_b_isSet (xl x) G a2 m hz) mdX0_isSet W935 W936 W937 W92 W938 rfl rfl rfl rfl (Nat.le_of_ble_eq_true rfl) ⟨by decide, by decide⟩ dX11_agenda_14 ?_
    refine s_if_ne 22 E dX11_agenda_17 (by decide) ?_ ?_
    · refine s_aload_n 0 E dX11_agenda_22 rfl rfl ?_
      refine s_getr (k := 0) (T := TX11) 0 E rfl rfl rfl inX11 (by decide) W360 dX11_agenda_23 ?_
      refine s_iload_n 1 E dX11_agenda_26 rfl rfl ?_
      refine s_iload_n 2 E dX11_agenda_27 rfl rfl ?_
      refine s_bd (fun z3 hz => ?_)
      refine s_cS (rest := []) E (C_k_fewestActs_d (xl x) G 8 a1 a2 m hz) mdX11_fewestActs W939 W940 W91 W941 rfl rfl (Nat.le_of_ble_eq_true rfl) ⟨by decide, by decide⟩ dX11_agenda_28 ?_
      refine s_istore_n (lv' := [(3, .int z3.1)]) [0] E dX11_agenda_31 rfl (by rw [hn]; decide) rfl ?_
      refine s_iload_n 0 E dX11_agenda_32 rfl rfl ?_
      refine s_iconst (v := (4 : Int32)) E dX11_agenda_33 (by decide) ?_
      refine s_icmp_gt 41 E dX11_agenda_34 (by decide) ?_ ?_
      · refine s_bipush (v := (-3 : Int32)) E dX11_agenda_41 (by decide) ?_
        exact s_iret E rfl dX11_agenda_43
      · refine s_iload_n 0 E dX11_agenda_37 rfl rfl ?_
        refine s_goto 43 E dX11_agenda_38 (by decide) ?_
        exact s_iret E rfl dX11_agenda_43
    · refine s_iconst (v := (-1 : Int32)) E dX11_agenda_20 (by decide) ?_
      exact s_iret E rfl dX11_agenda_21
set_option maxRecDepth 20000 in
theorem C_k_agenda (l : Launch) (G : GG) (a1 : Int32) (a2 : Int32) (m : M) {z : Int32 × M} (hz : k_agenda a1 a2 m = some z) : Ct l G yX11_agenda cX11_agenda 4 (some .int) 14 [.ref (G.2.1 0), .int a1, .int a2] m (some (.int z.1)) z.2 :=
  ct_of (K := KWi) (by decide) (Nat.le_of_ble_eq_true rfl) (congrArg (fun q => Option.bind q _) hz) (fun x hl hn E => (t_k_agenda E hn a1 a2 m))
theorem mdX11_heardBehindSome : mdq yX11_heardBehindSome 2 := ⟨by decide, by decide, by decide +kernel⟩
theorem dX11_heardBehindSome_0 : decode cX11_heardBehindSome 0 = .ok (.iload_n 1, 1) := by decide +kernel
theorem dX11_heardBehindSome_1 : decode cX11_heardBehindSome 1 = .ok (.ifCond .le 10, 3) := by decide +kernel
theorem dX11_heardBehindSome_4 : decode cX11_heardBehindSome 4 = .ok (.aload_n 0, 1) := by decide +kernel
theorem dX11_heardBehindSome_5 : decode cX11_heardBehindSome 5 = .ok (.invokevirtual 148, 3) := by decide +kernel
theorem dX11_heardBehindSome_8 : decode cX11_heardBehindSome 8 = .ok (.ifCond .eq 8, 3) := by decide +kernel
theorem dX11_heardBehindSome_11 : decode cX11_heardBehindSome 11 = .ok (.aload_n 0, 1) := by decide +kernel
theorem dX11_heardBehindSome_12 : decode cX11_heardBehindSome 12 = .ok (.getfield 145, 3) := by decide +kernel
theorem dX11_heardBehindSome_15 : decode cX11_heardBehindSome 15 = .ok (.ireturn, 1) := by decide +kernel
theorem dX11_heardBehindSome_16 : decode cX11_heardBehindSome 16 = .ok (.aload_n 0, 1) := by decide +kernel
theorem dX11_heardBehindSome_17 : decode cX11_heardBehindSome 17 = .ok (.invokevirtual 178, 3) := by decide +kernel
theorem dX11_heardBehindSome_20 : decode cX11_heardBehindSome 20 = .ok (.lstore_n 2, 1) := by decide +kernel
theorem dX11_heardBehindSome_21 : decode cX11_heardBehindSome 21 = .ok (.iconst 0, 1) := by decide +kernel
theorem dX11_heardBehindSome_22 : decode cX11_heardBehindSome 22 = .ok (.istore 4, 2) := by decide +kernel
theorem dX11_heardBehindSome_24 : decode cX11_heardBehindSome 24 = .ok (.aload_n 0, 1) := by decide +kernel
theorem dX11_heardBehindSome_25 : decode cX11_heardBehindSome 25 = .ok (.invokevirtual 102, 3) := by decide +kernel
theorem dX11_heardBehindSome_28 : decode cX11_heardBehindSome 28 = .ok (.istore 5, 2) := by decide +kernel
theorem dX11_heardBehindSome_30 : decode cX11_heardBehindSome 30 = .ok (.iconst 0, 1) := by decide +kernel
theorem dX11_heardBehindSome_31 : decode cX11_heardBehindSome 31 = .ok (.istore 6, 2) := by decide +kernel
theorem dX11_heardBehindSome_33 : decode cX11_heardBehindSome 33 = .ok (.iload 6, 2) := by decide +kernel
theorem dX11_heardBehindSome_35 : decode cX11_heardBehindSome 35 = .ok (.aload_n 0, 1) := by decide +kernel
theorem dX11_heardBehindSome_36 : decode cX11_heardBehindSome 36 = .ok (.getfield 65, 3) := by decide +kernel
theorem dX11_heardBehindSome_39 : decode cX11_heardBehindSome 39 = .ok (.if_icmp .gt 35, 3) := by decide +kernel
theorem dX11_heardBehindSome_42 : decode cX11_heardBehindSome 42 = .ok (.aload_n 0, 1) := by decide +kernel
theorem dX11_heardBehindSome_43 : decode cX11_heardBehindSome 43 = .ok (.iload 6, 2) := by decide +kernel
theorem dX11_heardBehindSome_45 : decode cX11_heardBehindSome 45 = .ok (.iload 5, 2) := by decide +kernel
theorem dX11_heardBehindSome_47 : decode cX11_heardBehindSome 47 = .ok (.invokevirtual 254, 3) := by decide +kernel
theorem dX11_heardBehindSome_50 : decode cX11_heardBehindSome 50 = .ok (.pop, 1) := by decide +kernel
theorem dX11_heardBehindSome_51 : decode cX11_heardBehindSome 51 = .ok (.iload 4, 2) := by decide +kernel
theorem dX11_heardBehindSome_53 : decode cX11_heardBehindSome 53 = .ok (.aload_n 0, 1) := by decide +kernel
theorem dX11_heardBehindSome_54 : decode cX11_heardBehindSome 54 = .ok (.iload_n 1, 1) := by decide +kernel
theorem dX11_heardBehindSome_55 : decode cX11_heardBehindSome 55 = .ok (.iconst 1, 1) := by decide +kernel
theorem dX11_heardBehindSome_56 : decode cX11_heardBehindSome 56 = .ok (.isub, 1) := by decide +kernel
theorem dX11_heardBehindSome_57 : decode cX11_heardBehindSome 57 = .ok (.invokestatic 246, 3) := by decide +kernel
theorem dX11_heardBehindSome_60 : decode cX11_heardBehindSome 60 = .ok (.ior, 1) := by decide +kernel
theorem dX11_heardBehindSome_61 : decode cX11_heardBehindSome 61 = .ok (.istore 4, 2) := by decide +kernel
theorem dX11_heardBehindSome_63 : decode cX11_heardBehindSome 63 = .ok (.aload_n 0, 1) := by decide +kernel
theorem dX11_heardBehindSome_64 : decode cX11_heardBehindSome 64 = .ok (.lload_n 2, 1) := by decide +kernel
theorem dX11_heardBehindSome_65 : decode cX11_heardBehindSome 65 = .ok (.invokevirtual 185, 3) := by decide +kernel
theorem dX11_heardBehindSome_68 : decode cX11_heardBehindSome 68 = .ok (.iinc 6 1, 3) := by decide +kernel
theorem dX11_heardBehindSome_71 : decode cX11_heardBehindSome 71 = .ok (.goto (-38), 3) := by decide +kernel
theorem dX11_heardBehindSome_74 : decode cX11_heardBehindSome 74 = .ok (.iload 4, 2) := by decide +kernel
theorem dX11_heardBehindSome_76 : decode cX11_heardBehindSome 76 = .ok (.ireturn, 1) := by decide +kernel
def k_heardBehindSome_11 (rec : Int32 → M → Option (Int32 × M))  (m : M) : Option (Int32 × M) :=
  some ((m 1 7), m)
set_option maxRecDepth 20000 in
theorem t_k_heardBehindSome_11 {G : GG} {x : Cx} {lv0 : Nat} (E : En G x cX11_heardBehindSome "WreckBoard" (lv0 + 1) (some .int)) (hn : xn x = 7) (rec : Int32 → M → Option (Int32 × M)) (hlb : 5 ≤ lv0) (hrec : ∀ (a1 : Int32) (m : M) (z : Int32 × M), rec a1 m = some z → Ct (xl x) G yX11_heardBehindSome cX11_heardBehindSome 7 (some .int) lv0 [.ref (G.2.1 1), .int a1] m (some (.int z.1)) z.2)  (m : M) : Sm G x 11 [(0, .ref (G.2.1 1))] [] m (k_heardBehindSome_11 rec m) KWi := by
  unfold k_heardBehindSome_11
  refine s_aload_n 0 E dX11_heardBehindSome_11 rfl rfl ?_
  refine s_geti (k := 7) (T := TX0) 1 E rfl rfl rfl inX0 (by decide) W239 dX11_heardBehindSome_12 ?_
  exact s_iret E rfl dX11_heardBehindSome_15
def k_heardBehindSome_33b (rec : Int32 → M → Option (Int32 × M)) (a1 : Int32) (a2 : Int64) (a4 : Int32) (a5 : Int32) (a6 : Int32) (m : M) : Option ((Int32 × Int32 × M) ⊕ ((Int32 × M))) :=
  (if (m 1 6) < a6 then some (.inr (a4, m)) else Option.bind (b_goesBy a6 a5 m) (fun z1 => Option.bind (rec (a1 - (1 : Int32)) z1.2) (fun z2 => lt (a4 ||| z2.1) (fun w3 : Int32 => Option.bind (b_goBackTo a2 z2.2) (fun m4 => lt (a6 + (1 : Int32)) (fun w5 : Int32 => some (.inl (w3, w5, m4))))))))
set_option maxRecDepth 20000 in
theorem t_k_heardBehindSome_33b {G : GG} {x : Cx} {lv0 : Nat} {K : ((Int32 × Int32 × M) ⊕ ((Int32 × M))) → Option (Option Value × M)} (E : En G x cX11_heardBehindSome "WreckBoard" (lv0 + 1) (some .int)) (hn : xn x = 7) (rec : Int32 → M → Option (Int32 × M)) (hlb : 5 ≤ lv0) (hrec : ∀ (a1 : Int32) (m : M) (z : Int32 × M), rec a1 m = some z → Ct (xl x) G yX11_heardBehindSome cX11_heardBehindSome 7 (some .int) lv0 [.ref (G.2.1 1), .int a1] m (some (.int z.1)) z.2) (a1 : Int32) (a2 : Int64) (a4 : Int32) (a5 : Int32) (a6 : Int32) (m : M) (hb : ∀ z : Int32 × Int32 × M, Sm G x 33 [(0, .ref (G.2.1 1)), (1, .int a1), (2, .long a2), (4, .int z.1), (5, .int a5), (6, .int z.2.1)] [] z.2.2 (some (.inl z)) K) (hx0 : ∀ z : Int32 × M, Sm G x 74 [(4, .int z.1)] [] z.2 (some (.inr z)) K) : Sm G x 33 [(0, .ref (G.2.1 1)), (1, .int a1), (2, .long a2), (4, .int a4), (5, .int a5), (6, .int a6)] [] m (k_heardBehindSome_33b rec a1 a2 a4 a5 a6 m) K := by
  unfold k_heardBehindSome_33b
  refine s_iload 5 E dX11_heardBehindSome_33 rfl ?_
  refine s_aload_n 0 E dX11_heardBehindSome_35 rfl rfl ?_
  refine s_geti (k := 6) (T := TX0) 1 E rfl rfl rfl inX0 (by decide) W237 dX11_heardBehindSome_36 ?_
  refine s_icmp_gt 74 E dX11_heardBehindSome_39 (by decide) ?_ ?_
  · refine s_sub (lv' := [(4, .int a4)]) [3] rfl ?_
    exact hx0 (a4, m)
  · refine s_aload_n 0 E dX11_heardBehindSome_42 rfl rfl ?_
    refine s_iload 5 E dX11_heardBehindSome_43 rfl ?_
    refine s_iload 4 E dX11_heardBehindSome_45 rfl ?_
    refine s_bd (fun z1 hz => ?_)
    refine s_cV (rest := []) E (C_b_goesBy (xl x) G a6 a5 m hz) mdX0_goesBy W909 W799 W800 W92 W801 rfl rfl rfl rfl (Nat.le_of_ble_eq_true rfl) ⟨by omega, by omega⟩ dX11_heardBehindSome_47 ?_
    refine s_pop E dX11_heardBehindSome_50 rfl ?_
    refine s_iload 3 E dX11_heardBehindSome_51 rfl ?_
    refine s_aload_n 0 E dX11_heardBehindSome_53 rfl rfl ?_
    refine s_iload_n 1 E dX11_heardBehindSome_54 rfl rfl ?_
    refine s_iconst (v := (1 : Int32)) E dX11_heardBehindSome_55 (by decide) ?_
    refine s_isub E dX11_heardBehindSome_56 ?_
    refine s_bd (fun z2 hz => ?_)
    refine s_cS (rest := [.int a4]) E (hrec (a1 - (1 : Int32)) z1.2 z2 hz) mdX11_heardBehindSome W947 W948 W91 W949 rfl rfl (Nat.le_of_ble_eq_true rfl) ⟨by omega, by omega⟩ dX11_heardBehindSome_57 ?_
    refine s_ior E dX11_heardBehindSome_60 ?_
    refine s_lt (fun w3 => [(0, .ref (G.2.1 1)), (1, .int a1), (2, .long a2), (4, .int a4), (5, .int a5), (6, .int a6)]) (fun w3 => [.int w3]) rfl rfl (fun w3 => ?_)
    refine s_istore (lv' := [(0, .ref (G.2.1 1)), (1, .int a1), (2, .long a2), (4, .int w3), (5, .int a5), (6, .int a6)]) [1, 2, 3, 0, 4, 5] E dX11_heardBehindSome_61 (by rw [hn]; decide) rfl ?_
    refine s_aload_n 0 E dX11_heardBehindSome_63 rfl rfl ?_
    refine s_lload_n 2 E dX11_heardBehindSome_64 rfl rfl ?_
    refine s_bd (fun m4 hz => ?_)
    refine s_cV (rest := []) E (C_b_goBackTo (xl x) G a2 z2.2 hz) mdX0_goBackTo W835 W836 W837 W92 W838 rfl rfl rfl rfl (Nat.le_of_ble_eq_true rfl) ⟨by omega, by omega⟩ dX11_heardBehindSome_65 ?_
    refine s_iincL (v := (1 : Int32)) 5 [1, 2, 3, 4, 5, 0] (fun w5 => [(0, .ref (G.2.1 1)), (1, .int a1), (2, .long a2), (4, .int w3), (5, .int a5), (6, .int w5)]) E dX11_heardBehindSome_68 rfl (by decide) (by rw [hn]; decide) (fun _ => rfl) (fun w5 => ?_)
    refine s_goto 33 E dX11_heardBehindSome_71 (by decide) ?_
    exact hb (w3, w5, m4)
def k_heardBehindSome_33 (rec : Int32 → M → Option (Int32 × M)) (a1 : Int32) (a2 : Int64) (a4 : Int32) (a5 : Int32) (a6 : Int32) (m : M) : Option (Int32 × M) :=
  Option.bind (iter (fun z => k_heardBehindSome_33b rec a1 a2 z.1 a5 z.2.1 z.2.2) FU (a4, a6, m)) (fun r => some (r.1, r.2))
set_option maxRecDepth 20000 in
theorem t_k_heardBehindSome_33 {G : GG} {x : Cx} {lv0 : Nat} (E : En G x cX11_heardBehindSome "WreckBoard" (lv0 + 1) (some .int)) (hn : xn x = 7) (rec : Int32 → M → Option (Int32 × M)) (hlb : 5 ≤ lv0) (hrec : ∀ (a1 : Int32) (m : M) (z : Int32 × M), rec a1 m = some z → Ct (xl x) G yX11_heardBehindSome cX11_heardBehindSome 7 (some .int) lv0 [.ref (G.2.1 1), .int a1] m (some (.int z.1)) z.2) (a1 : Int32) (a2 : Int64) (a4 : Int32) (a5 : Int32) (a6 : Int32) (m : M) : Sm G x 33 [(0, .ref (G.2.1 1)), (1, .int a1), (2, .long a2), (4, .int a4), (5, .int a5), (6, .int a6)] [] m (k_heardBehindSome_33 rec a1 a2 a4 a5 a6 m) KWi := by
  unfold k_heardBehindSome_33
  refine s_loop (fun z => [(0, .ref (G.2.1 1)), (1, .int a1), (2, .long a2), (4, .int z.1), (5, .int a5), (6, .int z.2.1)]) (fun z => z.2.2) (fun K2 hb2 hr2 z => ?_) FU (a4, a6, m)
  refine t_k_heardBehindSome_33b (K := K2) E hn rec hlb hrec a1 a2 z.1 a5 z.2.1 z.2.2 hb2 (fun r => s_out (hr2 r) ?_)
  · refine s_iload 0 E dX11_heardBehindSome_74 rfl ?_
    exact s_iret E rfl dX11_heardBehindSome_76
def k_heardBehindSome (rec : Int32 → M → Option (Int32 × M)) (a1 : Int32) (m : M) : Option (Int32 × M) :=
  (if a1 ≤ 0 then k_heardBehindSome_11 rec m else Option.bind (b_isOver m) (fun v1 => (if v1 = 0 then Option.bind (b_moment m) (fun v2 => Option.bind (b_count m) (fun v3 => k_heardBehindSome_33 rec a1 v2 (0 : Int32) v3 (0 : Int32) m)) else k_heardBehindSome_11 rec m)))
set_option maxRecDepth 20000 in
theorem t_k_heardBehindSome {G : GG} {x : Cx} {lv0 : Nat} (E : En G x cX11_heardBehindSome "WreckBoard" (lv0 + 1) (some .int)) (hn : xn x = 7) (rec : Int32 → M → Option (Int32 × M)) (hlb : 5 ≤ lv0) (hrec : ∀ (a1 : Int32) (m : M) (z : Int32 × M), rec a1 m = some z → Ct (xl x) G yX11_heardBehindSome cX11_heardBehindSome 7 (some .int) lv0 [.ref (G.2.1 1), .int a1] m (some (.int z.1)) z.2) (a1 : Int32) (m : M) : Sm G x 0 [(0, .ref (G.2.1 1)), (1, .int a1)] [] m (k_heardBehindSome rec a1 m) KWi := by
  unfold k_heardBehindSome
  refine s_iload_n 1 E dX11_heardBehindSome_0 rfl rfl ?_
  refine s_if_le 11 E dX11_heardBehindSome_1 (by decide) ?_ ?_
  · refine s_sub (lv' := [(0, .ref (G.2.1 1))]) [0] rfl ?_
    exact t_k_heardBehindSome_11 E hn rec hlb hrec m
  · refine s_aload_n 0 E dX11_heardBehindSome_4 rfl rfl ?_
    refine s_bd (fun v1 hz => ?_)
    refine s_cV (rest := []) E (C_b_isOver (xl x) G  m hz) mdX0_isOver W578 W579 W580 W92 W581 rfl rfl rfl rfl (Nat.le_of_ble_eq_true rfl) ⟨by omega, by omega⟩ dX11_heardBehindSome_5 ?_
    refine s_if_eq 16 E dX11_heardBehindSome_8 (by decide) ?_ ?_
    · refine s_aload_n 0 E dX11_heardBehindSome_16 rfl rfl ?_
      refine s_bd (fun v2 hz => ?_)
      refine s_cV (rest := []) E (C_b_moment (xl x) G  m hz) mdX0_moment W822 W823 W824 W92 W825 rfl rfl rfl rfl (Nat.le_of_ble_eq_true rfl) ⟨by omega, by omega⟩ dX11_heardBehindSome_17 ?_
      refine s_lstore_n (lv' := [(0, .ref (G.2.1 1)), (1, .int a1), (2, .long v2)]) [1, 2, 0] E dX11_heardBehindSome_20 rfl (by rw [hn]; decide) rfl ?_
      refine s_iconst (v := (0 : Int32)) E dX11_heardBehindSome_21 (by decide) ?_
      refine s_istore (lv' := [(0, .ref (G.2.1 1)), (1, .int a1), (2, .long v2), (4, .int (0 : Int32))]) [1, 2, 3, 0] E dX11_heardBehindSome_22 (by rw [hn]; decide) rfl ?_
      refine s_aload_n 0 E dX11_heardBehindSome_24 rfl rfl ?_
      refine s_bd (fun v3 hz => ?_)
      refine s_cV (rest := []) E (C_b_count (xl x) G  m hz) mdX0_count W499 W500 W501 W92 W502 rfl rfl rfl rfl (Nat.le_of_ble_eq_true rfl) ⟨by omega, by omega⟩ dX11_heardBehindSome_25 ?_
      refine s_istore (lv' := [(0, .ref (G.2.1 1)), (1, .int a1), (2, .long v2), (4, .int (0 : Int32)), (5, .int v3)]) [1, 2, 3, 4, 0] E dX11_heardBehindSome_28 (by rw [hn]; decide) rfl ?_
      refine s_iconst (v := (0 : Int32)) E dX11_heardBehindSome_30 (by decide) ?_
      refine s_istore (lv' := [(0, .ref (G.2.1 1)), (1, .int a1), (2, .long v2), (4, .int (0 : Int32)), (5, .int v3), (6, .int (0 : Int32))]) [1, 2, 3, 4, 5, 0] E dX11_heardBehindSome_31 (by rw [hn]; decide) rfl ?_
      exact t_k_heardBehindSome_33 E hn rec hlb hrec a1 v2 (0 : Int32) v3 (0 : Int32) m
    · refine s_sub (lv' := [(0, .ref (G.2.1 1))]) [0] rfl ?_
      exact t_k_heardBehindSome_11 E hn rec hlb hrec m
set_option maxRecDepth 20000 in
theorem C_k_heardBehindSome (l : Launch) (G : GG) (rec : Int32 → M → Option (Int32 × M)) {lv0 : Nat} (hlb : 5 ≤ lv0) (hrec : ∀ (a1 : Int32) (m : M) (z : Int32 × M), rec a1 m = some z → Ct l G yX11_heardBehindSome cX11_heardBehindSome 7 (some .int) lv0 [.ref (G.2.1 1), .int a1] m (some (.int z.1)) z.2) (a1 : Int32) (m : M) {z : Int32 × M} (hz : k_heardBehindSome rec a1 m = some z) : Ct l G yX11_heardBehindSome cX11_heardBehindSome 7 (some .int) (lv0 + 1) [.ref (G.2.1 1), .int a1] m (some (.int z.1)) z.2 :=
  ct_of (K := KWi) (by decide) (Nat.le_of_ble_eq_true rfl) (congrArg (fun q => Option.bind q _) hz) (fun x hl hn E => (t_k_heardBehindSome E hn rec hlb (by rw [hl]; exact hrec) a1 m))
def k_heardBehindSome_d : Nat → Int32 → M → Option (Int32 × M)
  | 0 => fun _ _ => none
  | d + 1 => fun a1 m => k_heardBehindSome (k_heardBehindSome_d d) a1 m
theorem C_k_heardBehindSome_d (l : Launch) (G : GG) : ∀ (d : Nat) (a1 : Int32) (m : M) {z : Int32 × M}, k_heardBehindSome_d d a1 m = some z → Ct l G yX11_heardBehindSome cX11_heardBehindSome 7 (some .int) (5 + 1 * d) [.ref (G.2.1 1), .int a1] m (some (.int z.1)) z.2 := by
  intro d
  induction d with
  | zero => intro a1 m z hz; cases hz
  | succ d ih =>
    intro a1 m z hz
    exact C_k_heardBehindSome l G (k_heardBehindSome_d d) (lv0 := 5 + 1 * d) (by omega) (fun a1 m z h => ih a1 m h) a1 m hz
theorem dX11_bars_0 : decode cX11_bars 0 = .ok (.iload_n 1, 1) := by decide +kernel
theorem dX11_bars_1 : decode cX11_bars 1 = .ok (.iconst 0, 1) := by decide +kernel
theorem dX11_bars_2 : decode cX11_bars 2 = .ok (.iconst 4, 1) := by decide +kernel
theorem dX11_bars_3 : decode cX11_bars 3 = .ok (.invokestatic 61, 3) := by decide +kernel
theorem dX11_bars_6 : decode cX11_bars 6 = .ok (.ifCond .eq 14, 3) := by decide +kernel
theorem dX11_bars_9 : decode cX11_bars 9 = .ok (.aload_n 0, 1) := by decide +kernel
theorem dX11_bars_10 : decode cX11_bars 10 = .ok (.getfield 12, 3) := by decide +kernel
theorem dX11_bars_13 : decode cX11_bars 13 = .ok (.iload_n 2, 1) := by decide +kernel
theorem dX11_bars_14 : decode cX11_bars 14 = .ok (.invokevirtual 239, 3) := by decide +kernel
theorem dX11_bars_17 : decode cX11_bars 17 = .ok (.ifCond .ne 5, 3) := by decide +kernel
theorem dX11_bars_20 : decode cX11_bars 20 = .ok (.iconst (-1), 1) := by decide +kernel
theorem dX11_bars_21 : decode cX11_bars 21 = .ok (.ireturn, 1) := by decide +kernel
theorem dX11_bars_22 : decode cX11_bars 22 = .ok (.aload_n 0, 1) := by decide +kernel
theorem dX11_bars_23 : decode cX11_bars 23 = .ok (.getfield 12, 3) := by decide +kernel
theorem dX11_bars_26 : decode cX11_bars 26 = .ok (.iload_n 1, 1) := by decide +kernel
theorem dX11_bars_27 : decode cX11_bars 27 = .ok (.invokestatic 246, 3) := by decide +kernel
theorem dX11_bars_30 : decode cX11_bars 30 = .ok (.istore_n 3, 1) := by decide +kernel
theorem dX11_bars_31 : decode cX11_bars 31 = .ok (.iconst 0, 1) := by decide +kernel
theorem dX11_bars_32 : decode cX11_bars 32 = .ok (.istore 4, 2) := by decide +kernel
theorem dX11_bars_34 : decode cX11_bars 34 = .ok (.iload 4, 2) := by decide +kernel
theorem dX11_bars_36 : decode cX11_bars 36 = .ok (.aload_n 0, 1) := by decide +kernel
theorem dX11_bars_37 : decode cX11_bars 37 = .ok (.getfield 12, 3) := by decide +kernel
theorem dX11_bars_40 : decode cX11_bars 40 = .ok (.getfield 65, 3) := by decide +kernel
theorem dX11_bars_43 : decode cX11_bars 43 = .ok (.if_icmp .ge 30, 3) := by decide +kernel
theorem dX11_bars_46 : decode cX11_bars 46 = .ok (.iload_n 2, 1) := by decide +kernel
theorem dX11_bars_47 : decode cX11_bars 47 = .ok (.iload 4, 2) := by decide +kernel
theorem dX11_bars_49 : decode cX11_bars 49 = .ok (.invokestatic 208, 3) := by decide +kernel
theorem dX11_bars_52 : decode cX11_bars 52 = .ok (.ifCond .eq 15, 3) := by decide +kernel
theorem dX11_bars_55 : decode cX11_bars 55 = .ok (.iload_n 3, 1) := by decide +kernel
theorem dX11_bars_56 : decode cX11_bars 56 = .ok (.iload 4, 2) := by decide +kernel
theorem dX11_bars_58 : decode cX11_bars 58 = .ok (.invokestatic 208, 3) := by decide +kernel
theorem dX11_bars_61 : decode cX11_bars 61 = .ok (.ifCond .ne 6, 3) := by decide +kernel
theorem dX11_bars_64 : decode cX11_bars 64 = .ok (.iload 4, 2) := by decide +kernel
theorem dX11_bars_66 : decode cX11_bars 66 = .ok (.ireturn, 1) := by decide +kernel
theorem dX11_bars_67 : decode cX11_bars 67 = .ok (.iinc 4 1, 3) := by decide +kernel
theorem dX11_bars_70 : decode cX11_bars 70 = .ok (.goto (-36), 3) := by decide +kernel
theorem dX11_bars_73 : decode cX11_bars 73 = .ok (.bipush (-3), 2) := by decide +kernel
theorem dX11_bars_75 : decode cX11_bars 75 = .ok (.ireturn, 1) := by decide +kernel
def k_bars_67 (a2 : Int32) (a3 : Int32) (a4 : Int32) (m : M) : Option ((Int32) ⊕ ((Unit) ⊕ ((Int32)))) :=
  lt (a4 + (1 : Int32)) (fun w1 : Int32 => some (.inl w1))
set_option maxRecDepth 20000 in
theorem t_k_bars_67 {G : GG} {x : Cx} {K : ((Int32) ⊕ ((Unit) ⊕ ((Int32)))) → Option (Option Value × M)} (E : En G x cX11_bars "WreckBoard" 14 (some .int)) (hn : xn x = 5) (a2 : Int32) (a3 : Int32) (a4 : Int32) (m : M) (hb : ∀ z : Int32, Sm G x 34 [(0, .ref (G.2.1 0)), (2, .int a2), (3, .int a3), (4, .int z)] [] m (some (.inl z)) K) (hx0 : ∀ z : Unit, Sm G x 73 [] [] m (some (.inr (.inl z))) K) (hx1 : ∀ z : Int32, Sm G x 64 [(4, .int z)] [] m (some (.inr (.inr z))) K) : Sm G x 67 [(0, .ref (G.2.1 0)), (2, .int a2), (3, .int a3), (4, .int a4)] [] m (k_bars_67 a2 a3 a4 m) K := by
  unfold k_bars_67
  refine s_iincL (v := (1 : Int32)) 3 [1, 2, 3, 0] (fun w1 => [(0, .ref (G.2.1 0)), (2, .int a2), (3, .int a3), (4, .int w1)]) E dX11_bars_67 rfl (by decide) (by rw [hn]; decide) (fun _ => rfl) (fun w1 => ?_)
  refine s_goto 34 E dX11_bars_70 (by decide) ?_
  exact hb w1
def k_bars_34b (a2 : Int32) (a3 : Int32) (a4 : Int32) (m : M) : Option ((Int32) ⊕ ((Unit) ⊕ ((Int32)))) :=
  (if (m 1 6) ≤ a4 then some (.inr (.inl ())) else Option.bind (k_isIn a2 a4 m) (fun v1 => (if v1 = 0 then k_bars_67 a2 a3 a4 m else Option.bind (k_isIn a3 a4 m) (fun v2 => (if v2 = 0 then some (.inr (.inr a4)) else k_bars_67 a2 a3 a4 m)))))
set_option maxRecDepth 20000 in
theorem t_k_bars_34b {G : GG} {x : Cx} {K : ((Int32) ⊕ ((Unit) ⊕ ((Int32)))) → Option (Option Value × M)} (E : En G x cX11_bars "WreckBoard" 14 (some .int)) (hn : xn x = 5) (a2 : Int32) (a3 : Int32) (a4 : Int32) (m : M) (hb : ∀ z : Int32, Sm G x 34 [(0, .ref (G.2.1 0)), (2, .int a2), (3, .int a3), (4, .int z)] [] m (some (.inl z)) K) (hx0 : ∀ z : Unit, Sm G x 73 [] [] m (some (.inr (.inl z))) K) (hx1 : ∀ z : Int32, Sm G x 64 [(4, .int z)] [] m (some (.inr (.inr z))) K) : Sm G x 34 [(0, .ref (G.2.1 0)), (2, .int a2), (3, .int a3), (4, .int a4)] [] m (k_bars_34b a2 a3 a4 m) K := by
  unfold k_bars_34b
  refine s_iload 3 E dX11_bars_34 rfl ?_
  refine s_aload_n 0 E dX11_bars_36 rfl rfl ?_
  refine s_getr (k := 0) (T := TX11) 0 E rfl rfl rfl inX11 (by decide) W360 dX11_bars_37 ?_
  refine s_geti (k := 6) (T := TX0) 1 E rfl rfl rfl inX0 (by decide) W237 dX11_bars_40 ?_
  refine s_icmp_ge 73 E dX11_bars_43 (by decide) ?_ ?_
  · refine s_sub (lv' := []) [] rfl ?_
    exact hx0 ()
  · refine s_iload_n 1 E dX11_bars_46 rfl rfl ?_
    refine s_iload 3 E dX11_bars_47 rfl ?_
    refine s_bd (fun v1 hz => ?_)
    refine s_cS (rest := []) E (C_k_isIn (xl x) G a2 a4 m hz) mdX11_isIn W520 W425 W91 W426 rfl rfl (Nat.le_of_ble_eq_true rfl) ⟨by decide, by decide⟩ dX11_bars_49 ?_
    refine s_if_eq 67 E dX11_bars_52 (by decide) ?_ ?_
    · exact t_k_bars_67 E hn a2 a3 a4 m hb hx0 hx1
    · refine s_iload_n 2 E dX11_bars_55 rfl rfl ?_
      refine s_iload 3 E dX11_bars_56 rfl ?_
      refine s_bd (fun v2 hz => ?_)
      refine s_cS (rest := []) E (C_k_isIn (xl x) G a3 a4 m hz) mdX11_isIn W520 W425 W91 W426 rfl rfl (Nat.le_of_ble_eq_true rfl) ⟨by decide, by decide⟩ dX11_bars_58 ?_
      refine s_if_ne 67 E dX11_bars_61 (by decide) ?_ ?_
      · exact t_k_bars_67 E hn a2 a3 a4 m hb hx0 hx1
      · refine s_sub (lv' := [(4, .int a4)]) [3] rfl ?_
        exact hx1 a4
def k_bars_34 (a2 : Int32) (a3 : Int32) (a4 : Int32) (m : M) : Option (Int32 × M) :=
  Option.bind (iter (fun z => k_bars_34b a2 a3 z m) FU a4) (fun r => (match r with
  | .inl r => some ((-3 : Int32), m)
  | .inr r => some (r, m)))
set_option maxRecDepth 20000 in
theorem t_k_bars_34 {G : GG} {x : Cx} (E : En G x cX11_bars "WreckBoard" 14 (some .int)) (hn : xn x = 5) (a2 : Int32) (a3 : Int32) (a4 : Int32) (m : M) : Sm G x 34 [(0, .ref (G.2.1 0)), (2, .int a2), (3, .int a3), (4, .int a4)] [] m (k_bars_34 a2 a3 a4 m) KWi := by
  unfold k_bars_34
  refine s_loop (fun z => [(0, .ref (G.2.1 0)), (2, .int a2), (3, .int a3), (4, .int z)]) (fun z => m) (fun K2 hb2 hr2 z => ?_) FU a4
  refine t_k_bars_34b (K := K2) E hn a2 a3 z m hb2 (fun r => s_out (hr2 (.inl r)) ?_) (fun r => s_out (hr2 (.inr r)) ?_)
  · refine s_bipush (v := (-3 : Int32)) E dX11_bars_73 (by decide) ?_
    exact s_iret E rfl dX11_bars_75
  · refine s_iload 0 E dX11_bars_64 rfl ?_
    exact s_iret E rfl dX11_bars_66
def k_bars (a1 : Int32) (a2 : Int32) (m : M) : Option (Int32 × M) :=
  Option.bind (k_within a1 (0 : Int32) (4 : Int32) m) (fun v1 => (if v1 = 0 then some ((-1 : Int32), m) else Option.bind (b_isSet a2 m) (fun v2 => (if v2 = 0 then some ((-1 : Int32), m) else Option.bind (k_heardBehindSome_d 8 a1 m) (fun z3 => k_bars_34 a2 z3.1 (0 : Int32) z3.2)))))
set_option maxRecDepth 20000 in
theorem t_k_bars {G : GG} {x : Cx} (E : En G x cX11_bars "WreckBoard" 14 (some .int)) (hn : xn x = 5) (a1 : Int32) (a2 : Int32) (m : M) : Sm G x 0 [(0, .ref (G.2.1 0)), (1, .int a1), (2, .int a2)] [] m (k_bars a1 a2 m) KWi := by
  unfold k_bars
  refine s_iload_n 1 E dX11_bars_0 rfl rfl ?_
  refine s_iconst (v := (0 : Int32)) E dX11_bars_1 (by decide) ?_
  refine s_iconst (v := (4 : Int32)) E dX11_bars_2 (by decide) ?_
  refine s_bd (fun v1 hz => ?_)
  refine s_cS (rest := []) E (C_k_within (xl x) G a1 (0 : Int32) (4 : Int32) m hz) mdX11_within W404 W405 W91 W406 rfl rfl (Nat.le_of_ble_eq_true rfl) ⟨by decide, by decide⟩ dX11_bars_3 ?_
  refine s_if_eq 20 E dX11_bars_6 (by decide) ?_ ?_
  · refine s_iconst (v := (-1 : Int32)) E dX11_bars_20 (by decide) ?_
    exact s_iret E rfl dX11_bars_21
  · refine s_aload_n 0 E dX11_bars_9 rfl rfl ?_
    refine s_getr (k := 0) (T := TX11) 0 E rfl rfl rfl inX11 (by decide) W360 dX11_bars_10 ?_
    refine s_iload_n 2 E dX11_bars_13 rfl rfl ?_
    refine s_bd (fun v2 hz => ?_)
    refine s_cV (rest := []) E (C_b_isSet (xl x) G a2 m hz) mdX0_isSet W935 W936 W937 W92 W938 rfl rfl rfl rfl (Nat.le_of_ble_eq_true rfl) ⟨by decide, by decide⟩ dX11_bars_14 ?_
    refine s_if_ne 22 E dX11_bars_17 (by decide) ?_ ?_
    · refine s_aload_n 0 E dX11_bars_22 rfl rfl ?_
      refine s_getr (k := 0) (T := TX11) 0 E rfl rfl rfl inX11 (by decide) W360 dX11_bars_23 ?_
      refine s_iload_n 1 E dX11_bars_26 rfl rfl ?_
      refine s_bd (fun z3 hz => ?_)
      refine s_cS (rest := []) E (C_k_heardBehindSome_d (xl x) G 8 a1 m hz) mdX11_heardBehindSome W947 W948 W91 W949 rfl rfl (Nat.le_of_ble_eq_true rfl) ⟨by decide, by decide⟩ dX11_bars_27 ?_
      refine s_istore_n (lv' := [(0, .ref (G.2.1 0)), (2, .int a2), (3, .int z3.1)]) [1, 3, 0] E dX11_bars_30 rfl (by rw [hn]; decide) rfl ?_
      refine s_iconst (v := (0 : Int32)) E dX11_bars_31 (by decide) ?_
      refine s_istore (lv' := [(0, .ref (G.2.1 0)), (2, .int a2), (3, .int z3.1), (4, .int (0 : Int32))]) [1, 2, 3, 0] E dX11_bars_32 (by rw [hn]; decide) rfl ?_
      exact t_k_bars_34 E hn a2 z3.1 (0 : Int32) z3.2
    · refine s_iconst (v := (-1 : Int32)) E dX11_bars_20 (by decide) ?_
      exact s_iret E rfl dX11_bars_21
set_option maxRecDepth 20000 in
theorem C_k_bars (l : Launch) (G : GG) (a1 : Int32) (a2 : Int32) (m : M) {z : Int32 × M} (hz : k_bars a1 a2 m = some z) : Ct l G yX11_bars cX11_bars 5 (some .int) 14 [.ref (G.2.1 0), .int a1, .int a2] m (some (.int z.1)) z.2 :=
  ct_of (K := KWi) (by decide) (Nat.le_of_ble_eq_true rfl) (congrArg (fun q => Option.bind q _) hz) (fun x hl hn E => (t_k_bars E hn a1 a2 m))
theorem mdX11_gameValue : mdq yX11_gameValue 3 := ⟨by decide, by decide, by decide +kernel⟩
theorem dX11_gameValue_0 : decode cX11_gameValue 0 = .ok (.iload_n 1, 1) := by decide +kernel
theorem dX11_gameValue_1 : decode cX11_gameValue 1 = .ok (.ifCond .le 10, 3) := by decide +kernel
theorem dX11_gameValue_4 : decode cX11_gameValue 4 = .ok (.aload_n 0, 1) := by decide +kernel
theorem dX11_gameValue_5 : decode cX11_gameValue 5 = .ok (.invokevirtual 148, 3) := by decide +kernel
theorem dX11_gameValue_8 : decode cX11_gameValue 8 = .ok (.ifCond .eq 5, 3) := by decide +kernel
theorem dX11_gameValue_11 : decode cX11_gameValue 11 = .ok (.iconst 0, 1) := by decide +kernel
theorem dX11_gameValue_12 : decode cX11_gameValue 12 = .ok (.ireturn, 1) := by decide +kernel
theorem dX11_gameValue_13 : decode cX11_gameValue 13 = .ok (.aload_n 0, 1) := by decide +kernel
theorem dX11_gameValue_14 : decode cX11_gameValue 14 = .ok (.invokevirtual 178, 3) := by decide +kernel
theorem dX11_gameValue_17 : decode cX11_gameValue 17 = .ok (.lstore_n 3, 1) := by decide +kernel
theorem dX11_gameValue_18 : decode cX11_gameValue 18 = .ok (.iload_n 2, 1) := by decide +kernel
theorem dX11_gameValue_19 : decode cX11_gameValue 19 = .ok (.ifCond .eq 9, 3) := by decide +kernel
theorem dX11_gameValue_22 : decode cX11_gameValue 22 = .ok (.ldc_w 270, 3) := by decide +kernel
theorem dX11_gameValue_25 : decode cX11_gameValue 25 = .ok (.goto 6, 3) := by decide +kernel
theorem dX11_gameValue_28 : decode cX11_gameValue 28 = .ok (.ldc_w 271, 3) := by decide +kernel
theorem dX11_gameValue_31 : decode cX11_gameValue 31 = .ok (.istore 5, 2) := by decide +kernel
theorem dX11_gameValue_33 : decode cX11_gameValue 33 = .ok (.aload_n 0, 1) := by decide +kernel
theorem dX11_gameValue_34 : decode cX11_gameValue 34 = .ok (.invokevirtual 102, 3) := by decide +kernel
theorem dX11_gameValue_37 : decode cX11_gameValue 37 = .ok (.istore 6, 2) := by decide +kernel
theorem dX11_gameValue_39 : decode cX11_gameValue 39 = .ok (.iconst 0, 1) := by decide +kernel
theorem dX11_gameValue_40 : decode cX11_gameValue 40 = .ok (.istore 7, 2) := by decide +kernel
theorem dX11_gameValue_42 : decode cX11_gameValue 42 = .ok (.iload 7, 2) := by decide +kernel
theorem dX11_gameValue_44 : decode cX11_gameValue 44 = .ok (.aload_n 0, 1) := by decide +kernel
theorem dX11_gameValue_45 : decode cX11_gameValue 45 = .ok (.getfield 65, 3) := by decide +kernel
theorem dX11_gameValue_48 : decode cX11_gameValue 48 = .ok (.if_icmp .gt 64, 3) := by decide +kernel
theorem dX11_gameValue_51 : decode cX11_gameValue 51 = .ok (.aload_n 0, 1) := by decide +kernel
theorem dX11_gameValue_52 : decode cX11_gameValue 52 = .ok (.iload 7, 2) := by decide +kernel
theorem dX11_gameValue_54 : decode cX11_gameValue 54 = .ok (.iload 6, 2) := by decide +kernel
theorem dX11_gameValue_56 : decode cX11_gameValue 56 = .ok (.invokevirtual 254, 3) := by decide +kernel
theorem dX11_gameValue_59 : decode cX11_gameValue 59 = .ok (.aload_n 0, 1) := by decide +kernel
theorem dX11_gameValue_60 : decode cX11_gameValue 60 = .ok (.iload_n 1, 1) := by decide +kernel
theorem dX11_gameValue_61 : decode cX11_gameValue 61 = .ok (.iconst 1, 1) := by decide +kernel
theorem dX11_gameValue_62 : decode cX11_gameValue 62 = .ok (.isub, 1) := by decide +kernel
theorem dX11_gameValue_63 : decode cX11_gameValue 63 = .ok (.iload_n 2, 1) := by decide +kernel
theorem dX11_gameValue_64 : decode cX11_gameValue 64 = .ok (.ifCond .ne 7, 3) := by decide +kernel
theorem dX11_gameValue_67 : decode cX11_gameValue 67 = .ok (.iconst 1, 1) := by decide +kernel
theorem dX11_gameValue_68 : decode cX11_gameValue 68 = .ok (.goto 4, 3) := by decide +kernel
theorem dX11_gameValue_71 : decode cX11_gameValue 71 = .ok (.iconst 0, 1) := by decide +kernel
theorem dX11_gameValue_72 : decode cX11_gameValue 72 = .ok (.invokestatic 266, 3) := by decide +kernel
theorem dX11_gameValue_75 : decode cX11_gameValue 75 = .ok (.iadd, 1) := by decide +kernel
theorem dX11_gameValue_76 : decode cX11_gameValue 76 = .ok (.istore 8, 2) := by decide +kernel
theorem dX11_gameValue_78 : decode cX11_gameValue 78 = .ok (.aload_n 0, 1) := by decide +kernel
theorem dX11_gameValue_79 : decode cX11_gameValue 79 = .ok (.lload_n 3, 1) := by decide +kernel
theorem dX11_gameValue_80 : decode cX11_gameValue 80 = .ok (.invokevirtual 185, 3) := by decide +kernel
theorem dX11_gameValue_83 : decode cX11_gameValue 83 = .ok (.iload_n 2, 1) := by decide +kernel
theorem dX11_gameValue_84 : decode cX11_gameValue 84 = .ok (.ifCond .eq 13, 3) := by decide +kernel
theorem dX11_gameValue_87 : decode cX11_gameValue 87 = .ok (.iload 5, 2) := by decide +kernel
theorem dX11_gameValue_89 : decode cX11_gameValue 89 = .ok (.iload 8, 2) := by decide +kernel
theorem dX11_gameValue_91 : decode cX11_gameValue 91 = .ok (.invokestatic 272, 3) := by decide +kernel
theorem dX11_gameValue_94 : decode cX11_gameValue 94 = .ok (.goto 10, 3) := by decide +kernel
theorem dX11_gameValue_97 : decode cX11_gameValue 97 = .ok (.iload 5, 2) := by decide +kernel
theorem dX11_gameValue_99 : decode cX11_gameValue 99 = .ok (.iload 8, 2) := by decide +kernel
theorem dX11_gameValue_101 : decode cX11_gameValue 101 = .ok (.invokestatic 261, 3) := by decide +kernel
theorem dX11_gameValue_104 : decode cX11_gameValue 104 = .ok (.istore 5, 2) := by decide +kernel
theorem dX11_gameValue_106 : decode cX11_gameValue 106 = .ok (.iinc 7 1, 3) := by decide +kernel
theorem dX11_gameValue_109 : decode cX11_gameValue 109 = .ok (.goto (-67), 3) := by decide +kernel
theorem dX11_gameValue_112 : decode cX11_gameValue 112 = .ok (.iload 5, 2) := by decide +kernel
theorem dX11_gameValue_114 : decode cX11_gameValue 114 = .ok (.ireturn, 1) := by decide +kernel
def k_gameValue_104 (rec : Int32 → Int32 → M → Option (Int32 × M)) (a1 : Int32) (a2 : Int32) (a3 : Int64) (a6 : Int32) (a7 : Int32) (s0 : Int32) (m : M) : Option ((Int32 × Int32 × M) ⊕ ((Int32 × M))) :=
  lt (a7 + (1 : Int32)) (fun w1 : Int32 => some (.inl (s0, w1, m)))
set_option maxRecDepth 20000 in
theorem t_k_gameValue_104 {G : GG} {x : Cx} {lv0 : Nat} {K : ((Int32 × Int32 × M) ⊕ ((Int32 × M))) → Option (Option Value × M)} (E : En G x cX11_gameValue "WreckBoard" (lv0 + 1) (some .int)) (hn : xn x = 9) (rec : Int32 → Int32 → M → Option (Int32 × M)) (hlb : 5 ≤ lv0) (hrec : ∀ (a1 : Int32) (a2 : Int32) (m : M) (z : Int32 × M), rec a1 a2 m = some z → Ct (xl x) G yX11_gameValue cX11_gameValue 9 (some .int) lv0 [.ref (G.2.1 1), .int a1, .int a2] m (some (.int z.1)) z.2) (a1 : Int32) (a2 : Int32) (a3 : Int64) (a6 : Int32) (a7 : Int32) (s0 : Int32) (m : M) (hb : ∀ z : Int32 × Int32 × M, Sm G x 42 [(0, .ref (G.2.1 1)), (1, .int a1), (2, .int a2), (3, .long a3), (5, .int z.1), (6, .int a6), (7, .int z.2.1)] [] z.2.2 (some (.inl z)) K) (hx0 : ∀ z : Int32 × M, Sm G x 112 [(5, .int z.1)] [] z.2 (some (.inr z)) K) : Sm G x 104 [(0, .ref (G.2.1 1)), (1, .int a1), (2, .int a2), (3, .long a3), (6, .int a6), (7, .int a7)] [.int s0] m (k_gameValue_104 rec a1 a2 a3 a6 a7 s0 m) K := by
  unfold k_gameValue_104
  refine s_istore (lv' := [(0, .ref (G.2.1 1)), (1, .int a1), (2, .int a2), (3, .long a3), (5, .int s0), (6, .int a6), (7, .int a7)]) [1, 2, 3, 4, 0, 5, 6] E dX11_gameValue_104 (by rw [hn]; decide) rfl ?_
  refine s_iincL (v := (1 : Int32)) 6 [1, 2, 3, 4, 5, 6, 0] (fun w1 => [(0, .ref (G.2.1 1)), (1, .int a1), (2, .int a2), (3, .long a3), (5, .int s0), (6, .int a6), (7, .int w1)]) E dX11_gameValue_106 rfl (by decide) (by rw [hn]; decide) (fun _ => rfl) (fun w1 => ?_)
  refine s_goto 42 E dX11_gameValue_109 (by decide) ?_
  exact hb (s0, w1, m)
def k_gameValue_72 (rec : Int32 → Int32 → M → Option (Int32 × M)) (a1 : Int32) (a2 : Int32) (a3 : Int64) (a5 : Int32) (a6 : Int32) (a7 : Int32) (s0 : Int32) (s2 : Int32) (s3 : Int32) (m : M) : Option ((Int32 × Int32 × M) ⊕ ((Int32 × M))) :=
  Option.bind (rec s2 s3 m) (fun z1 => lt (s0 + z1.1) (fun w2 : Int32 => Option.bind (b_goBackTo a3 z1.2) (fun m3 => (if a2 = 0 then k_gameValue_104 rec a1 a2 a3 a6 a7 (mnI a5 w2) m3 else k_gameValue_104 rec a1 a2 a3 a6 a7 (mxI a5 w2) m3))))
set_option maxRecDepth 20000 in
theorem t_k_gameValue_72 {G : GG} {x : Cx} {lv0 : Nat} {K : ((Int32 × Int32 × M) ⊕ ((Int32 × M))) → Option (Option Value × M)} (E : En G x cX11_gameValue "WreckBoard" (lv0 + 1) (some .int)) (hn : xn x = 9) (rec : Int32 → Int32 → M → Option (Int32 × M)) (hlb : 5 ≤ lv0) (hrec : ∀ (a1 : Int32) (a2 : Int32) (m : M) (z : Int32 × M), rec a1 a2 m = some z → Ct (xl x) G yX11_gameValue cX11_gameValue 9 (some .int) lv0 [.ref (G.2.1 1), .int a1, .int a2] m (some (.int z.1)) z.2) (a1 : Int32) (a2 : Int32) (a3 : Int64) (a5 : Int32) (a6 : Int32) (a7 : Int32) (s0 : Int32) (s2 : Int32) (s3 : Int32) (m : M) (hb : ∀ z : Int32 × Int32 × M, Sm G x 42 [(0, .ref (G.2.1 1)), (1, .int a1), (2, .int a2), (3, .long a3), (5, .int z.1), (6, .int a6), (7, .int z.2.1)] [] z.2.2 (some (.inl z)) K) (hx0 : ∀ z : Int32 × M, Sm G x 112 [(5, .int z.1)] [] z.2 (some (.inr z)) K) : Sm G x 72 [(0, .ref (G.2.1 1)), (1, .int a1), (2, .int a2), (3, .long a3), (5, .int a5), (6, .int a6), (7, .int a7)] [.int s3, .int s2, .ref (G.2.1 1), .int s0] m (k_gameValue_72 rec a1 a2 a3 a5 a6 a7 s0 s2 s3 m) K := by
  unfold k_gameValue_72
  refine s_bd (fun z1 hz => ?_)
  refine s_cS (rest := [.int s0]) E (hrec s2 s3 m z1 hz) mdX11_gameValue W954 W955 W91 W956 rfl rfl (Nat.le_of_ble_eq_true rfl) ⟨by omega, by omega⟩ dX11_gameValue_72 ?_
  refine s_iadd E dX11_gameValue_75 ?_
  refine s_lt (fun w2 => [(0, .ref (G.2.1 1)), (1, .int a1), (2, .int a2), (3, .long a3), (5, .int a5), (6, .int a6), (7, .int a7)]) (fun w2 => [.int w2]) rfl rfl (fun w2 => ?_)
  refine s_istore (lv' := [(0, .ref (G.2.1 1)), (1, .int a1), (2, .int a2), (3, .long a3), (5, .int a5), (6, .int a6), (7, .int a7), (8, .int w2)]) [1, 2, 3, 4, 5, 6, 7, 0] E dX11_gameValue_76 (by rw [hn]; decide) rfl ?_
  refine s_aload_n 0 E dX11_gameValue_78 rfl rfl ?_
  refine s_lload_n 3 E dX11_gameValue_79 rfl rfl ?_
  refine s_bd (fun m3 hz => ?_)
  refine s_cV (rest := []) E (C_b_goBackTo (xl x) G a3 z1.2 hz) mdX0_goBackTo W835 W836 W837 W92 W838 rfl rfl rfl rfl (Nat.le_of_ble_eq_true rfl) ⟨by omega, by omega⟩ dX11_gameValue_80 ?_
  refine s_iload_n 2 E dX11_gameValue_83 rfl rfl ?_
  refine s_if_eq 97 E dX11_gameValue_84 (by decide) ?_ ?_
  · refine s_iload 4 E dX11_gameValue_97 rfl ?_
    refine s_iload 7 E dX11_gameValue_99 rfl ?_
    refine s_mmin E W942 W488 W104 W489 (by omega) (Nat.le_of_ble_eq_true rfl) dX11_gameValue_101 ?_
    refine s_sub (lv' := [(0, .ref (G.2.1 1)), (1, .int a1), (2, .int a2), (3, .long a3), (6, .int a6), (7, .int a7)]) [0, 1, 2, 3, 5, 6] rfl ?_
    exact t_k_gameValue_104 E hn rec hlb hrec a1 a2 a3 a6 a7 (mnI a5 w2) m3 hb hx0
  · refine s_iload 4 E dX11_gameValue_87 rfl ?_
    refine s_iload 7 E dX11_gameValue_89 rfl ?_
    refine s_mmax E W959 W497 W104 W498 (by omega) (Nat.le_of_ble_eq_true rfl) dX11_gameValue_91 ?_
    refine s_goto 104 E dX11_gameValue_94 (by decide) ?_
    refine s_sub (lv' := [(0, .ref (G.2.1 1)), (1, .int a1), (2, .int a2), (3, .long a3), (6, .int a6), (7, .int a7)]) [0, 1, 2, 3, 5, 6] rfl ?_
    exact t_k_gameValue_104 E hn rec hlb hrec a1 a2 a3 a6 a7 (mxI a5 w2) m3 hb hx0
def k_gameValue_42b (rec : Int32 → Int32 → M → Option (Int32 × M)) (a1 : Int32) (a2 : Int32) (a3 : Int64) (a5 : Int32) (a6 : Int32) (a7 : Int32) (m : M) : Option ((Int32 × Int32 × M) ⊕ ((Int32 × M))) :=
  (if (m 1 6) < a7 then some (.inr (a5, m)) else Option.bind (b_goesBy a7 a6 m) (fun z1 => (if a2 = 0 then k_gameValue_72 rec a1 a2 a3 a5 a6 a7 z1.1 (a1 - (1 : Int32)) (1 : Int32) z1.2 else k_gameValue_72 rec a1 a2 a3 a5 a6 a7 z1.1 (a1 - (1 : Int32)) (0 : Int32) z1.2)))
set_option maxRecDepth 20000 in
theorem t_k_gameValue_42b {G : GG} {x : Cx} {lv0 : Nat} {K : ((Int32 × Int32 × M) ⊕ ((Int32 × M))) → Option (Option Value × M)} (E : En G x cX11_gameValue "WreckBoard" (lv0 + 1) (some .int)) (hn : xn x = 9) (rec : Int32 → Int32 → M → Option (Int32 × M)) (hlb : 5 ≤ lv0) (hrec : ∀ (a1 : Int32) (a2 : Int32) (m : M) (z : Int32 × M), rec a1 a2 m = some z → Ct (xl x) G yX11_gameValue cX11_gameValue 9 (some .int) lv0 [.ref (G.2.1 1), .int a1, .int a2] m (some (.int z.1)) z.2) (a1 : Int32) (a2 : Int32) (a3 : Int64) (a5 : Int32) (a6 : Int32) (a7 : Int32) (m : M) (hb : ∀ z : Int32 × Int32 × M, Sm G x 42 [(0, .ref (G.2.1 1)), (1, .int a1), (2, .int a2), (3, .long a3), (5, .int z.1), (6, .int a6), (7, .int z.2.1)] [] z.2.2 (some (.inl z)) K) (hx0 : ∀ z : Int32 × M, Sm G x 112 [(5, .int z.1)] [] z.2 (some (.inr z)) K) : Sm G x 42 [(0, .ref (G.2.1 1)), (1, .int a1), (2, .int a2), (3, .long a3), (5, .int a5), (6, .int a6), (7, .int a7)] [] m (k_gameValue_42b rec a1 a2 a3 a5 a6 a7 m) K := by
  unfold k_gameValue_42b
  refine s_iload 6 E dX11_gameValue_42 rfl ?_
  refine s_aload_n 0 E dX11_gameValue_44 rfl rfl ?_
  refine s_geti (k := 6) (T := TX0) 1 E rfl rfl rfl inX0 (by decide) W237 dX11_gameValue_45 ?_
  refine s_icmp_gt 112 E dX11_gameValue_48 (by decide) ?_ ?_
  · refine s_sub (lv' := [(5, .int a5)]) [4] rfl ?_
    exact hx0 (a5, m)
  · refine s_aload_n 0 E dX11_gameValue_51 rfl rfl ?_
    refine s_iload 6 E dX11_gameValue_52 rfl ?_
    refine s_iload 5 E dX11_gameValue_54 rfl ?_
    refine s_bd (fun z1 hz => ?_)
    refine s_cV (rest := []) E (C_b_goesBy (xl x) G a7 a6 m hz) mdX0_goesBy W909 W799 W800 W92 W801 rfl rfl rfl rfl (Nat.le_of_ble_eq_true rfl) ⟨by omega, by omega⟩ dX11_gameValue_56 ?_
    refine s_aload_n 0 E dX11_gameValue_59 rfl rfl ?_
    refine s_iload_n 1 E dX11_gameValue_60 rfl rfl ?_
    refine s_iconst (v := (1 : Int32)) E dX11_gameValue_61 (by decide) ?_
    refine s_isub E dX11_gameValue_62 ?_
    refine s_iload_n 2 E dX11_gameValue_63 rfl rfl ?_
    refine s_if_ne 71 E dX11_gameValue_64 (by decide) ?_ ?_
    · refine s_iconst (v := (0 : Int32)) E dX11_gameValue_71 (by decide) ?_
      exact t_k_gameValue_72 E hn rec hlb hrec a1 a2 a3 a5 a6 a7 z1.1 (a1 - (1 : Int32)) (0 : Int32) z1.2 hb hx0
    · refine s_iconst (v := (1 : Int32)) E dX11_gameValue_67 (by decide) ?_
      refine s_goto 72 E dX11_gameValue_68 (by decide) ?_
      exact t_k_gameValue_72 E hn rec hlb hrec a1 a2 a3 a5 a6 a7 z1.1 (a1 - (1 : Int32)) (1 : Int32) z1.2 hb hx0
def k_gameValue_42 (rec : Int32 → Int32 → M → Option (Int32 × M)) (a1 : Int32) (a2 : Int32) (a3 : Int64) (a5 : Int32) (a6 : Int32) (a7 : Int32) (m : M) : Option (Int32 × M) :=
  Option.bind (iter (fun z => k_gameValue_42b rec a1 a2 a3 z.1 a6 z.2.1 z.2.2) FU (a5, a7, m)) (fun r => some (r.1, r.2))
set_option maxRecDepth 20000 in
theorem t_k_gameValue_42 {G : GG} {x : Cx} {lv0 : Nat} (E : En G x cX11_gameValue "WreckBoard" (lv0 + 1) (some .int)) (hn : xn x = 9) (rec : Int32 → Int32 → M → Option (Int32 × M)) (hlb : 5 ≤ lv0) (hrec : ∀ (a1 : Int32) (a2 : Int32) (m : M) (z : Int32 × M), rec a1 a2 m = some z → Ct (xl x) G yX11_gameValue cX11_gameValue 9 (some .int) lv0 [.ref (G.2.1 1), .int a1, .int a2] m (some (.int z.1)) z.2) (a1 : Int32) (a2 : Int32) (a3 : Int64) (a5 : Int32) (a6 : Int32) (a7 : Int32) (m : M) : Sm G x 42 [(0, .ref (G.2.1 1)), (1, .int a1), (2, .int a2), (3, .long a3), (5, .int a5), (6, .int a6), (7, .int a7)] [] m (k_gameValue_42 rec a1 a2 a3 a5 a6 a7 m) KWi := by
  unfold k_gameValue_42
  refine s_loop (fun z => [(0, .ref (G.2.1 1)), (1, .int a1), (2, .int a2), (3, .long a3), (5, .int z.1), (6, .int a6), (7, .int z.2.1)]) (fun z => z.2.2) (fun K2 hb2 hr2 z => ?_) FU (a5, a7, m)
  refine t_k_gameValue_42b (K := K2) E hn rec hlb hrec a1 a2 a3 z.1 a6 z.2.1 z.2.2 hb2 (fun r => s_out (hr2 r) ?_)
  · refine s_iload 0 E dX11_gameValue_112 rfl ?_
    exact s_iret E rfl dX11_gameValue_114
def k_gameValue_31 (rec : Int32 → Int32 → M → Option (Int32 × M)) (a1 : Int32) (a2 : Int32) (a3 : Int64) (s0 : Int32) (m : M) : Option (Int32 × M) :=
  Option.bind (b_count m) (fun v1 => k_gameValue_42 rec a1 a2 a3 s0 v1 (0 : Int32) m)
set_option maxRecDepth 20000 in
theorem t_k_gameValue_31 {G : GG} {x : Cx} {lv0 : Nat} (E : En G x cX11_gameValue "WreckBoard" (lv0 + 1) (some .int)) (hn : xn x = 9) (rec : Int32 → Int32 → M → Option (Int32 × M)) (hlb : 5 ≤ lv0) (hrec : ∀ (a1 : Int32) (a2 : Int32) (m : M) (z : Int32 × M), rec a1 a2 m = some z → Ct (xl x) G yX11_gameValue cX11_gameValue 9 (some .int) lv0 [.ref (G.2.1 1), .int a1, .int a2] m (some (.int z.1)) z.2) (a1 : Int32) (a2 : Int32) (a3 : Int64) (s0 : Int32) (m : M) : Sm G x 31 [(0, .ref (G.2.1 1)), (1, .int a1), (2, .int a2), (3, .long a3)] [.int s0] m (k_gameValue_31 rec a1 a2 a3 s0 m) KWi := by
  unfold k_gameValue_31
  refine s_istore (lv' := [(0, .ref (G.2.1 1)), (1, .int a1), (2, .int a2), (3, .long a3), (5, .int s0)]) [1, 2, 3, 4, 0] E dX11_gameValue_31 (by rw [hn]; decide) rfl ?_
  refine s_aload_n 0 E dX11_gameValue_33 rfl rfl ?_
  refine s_bd (fun v1 hz => ?_)
  refine s_cV (rest := []) E (C_b_count (xl x) G  m hz) mdX0_count W499 W500 W501 W92 W502 rfl rfl rfl rfl (Nat.le_of_ble_eq_true rfl) ⟨by omega, by omega⟩ dX11_gameValue_34 ?_
  refine s_istore (lv' := [(0, .ref (G.2.1 1)), (1, .int a1), (2, .int a2), (3, .long a3), (5, .int s0), (6, .int v1)]) [1, 2, 3, 4, 5, 0] E dX11_gameValue_37 (by rw [hn]; decide) rfl ?_
  refine s_iconst (v := (0 : Int32)) E dX11_gameValue_39 (by decide) ?_
  refine s_istore (lv' := [(0, .ref (G.2.1 1)), (1, .int a1), (2, .int a2), (3, .long a3), (5, .int s0), (6, .int v1), (7, .int (0 : Int32))]) [1, 2, 3, 4, 5, 6, 0] E dX11_gameValue_40 (by rw [hn]; decide) rfl ?_
  exact t_k_gameValue_42 E hn rec hlb hrec a1 a2 a3 s0 v1 (0 : Int32) m
def k_gameValue (rec : Int32 → Int32 → M → Option (Int32 × M)) (a1 : Int32) (a2 : Int32) (m : M) : Option (Int32 × M) :=
  (if a1 ≤ 0 then some ((0 : Int32), m) else Option.bind (b_isOver m) (fun v1 => (if v1 = 0 then Option.bind (b_moment m) (fun v2 => (if a2 = 0 then k_gameValue_31 rec a1 a2 v2 (2147483647 : Int32) m else k_gameValue_31 rec a1 a2 v2 (-2147483648 : Int32) m)) else some ((0 : Int32), m))))
set_option maxRecDepth 20000 in
theorem t_k_gameValue {G : GG} {x : Cx} {lv0 : Nat} (E : En G x cX11_gameValue "WreckBoard" (lv0 + 1) (some .int)) (hn : xn x = 9) (rec : Int32 → Int32 → M → Option (Int32 × M)) (hlb : 5 ≤ lv0) (hrec : ∀ (a1 : Int32) (a2 : Int32) (m : M) (z : Int32 × M), rec a1 a2 m = some z → Ct (xl x) G yX11_gameValue cX11_gameValue 9 (some .int) lv0 [.ref (G.2.1 1), .int a1, .int a2] m (some (.int z.1)) z.2) (a1 : Int32) (a2 : Int32) (m : M) : Sm G x 0 [(0, .ref (G.2.1 1)), (1, .int a1), (2, .int a2)] [] m (k_gameValue rec a1 a2 m) KWi := by
  unfold k_gameValue
  refine s_iload_n 1 E dX11_gameValue_0 rfl rfl ?_
  refine s_if_le 11 E dX11_gameValue_1 (by decide) ?_ ?_
  · refine s_iconst (v := (0 : Int32)) E dX11_gameValue_11 (by decide) ?_
    exact s_iret E rfl dX11_gameValue_12
  · refine s_aload_n 0 E dX11_gameValue_4 rfl rfl ?_
    refine s_bd (fun v1 hz => ?_)
    refine s_cV (rest := []) E (C_b_isOver (xl x) G  m hz) mdX0_isOver W578 W579 W580 W92 W581 rfl rfl rfl rfl (Nat.le_of_ble_eq_true rfl) ⟨by omega, by omega⟩ dX11_gameValue_5 ?_
    refine s_if_eq 13 E dX11_gameValue_8 (by decide) ?_ ?_
    · refine s_aload_n 0 E dX11_gameValue_13 rfl rfl ?_
      refine s_bd (fun v2 hz => ?_)
      refine s_cV (rest := []) E (C_b_moment (xl x) G  m hz) mdX0_moment W822 W823 W824 W92 W825 rfl rfl rfl rfl (Nat.le_of_ble_eq_true rfl) ⟨by omega, by omega⟩ dX11_gameValue_14 ?_
      refine s_lstore_n (lv' := [(0, .ref (G.2.1 1)), (1, .int a1), (2, .int a2), (3, .long v2)]) [1, 2, 3, 0] E dX11_gameValue_17 rfl (by rw [hn]; decide) rfl ?_
      refine s_iload_n 2 E dX11_gameValue_18 rfl rfl ?_
      refine s_if_eq 28 E dX11_gameValue_19 (by decide) ?_ ?_
      · refine s_ldcw (v := (2147483647 : Int32)) E dX11_gameValue_28 W958 ?_
        exact t_k_gameValue_31 E hn rec hlb hrec a1 a2 v2 (2147483647 : Int32) m
      · refine s_ldcw (v := (-2147483648 : Int32)) E dX11_gameValue_22 W957 ?_
        refine s_goto 31 E dX11_gameValue_25 (by decide) ?_
        exact t_k_gameValue_31 E hn rec hlb hrec a1 a2 v2 (-2147483648 : Int32) m
    · refine s_iconst (v := (0 : Int32)) E dX11_gameValue_11 (by decide) ?_
      exact s_iret E rfl dX11_gameValue_12
set_option maxRecDepth 20000 in
theorem C_k_gameValue (l : Launch) (G : GG) (rec : Int32 → Int32 → M → Option (Int32 × M)) {lv0 : Nat} (hlb : 5 ≤ lv0) (hrec : ∀ (a1 : Int32) (a2 : Int32) (m : M) (z : Int32 × M), rec a1 a2 m = some z → Ct l G yX11_gameValue cX11_gameValue 9 (some .int) lv0 [.ref (G.2.1 1), .int a1, .int a2] m (some (.int z.1)) z.2) (a1 : Int32) (a2 : Int32) (m : M) {z : Int32 × M} (hz : k_gameValue rec a1 a2 m = some z) : Ct l G yX11_gameValue cX11_gameValue 9 (some .int) (lv0 + 1) [.ref (G.2.1 1), .int a1, .int a2] m (some (.int z.1)) z.2 :=
  ct_of (K := KWi) (by decide) (Nat.le_of_ble_eq_true rfl) (congrArg (fun q => Option.bind q _) hz) (fun x hl hn E => (t_k_gameValue E hn rec hlb (by rw [hl]; exact hrec) a1 a2 m))
def k_gameValue_d : Nat → Int32 → Int32 → M → Option (Int32 × M)
  | 0 => fun _ _ _ => none
  | d + 1 => fun a1 a2 m => k_gameValue (k_gameValue_d d) a1 a2 m
theorem C_k_gameValue_d (l : Launch) (G : GG) : ∀ (d : Nat) (a1 : Int32) (a2 : Int32) (m : M) {z : Int32 × M}, k_gameValue_d d a1 a2 m = some z → Ct l G yX11_gameValue cX11_gameValue 9 (some .int) (5 + 1 * d) [.ref (G.2.1 1), .int a1, .int a2] m (some (.int z.1)) z.2 := by
  intro d
  induction d with
  | zero => intro a1 a2 m z hz; cases hz
  | succ d ih =>
    intro a1 a2 m z hz
    exact C_k_gameValue l G (k_gameValue_d d) (lv0 := 5 + 1 * d) (by omega) (fun a1 a2 m z h => ih a1 a2 m h) a1 a2 m hz
theorem dX11_game_0 : decode cX11_game 0 = .ok (.iload_n 1, 1) := by decide +kernel
theorem dX11_game_1 : decode cX11_game 1 = .ok (.iconst 1, 1) := by decide +kernel
theorem dX11_game_2 : decode cX11_game 2 = .ok (.iconst 4, 1) := by decide +kernel
theorem dX11_game_3 : decode cX11_game 3 = .ok (.invokestatic 61, 3) := by decide +kernel
theorem dX11_game_6 : decode cX11_game 6 = .ok (.ifCond .eq 15, 3) := by decide +kernel
theorem dX11_game_9 : decode cX11_game 9 = .ok (.aload_n 0, 1) := by decide +kernel
theorem dX11_game_10 : decode cX11_game 10 = .ok (.getfield 12, 3) := by decide +kernel
theorem dX11_game_13 : decode cX11_game 13 = .ok (.iload_n 1, 1) := by decide +kernel
theorem dX11_game_14 : decode cX11_game 14 = .ok (.iconst 1, 1) := by decide +kernel
theorem dX11_game_15 : decode cX11_game 15 = .ok (.invokestatic 266, 3) := by decide +kernel
theorem dX11_game_18 : decode cX11_game 18 = .ok (.goto 4, 3) := by decide +kernel
theorem dX11_game_21 : decode cX11_game 21 = .ok (.iconst (-1), 1) := by decide +kernel
theorem dX11_game_22 : decode cX11_game 22 = .ok (.ireturn, 1) := by decide +kernel
def k_game (a1 : Int32) (m : M) : Option (Int32 × M) :=
  Option.bind (k_within a1 (1 : Int32) (4 : Int32) m) (fun v1 => (if v1 = 0 then some ((-1 : Int32), m) else Option.bind (k_gameValue_d 8 a1 (1 : Int32) m) (fun z2 => some (z2.1, z2.2))))
set_option maxRecDepth 20000 in
theorem t_k_game {G : GG} {x : Cx} (E : En G x cX11_game "WreckBoard" 14 (some .int)) (hn : xn x = 2) (a1 : Int32) (m : M) : Sm G x 0 [(0, .ref (G.2.1 0)), (1, .int a1)] [] m (k_game a1 m) KWi := by
  unfold k_game
  refine s_iload_n 1 E dX11_game_0 rfl rfl ?_
  refine s_iconst (v := (1 : Int32)) E dX11_game_1 (by decide) ?_
  refine s_iconst (v := (4 : Int32)) E dX11_game_2 (by decide) ?_
  refine s_bd (fun v1 hz => ?_)
  refine s_cS (rest := []) E (C_k_within (xl x) G a1 (1 : Int32) (4 : Int32) m hz) mdX11_within W404 W405 W91 W406 rfl rfl (Nat.le_of_ble_eq_true rfl) ⟨by decide, by decide⟩ dX11_game_3 ?_
  refine s_if_eq 21 E dX11_game_6 (by decide) ?_ ?_
  · refine s_iconst (v := (-1 : Int32)) E dX11_game_21 (by decide) ?_
    exact s_iret E rfl dX11_game_22
  · refine s_aload_n 0 E dX11_game_9 rfl rfl ?_
    refine s_getr (k := 0) (T := TX11) 0 E rfl rfl rfl inX11 (by decide) W360 dX11_game_10 ?_
    refine s_iload_n 1 E dX11_game_13 rfl rfl ?_
    refine s_iconst (v := (1 : Int32)) E dX11_game_14 (by decide) ?_
    refine s_bd (fun z2 hz => ?_)
    refine s_cS (rest := []) E (C_k_gameValue_d (xl x) G 8 a1 (1 : Int32) m hz) mdX11_gameValue W954 W955 W91 W956 rfl rfl (Nat.le_of_ble_eq_true rfl) ⟨by decide, by decide⟩ dX11_game_15 ?_
    refine s_goto 22 E dX11_game_18 (by decide) ?_
    exact s_iret E rfl dX11_game_22
set_option maxRecDepth 20000 in
theorem C_k_game (l : Launch) (G : GG) (a1 : Int32) (m : M) {z : Int32 × M} (hz : k_game a1 m = some z) : Ct l G yX11_game cX11_game 2 (some .int) 14 [.ref (G.2.1 0), .int a1] m (some (.int z.1)) z.2 :=
  ct_of (K := KWi) (by decide) (Nat.le_of_ble_eq_true rfl) (congrArg (fun q => Option.bind q _) hz) (fun x hl hn E => (t_k_game E hn a1 m))
theorem dX11_play_0 : decode cX11_play 0 = .ok (.iload_n 1, 1) := by decide +kernel
theorem dX11_play_1 : decode cX11_play 1 = .ok (.iconst 1, 1) := by decide +kernel
theorem dX11_play_2 : decode cX11_play 2 = .ok (.iconst 4, 1) := by decide +kernel
theorem dX11_play_3 : decode cX11_play 3 = .ok (.invokestatic 61, 3) := by decide +kernel
theorem dX11_play_6 : decode cX11_play 6 = .ok (.ifCond .ne 5, 3) := by decide +kernel
theorem dX11_play_9 : decode cX11_play 9 = .ok (.iconst (-1), 1) := by decide +kernel
theorem dX11_play_10 : decode cX11_play 10 = .ok (.ireturn, 1) := by decide +kernel
theorem dX11_play_11 : decode cX11_play 11 = .ok (.aload_n 0, 1) := by decide +kernel
theorem dX11_play_12 : decode cX11_play 12 = .ok (.getfield 12, 3) := by decide +kernel
theorem dX11_play_15 : decode cX11_play 15 = .ok (.invokevirtual 148, 3) := by decide +kernel
theorem dX11_play_18 : decode cX11_play 18 = .ok (.ifCond .eq 6, 3) := by decide +kernel
theorem dX11_play_21 : decode cX11_play 21 = .ok (.bipush (-3), 2) := by decide +kernel
theorem dX11_play_23 : decode cX11_play 23 = .ok (.ireturn, 1) := by decide +kernel
theorem dX11_play_24 : decode cX11_play 24 = .ok (.aload_n 0, 1) := by decide +kernel
theorem dX11_play_25 : decode cX11_play 25 = .ok (.getfield 12, 3) := by decide +kernel
theorem dX11_play_28 : decode cX11_play 28 = .ok (.invokevirtual 178, 3) := by decide +kernel
theorem dX11_play_31 : decode cX11_play 31 = .ok (.lstore_n 2, 1) := by decide +kernel
theorem dX11_play_32 : decode cX11_play 32 = .ok (.iconst (-1), 1) := by decide +kernel
theorem dX11_play_33 : decode cX11_play 33 = .ok (.istore 4, 2) := by decide +kernel
theorem dX11_play_35 : decode cX11_play 35 = .ok (.bipush (-3), 2) := by decide +kernel
theorem dX11_play_37 : decode cX11_play 37 = .ok (.istore 5, 2) := by decide +kernel
theorem dX11_play_39 : decode cX11_play 39 = .ok (.aload_n 0, 1) := by decide +kernel
theorem dX11_play_40 : decode cX11_play 40 = .ok (.getfield 12, 3) := by decide +kernel
theorem dX11_play_43 : decode cX11_play 43 = .ok (.invokevirtual 102, 3) := by decide +kernel
theorem dX11_play_46 : decode cX11_play 46 = .ok (.istore 6, 2) := by decide +kernel
theorem dX11_play_48 : decode cX11_play 48 = .ok (.iconst 0, 1) := by decide +kernel
theorem dX11_play_49 : decode cX11_play 49 = .ok (.istore 7, 2) := by decide +kernel
theorem dX11_play_51 : decode cX11_play 51 = .ok (.iload 7, 2) := by decide +kernel
theorem dX11_play_53 : decode cX11_play 53 = .ok (.aload_n 0, 1) := by decide +kernel
theorem dX11_play_54 : decode cX11_play 54 = .ok (.getfield 12, 3) := by decide +kernel
theorem dX11_play_57 : decode cX11_play 57 = .ok (.getfield 65, 3) := by decide +kernel
theorem dX11_play_60 : decode cX11_play 60 = .ok (.if_icmp .gt 57, 3) := by decide +kernel
theorem dX11_play_63 : decode cX11_play 63 = .ok (.aload_n 0, 1) := by decide +kernel
theorem dX11_play_64 : decode cX11_play 64 = .ok (.getfield 12, 3) := by decide +kernel
theorem dX11_play_67 : decode cX11_play 67 = .ok (.iload 7, 2) := by decide +kernel
theorem dX11_play_69 : decode cX11_play 69 = .ok (.iload 6, 2) := by decide +kernel
theorem dX11_play_71 : decode cX11_play 71 = .ok (.invokevirtual 254, 3) := by decide +kernel
theorem dX11_play_74 : decode cX11_play 74 = .ok (.aload_n 0, 1) := by decide +kernel
theorem dX11_play_75 : decode cX11_play 75 = .ok (.getfield 12, 3) := by decide +kernel
theorem dX11_play_78 : decode cX11_play 78 = .ok (.iload_n 1, 1) := by decide +kernel
theorem dX11_play_79 : decode cX11_play 79 = .ok (.iconst 1, 1) := by decide +kernel
theorem dX11_play_80 : decode cX11_play 80 = .ok (.isub, 1) := by decide +kernel
theorem dX11_play_81 : decode cX11_play 81 = .ok (.iconst 0, 1) := by decide +kernel
theorem dX11_play_82 : decode cX11_play 82 = .ok (.invokestatic 266, 3) := by decide +kernel
theorem dX11_play_85 : decode cX11_play 85 = .ok (.iadd, 1) := by decide +kernel
theorem dX11_play_86 : decode cX11_play 86 = .ok (.istore 8, 2) := by decide +kernel
theorem dX11_play_88 : decode cX11_play 88 = .ok (.aload_n 0, 1) := by decide +kernel
theorem dX11_play_89 : decode cX11_play 89 = .ok (.getfield 12, 3) := by decide +kernel
theorem dX11_play_92 : decode cX11_play 92 = .ok (.lload_n 2, 1) := by decide +kernel
theorem dX11_play_93 : decode cX11_play 93 = .ok (.invokevirtual 185, 3) := by decide +kernel
theorem dX11_play_96 : decode cX11_play 96 = .ok (.iload 8, 2) := by decide +kernel
theorem dX11_play_98 : decode cX11_play 98 = .ok (.iload 4, 2) := by decide +kernel
theorem dX11_play_100 : decode cX11_play 100 = .ok (.if_icmp .le 11, 3) := by decide +kernel
theorem dX11_play_103 : decode cX11_play 103 = .ok (.iload 8, 2) := by decide +kernel
theorem dX11_play_105 : decode cX11_play 105 = .ok (.istore 4, 2) := by decide +kernel
theorem dX11_play_107 : decode cX11_play 107 = .ok (.iload 7, 2) := by decide +kernel
theorem dX11_play_109 : decode cX11_play 109 = .ok (.istore 5, 2) := by decide +kernel
theorem dX11_play_111 : decode cX11_play 111 = .ok (.iinc 7 1, 3) := by decide +kernel
theorem dX11_play_114 : decode cX11_play 114 = .ok (.goto (-63), 3) := by decide +kernel
theorem dX11_play_117 : decode cX11_play 117 = .ok (.iload 5, 2) := by decide +kernel
theorem dX11_play_119 : decode cX11_play 119 = .ok (.ireturn, 1) := by decide +kernel
def k_play_111 (a1 : Int32) (a2 : Int64) (a4 : Int32) (a5 : Int32) (a6 : Int32) (a7 : Int32) (m : M) : Option ((Int32 × Int32 × Int32 × M) ⊕ ((Int32 × M))) :=
  lt (a7 + (1 : Int32)) (fun w1 : Int32 => some (.inl (a4, a5, w1, m)))
set_option maxRecDepth 20000 in
theorem t_k_play_111 {G : GG} {x : Cx} {K : ((Int32 × Int32 × Int32 × M) ⊕ ((Int32 × M))) → Option (Option Value × M)} (E : En G x cX11_play "WreckBoard" 14 (some .int)) (hn : xn x = 9) (a1 : Int32) (a2 : Int64) (a4 : Int32) (a5 : Int32) (a6 : Int32) (a7 : Int32) (m : M) (hb : ∀ z : Int32 × Int32 × Int32 × M, Sm G x 51 [(0, .ref (G.2.1 0)), (1, .int a1), (2, .long a2), (4, .int z.1), (5, .int z.2.1), (6, .int a6), (7, .int z.2.2.1)] [] z.2.2.2 (some (.inl z)) K) (hx0 : ∀ z : Int32 × M, Sm G x 117 [(5, .int z.1)] [] z.2 (some (.inr z)) K) : Sm G x 111 [(0, .ref (G.2.1 0)), (1, .int a1), (2, .long a2), (4, .int a4), (5, .int a5), (6, .int a6), (7, .int a7)] [] m (k_play_111 a1 a2 a4 a5 a6 a7 m) K := by
  unfold k_play_111
  refine s_iincL (v := (1 : Int32)) 6 [1, 2, 3, 4, 5, 6, 0] (fun w1 => [(0, .ref (G.2.1 0)), (1, .int a1), (2, .long a2), (4, .int a4), (5, .int a5), (6, .int a6), (7, .int w1)]) E dX11_play_111 rfl (by decide) (by rw [hn]; decide) (fun _ => rfl) (fun w1 => ?_)
  refine s_goto 51 E dX11_play_114 (by decide) ?_
  exact hb (a4, a5, w1, m)
def k_play_51b (a1 : Int32) (a2 : Int64) (a4 : Int32) (a5 : Int32) (a6 : Int32) (a7 : Int32) (m : M) : Option ((Int32 × Int32 × Int32 × M) ⊕ ((Int32 × M))) :=
  (if (m 1 6) < a7 then some (.inr (a5, m)) else Option.bind (b_goesBy a7 a6 m) (fun z1 => Option.bind (k_gameValue_d 8 (a1 - (1 : Int32)) (0 : Int32) z1.2) (fun z2 => lt (z1.1 + z2.1) (fun w3 : Int32 => Option.bind (b_goBackTo a2 z2.2) (fun m4 => (if w3 ≤ a4 then k_play_111 a1 a2 a4 a5 a6 a7 m4 else k_play_111 a1 a2 w3 a7 a6 a7 m4))))))
set_option maxRecDepth 20000 in
theorem t_k_play_51b {G : GG} {x : Cx} {K : ((Int32 × Int32 × Int32 × M) ⊕ ((Int32 × M))) → Option (Option Value × M)} (E : En G x cX11_play "WreckBoard" 14 (some .int)) (hn : xn x = 9) (a1 : Int32) (a2 : Int64) (a4 : Int32) (a5 : Int32) (a6 : Int32) (a7 : Int32) (m : M) (hb : ∀ z : Int32 × Int32 × Int32 × M, Sm G x 51 [(0, .ref (G.2.1 0)), (1, .int a1), (2, .long a2), (4, .int z.1), (5, .int z.2.1), (6, .int a6), (7, .int z.2.2.1)] [] z.2.2.2 (some (.inl z)) K) (hx0 : ∀ z : Int32 × M, Sm G x 117 [(5, .int z.1)] [] z.2 (some (.inr z)) K) : Sm G x 51 [(0, .ref (G.2.1 0)), (1, .int a1), (2, .long a2), (4, .int a4), (5, .int a5), (6, .int a6), (7, .int a7)] [] m (k_play_51b a1 a2 a4 a5 a6 a7 m) K := by
  unfold k_play_51b
  refine s_iload 6 E dX11_play_51 rfl ?_
  refine s_aload_n 0 E dX11_play_53 rfl rfl ?_
  refine s_getr (k := 0) (T := TX11) 0 E rfl rfl rfl inX11 (by decide) W360 dX11_play_54 ?_
  refine s_geti (k := 6) (T := TX0) 1 E rfl rfl rfl inX0 (by decide) W237 dX11_play_57 ?_
  refine s_icmp_gt 117 E dX11_play_60 (by decide) ?_ ?_
  · refine s_sub (lv' := [(5, .int a5)]) [4] rfl ?_
    exact hx0 (a5, m)
  · refine s_aload_n 0 E dX11_play_63 rfl rfl ?_
    refine s_getr (k := 0) (T := TX11) 0 E rfl rfl rfl inX11 (by decide) W360 dX11_play_64 ?_
    refine s_iload 6 E dX11_play_67 rfl ?_
    refine s_iload 5 E dX11_play_69 rfl ?_
    refine s_bd (fun z1 hz => ?_)
    refine s_cV (rest := []) E (C_b_goesBy (xl x) G a7 a6 m hz) mdX0_goesBy W909 W799 W800 W92 W801 rfl rfl rfl rfl (Nat.le_of_ble_eq_true rfl) ⟨by decide, by decide⟩ dX11_play_71 ?_
    refine s_aload_n 0 E dX11_play_74 rfl rfl ?_
    refine s_getr (k := 0) (T := TX11) 0 E rfl rfl rfl inX11 (by decide) W360 dX11_play_75 ?_
    refine s_iload_n 1 E dX11_play_78 rfl rfl ?_
    refine s_iconst (v := (1 : Int32)) E dX11_play_79 (by decide) ?_
    refine s_isub E dX11_play_80 ?_
    refine s_iconst (v := (0 : Int32)) E dX11_play_81 (by decide) ?_
    refine s_bd (fun z2 hz => ?_)
    refine s_cS (rest := [.int z1.1]) E (C_k_gameValue_d (xl x) G 8 (a1 - (1 : Int32)) (0 : Int32) z1.2 hz) mdX11_gameValue W954 W955 W91 W956 rfl rfl (Nat.le_of_ble_eq_true rfl) ⟨by decide, by decide⟩ dX11_play_82 ?_
    refine s_iadd E dX11_play_85 ?_
    refine s_lt (fun w3 => [(0, .ref (G.2.1 0)), (1, .int a1), (2, .long a2), (4, .int a4), (5, .int a5), (6, .int a6), (7, .int a7)]) (fun w3 => [.int w3]) rfl rfl (fun w3 => ?_)
    refine s_istore (lv' := [(0, .ref (G.2.1 0)), (1, .int a1), (2, .long a2), (4, .int a4), (5, .int a5), (6, .int a6), (7, .int a7), (8, .int w3)]) [1, 2, 3, 4, 5, 6, 7, 0] E dX11_play_86 (by rw [hn]; decide) rfl ?_
    refine s_aload_n 0 E dX11_play_88 rfl rfl ?_
    refine s_getr (k := 0) (T := TX11) 0 E rfl rfl rfl inX11 (by decide) W360 dX11_play_89 ?_
    refine s_lload_n 2 E dX11_play_92 rfl rfl ?_
    refine s_bd (fun m4 hz => ?_)
    refine s_cV (rest := []) E (C_b_goBackTo (xl x) G a2 z2.2 hz) mdX0_goBackTo W835 W836 W837 W92 W838 rfl rfl rfl rfl (Nat.le_of_ble_eq_true rfl) ⟨by decide, by decide⟩ dX11_play_93 ?_
    refine s_iload 7 E dX11_play_96 rfl ?_
    refine s_iload 3 E dX11_play_98 rfl ?_
    refine s_icmp_le 111 E dX11_play_100 (by decide) ?_ ?_
    · refine s_sub (lv' := [(0, .ref (G.2.1 0)), (1, .int a1), (2, .long a2), (4, .int a4), (5, .int a5), (6, .int a6), (7, .int a7)]) [0, 1, 2, 3, 4, 5, 6] rfl ?_
      exact t_k_play_111 E hn a1 a2 a4 a5 a6 a7 m4 hb hx0
    · refine s_iload 7 E dX11_play_103 rfl ?_
      refine s_istore (lv' := [(0, .ref (G.2.1 0)), (1, .int a1), (2, .long a2), (4, .int w3), (6, .int a6), (7, .int a7)]) [1, 2, 3, 0, 5, 6] E dX11_play_105 (by rw [hn]; decide) rfl ?_
      refine s_iload 5 E dX11_play_107 rfl ?_
      refine s_istore (lv' := [(0, .ref (G.2.1 0)), (1, .int a1), (2, .long a2), (4, .int w3), (5, .int a7), (6, .int a6), (7, .int a7)]) [1, 2, 3, 4, 0, 5, 6] E dX11_play_109 (by rw [hn]; decide) rfl ?_
      exact t_k_play_111 E hn a1 a2 w3 a7 a6 a7 m4 hb hx0
def k_play_51 (a1 : Int32) (a2 : Int64) (a4 : Int32) (a5 : Int32) (a6 : Int32) (a7 : Int32) (m : M) : Option (Int32 × M) :=
  Option.bind (iter (fun z => k_play_51b a1 a2 z.1 z.2.1 a6 z.2.2.1 z.2.2.2) FU (a4, a5, a7, m)) (fun r => some (r.1, r.2))
set_option maxRecDepth 20000 in
theorem t_k_play_51 {G : GG} {x : Cx} (E : En G x cX11_play "WreckBoard" 14 (some .int)) (hn : xn x = 9) (a1 : Int32) (a2 : Int64) (a4 : Int32) (a5 : Int32) (a6 : Int32) (a7 : Int32) (m : M) : Sm G x 51 [(0, .ref (G.2.1 0)), (1, .int a1), (2, .long a2), (4, .int a4), (5, .int a5), (6, .int a6), (7, .int a7)] [] m (k_play_51 a1 a2 a4 a5 a6 a7 m) KWi := by
  unfold k_play_51
  refine s_loop (fun z => [(0, .ref (G.2.1 0)), (1, .int a1), (2, .long a2), (4, .int z.1), (5, .int z.2.1), (6, .int a6), (7, .int z.2.2.1)]) (fun z => z.2.2.2) (fun K2 hb2 hr2 z => ?_) FU (a4, a5, a7, m)
  refine t_k_play_51b (K := K2) E hn a1 a2 z.1 z.2.1 a6 z.2.2.1 z.2.2.2 hb2 (fun r => s_out (hr2 r) ?_)
  · refine s_iload 0 E dX11_play_117 rfl ?_
    exact s_iret E rfl dX11_play_119
def k_play (a1 : Int32) (m : M) : Option (Int32 × M) :=
  Option.bind (k_within a1 (1 : Int32) (4 : Int32) m) (fun v1 => (if v1 = 0 then some ((-1 : Int32), m) else Option.bind (b_isOver m) (fun v2 => (if v2 = 0 then Option.bind (b_moment m) (fun v3 => Option.bind (b_count m) (fun v4 => k_play_51 a1 v3 (-1 : Int32) (-3 : Int32) v4 (0 : Int32) m)) else some ((-3 : Int32), m)))))
set_option maxRecDepth 20000 in
theorem t_k_play {G : GG} {x : Cx} (E : En G x cX11_play "WreckBoard" 14 (some .int)) (hn : xn x = 9) (a1 : Int32) (m : M) : Sm G x 0 [(0, .ref (G.2.1 0)), (1, .int a1)] [] m (k_play a1 m) KWi := by
  unfold k_play
  refine s_iload_n 1 E dX11_play_0 rfl rfl ?_
  refine s_iconst (v := (1 : Int32)) E dX11_play_1 (by decide) ?_
  refine s_iconst (v := (4 : Int32)) E dX11_play_2 (by decide) ?_
  refine s_bd (fun v1 hz => ?_)
  refine s_cS (rest := []) E (C_k_within (xl x) G a1 (1 : Int32) (4 : Int32) m hz) mdX11_within W404 W405 W91 W406 rfl rfl (Nat.le_of_ble_eq_true rfl) ⟨by decide, by decide⟩ dX11_play_3 ?_
  refine s_if_ne 11 E dX11_play_6 (by decide) ?_ ?_
  · refine s_aload_n 0 E dX11_play_11 rfl rfl ?_
    refine s_getr (k := 0) (T := TX11) 0 E rfl rfl rfl inX11 (by decide) W360 dX11_play_12 ?_
    refine s_bd (fun v2 hz => ?_)
    refine s_cV (rest := []) E (C_b_isOver (xl x) G  m hz) mdX0_isOver W578 W579 W580 W92 W581 rfl rfl rfl rfl (Nat.le_of_ble_eq_true rfl) ⟨by decide, by decide⟩ dX11_play_15 ?_
    refine s_if_eq 24 E dX11_play_18 (by decide) ?_ ?_
    · refine s_aload_n 0 E dX11_play_24 rfl rfl ?_
      refine s_getr (k := 0) (T := TX11) 0 E rfl rfl rfl inX11 (by decide) W360 dX11_play_25 ?_
      refine s_bd (fun v3 hz => ?_)
      refine s_cV (rest := []) E (C_b_moment (xl x) G  m hz) mdX0_moment W822 W823 W824 W92 W825 rfl rfl rfl rfl (Nat.le_of_ble_eq_true rfl) ⟨by decide, by decide⟩ dX11_play_28 ?_
      refine s_lstore_n (lv' := [(0, .ref (G.2.1 0)), (1, .int a1), (2, .long v3)]) [1, 2, 0] E dX11_play_31 rfl (by rw [hn]; decide) rfl ?_
      refine s_iconst (v := (-1 : Int32)) E dX11_play_32 (by decide) ?_
      refine s_istore (lv' := [(0, .ref (G.2.1 0)), (1, .int a1), (2, .long v3), (4, .int (-1 : Int32))]) [1, 2, 3, 0] E dX11_play_33 (by rw [hn]; decide) rfl ?_
      refine s_bipush (v := (-3 : Int32)) E dX11_play_35 (by decide) ?_
      refine s_istore (lv' := [(0, .ref (G.2.1 0)), (1, .int a1), (2, .long v3), (4, .int (-1 : Int32)), (5, .int (-3 : Int32))]) [1, 2, 3, 4, 0] E dX11_play_37 (by rw [hn]; decide) rfl ?_
      refine s_aload_n 0 E dX11_play_39 rfl rfl ?_
      refine s_getr (k := 0) (T := TX11) 0 E rfl rfl rfl inX11 (by decide) W360 dX11_play_40 ?_
      refine s_bd (fun v4 hz => ?_)
      refine s_cV (rest := []) E (C_b_count (xl x) G  m hz) mdX0_count W499 W500 W501 W92 W502 rfl rfl rfl rfl (Nat.le_of_ble_eq_true rfl) ⟨by decide, by decide⟩ dX11_play_43 ?_
      refine s_istore (lv' := [(0, .ref (G.2.1 0)), (1, .int a1), (2, .long v3), (4, .int (-1 : Int32)), (5, .int (-3 : Int32)), (6, .int v4)]) [1, 2, 3, 4, 5, 0] E dX11_play_46 (by rw [hn]; decide) rfl ?_
      refine s_iconst (v := (0 : Int32)) E dX11_play_48 (by decide) ?_
      refine s_istore (lv' := [(0, .ref (G.2.1 0)), (1, .int a1), (2, .long v3), (4, .int (-1 : Int32)), (5, .int (-3 : Int32)), (6, .int v4), (7, .int (0 : Int32))]) [1, 2, 3, 4, 5, 6, 0] E dX11_play_49 (by rw [hn]; decide) rfl ?_
      exact t_k_play_51 E hn a1 v3 (-1 : Int32) (-3 : Int32) v4 (0 : Int32) m
    · refine s_bipush (v := (-3 : Int32)) E dX11_play_21 (by decide) ?_
      exact s_iret E rfl dX11_play_23
  · refine s_iconst (v := (-1 : Int32)) E dX11_play_9 (by decide) ?_
    exact s_iret E rfl dX11_play_10
set_option maxRecDepth 20000 in
theorem C_k_play (l : Launch) (G : GG) (a1 : Int32) (m : M) {z : Int32 × M} (hz : k_play a1 m = some z) : Ct l G yX11_play cX11_play 9 (some .int) 14 [.ref (G.2.1 0), .int a1] m (some (.int z.1)) z.2 :=
  ct_of (K := KWi) (by decide) (Nat.le_of_ble_eq_true rfl) (congrArg (fun q => Option.bind q _) hz) (fun x hl hn E => (t_k_play E hn a1 m))
theorem dX6_add_0 : decode cX6_add 0 = .ok (.aload_n 0, 1) := by decide +kernel
theorem dX6_add_1 : decode cX6_add 1 = .ok (.getfield 24, 3) := by decide +kernel
theorem dX6_add_4 : decode cX6_add 4 = .ok (.istore 5, 2) := by decide +kernel
theorem dX6_add_6 : decode cX6_add 6 = .ok (.aload_n 0, 1) := by decide +kernel
theorem dX6_add_7 : decode cX6_add 7 = .ok (.getfield 9, 3) := by decide +kernel
theorem dX6_add_10 : decode cX6_add 10 = .ok (.iload 5, 2) := by decide +kernel
theorem dX6_add_12 : decode cX6_add 12 = .ok (.iload_n 1, 1) := by decide +kernel
theorem dX6_add_13 : decode cX6_add 13 = .ok (.iastore, 1) := by decide +kernel
theorem dX6_add_14 : decode cX6_add 14 = .ok (.aload_n 0, 1) := by decide +kernel
theorem dX6_add_15 : decode cX6_add 15 = .ok (.getfield 15, 3) := by decide +kernel
theorem dX6_add_18 : decode cX6_add 18 = .ok (.iload 5, 2) := by decide +kernel
theorem dX6_add_20 : decode cX6_add 20 = .ok (.iload_n 2, 1) := by decide +kernel
theorem dX6_add_21 : decode cX6_add 21 = .ok (.iastore, 1) := by decide +kernel
theorem dX6_add_22 : decode cX6_add 22 = .ok (.aload_n 0, 1) := by decide +kernel
theorem dX6_add_23 : decode cX6_add 23 = .ok (.getfield 18, 3) := by decide +kernel
theorem dX6_add_26 : decode cX6_add 26 = .ok (.iload 5, 2) := by decide +kernel
theorem dX6_add_28 : decode cX6_add 28 = .ok (.iload_n 3, 1) := by decide +kernel
theorem dX6_add_29 : decode cX6_add 29 = .ok (.iastore, 1) := by decide +kernel
theorem dX6_add_30 : decode cX6_add 30 = .ok (.aload_n 0, 1) := by decide +kernel
theorem dX6_add_31 : decode cX6_add 31 = .ok (.getfield 21, 3) := by decide +kernel
theorem dX6_add_34 : decode cX6_add 34 = .ok (.iload 5, 2) := by decide +kernel
theorem dX6_add_36 : decode cX6_add 36 = .ok (.iload 4, 2) := by decide +kernel
theorem dX6_add_38 : decode cX6_add 38 = .ok (.iastore, 1) := by decide +kernel
theorem dX6_add_39 : decode cX6_add 39 = .ok (.aload_n 0, 1) := by decide +kernel
theorem dX6_add_40 : decode cX6_add 40 = .ok (.dup, 1) := by decide +kernel
theorem dX6_add_41 : decode cX6_add 41 = .ok (.getfield 24, 3) := by decide +kernel
theorem dX6_add_44 : decode cX6_add 44 = .ok (.iconst 1, 1) := by decide +kernel
theorem dX6_add_45 : decode cX6_add 45 = .ok (.iadd, 1) := by decide +kernel
theorem dX6_add_46 : decode cX6_add 46 = .ok (.putfield 24, 3) := by decide +kernel
theorem dX6_add_49 : decode cX6_add 49 = .ok (.iload 5, 2) := by decide +kernel
theorem dX6_add_51 : decode cX6_add 51 = .ok (.ireturn, 1) := by decide +kernel
def p_add (a1 : Int32) (a2 : Int32) (a3 : Int32) (a4 : Int32) (m : M) : Option (Int32 × M) :=
  lt (m 4 0) (fun w1 : Int32 => Option.bind (wrI m 30 w1 a1) (fun m2 => Option.bind (wrI m2 31 w1 a2) (fun m3 => Option.bind (wrI m3 32 w1 a3) (fun m4 => Option.bind (wrI m4 33 w1 a4) (fun m5 => lt (wrF m5 4 0 ((m5 4 0) + (1 : Int32))) (fun m6 => some (w1, m6)))))))
set_option maxRecDepth 20000 in
theorem t_p_add {G : GG} {x : Cx} (E : En G x cX6_add "WreckBoard$Reports" 1 (some .int)) (hn : xn x = 6) (a1 : Int32) (a2 : Int32) (a3 : Int32) (a4 : Int32) (m : M) : Sm G x 0 [(0, .ref (G.2.1 4)), (1, .int a1), (2, .int a2), (3, .int a3), (4, .int a4)] [] m (p_add a1 a2 a3 a4 m) KWi := by
  unfold p_add
  refine s_aload_n 0 E dX6_add_0 rfl rfl ?_
  refine s_geti (k := 0) (T := TX6) 4 E rfl rfl rfl inX6 (by decide) W162 dX6_add_1 ?_
  refine s_lt (fun w1 => [(0, .ref (G.2.1 4)), (1, .int a1), (2, .int a2), (3, .int a3), (4, .int a4)]) (fun w1 => [.int w1]) rfl rfl (fun w1 => ?_)
  refine s_istore (lv' := [(0, .ref (G.2.1 4)), (1, .int a1), (2, .int a2), (3, .int a3), (4, .int a4), (5, .int w1)]) [1, 2, 3, 4, 5, 0] E dX6_add_4 (by rw [hn]; decide) rfl ?_
  refine s_aload_n 0 E dX6_add_6 rfl rfl ?_
  refine s_getr (k := 1) (T := TX6) 4 E rfl rfl rfl inX6 (by decide) W164 dX6_add_7 ?_
  refine s_iload 5 E dX6_add_10 rfl ?_
  refine s_iload_n 1 E dX6_add_12 rfl rfl ?_
  refine s_iast E dX6_add_13 (fun m2 => ?_)
  refine s_aload_n 0 E dX6_add_14 rfl rfl ?_
  refine s_getr (k := 2) (T := TX6) 4 E rfl rfl rfl inX6 (by decide) W165 dX6_add_15 ?_
  refine s_iload 5 E dX6_add_18 rfl ?_
  refine s_iload_n 2 E dX6_add_20 rfl rfl ?_
  refine s_iast E dX6_add_21 (fun m3 => ?_)
  refine s_aload_n 0 E dX6_add_22 rfl rfl ?_
  refine s_getr (k := 3) (T := TX6) 4 E rfl rfl rfl inX6 (by decide) W166 dX6_add_23 ?_
  refine s_iload 5 E dX6_add_26 rfl ?_
  refine s_iload_n 3 E dX6_add_28 rfl rfl ?_
  refine s_iast E dX6_add_29 (fun m4 => ?_)
  refine s_aload_n 0 E dX6_add_30 rfl rfl ?_
  refine s_getr (k := 4) (T := TX6) 4 E rfl rfl rfl inX6 (by decide) W167 dX6_add_31 ?_
  refine s_iload 5 E dX6_add_34 rfl ?_
  refine s_iload 4 E dX6_add_36 rfl ?_
  refine s_iast E dX6_add_38 (fun m5 => ?_)
  refine s_aload_n 0 E dX6_add_39 rfl rfl ?_
  refine s_dup E dX6_add_40 rfl ?_
  refine s_geti (k := 0) (T := TX6) 4 E rfl rfl rfl inX6 (by decide) W162 dX6_add_41 ?_
  refine s_iconst (v := (1 : Int32)) E dX6_add_44 (by decide) ?_
  refine s_iadd E dX6_add_45 ?_
  refine s_put (k := 0) (T := TX6) (ty := .int) 4 E rfl rfl rfl inX6 tyX6 tyX6_ok nmX6 (by decide) W162 rfl (by decide +kernel) rfl rfl dX6_add_46 ?_
  refine s_ltm rfl (fun m6 => ?_)
  refine s_iload 5 E dX6_add_49 rfl ?_
  exact s_iret E rfl dX6_add_51
set_option maxRecDepth 20000 in
theorem C_p_add (l : Launch) (G : GG) (a1 : Int32) (a2 : Int32) (a3 : Int32) (a4 : Int32) (m : M) {z : Int32 × M} (hz : p_add a1 a2 a3 a4 m = some z) : Ct l G yX6_add cX6_add 6 (some .int) 1 [.ref (G.2.1 4), .int a1, .int a2, .int a3, .int a4] m (some (.int z.1)) z.2 :=
  ct_of (K := KWi) (by decide) (Nat.le_of_ble_eq_true rfl) (congrArg (fun q => Option.bind q _) hz) (fun x hl hn E => (t_p_add E hn a1 a2 a3 a4 m))
theorem mdX6_add : mdq yX6_add 4 := ⟨by decide, by decide, by decide +kernel⟩
theorem dX11_report_0 : decode cX11_report 0 = .ok (.iload_n 1, 1) := by decide +kernel
theorem dX11_report_1 : decode cX11_report 1 = .ok (.iconst 0, 1) := by decide +kernel
theorem dX11_report_2 : decode cX11_report 2 = .ok (.bipush 15, 2) := by decide +kernel
theorem dX11_report_4 : decode cX11_report 4 = .ok (.invokestatic 61, 3) := by decide +kernel
theorem dX11_report_7 : decode cX11_report 7 = .ok (.ifCond .eq 12, 3) := by decide +kernel
theorem dX11_report_10 : decode cX11_report 10 = .ok (.iload_n 2, 1) := by decide +kernel
theorem dX11_report_11 : decode cX11_report 11 = .ok (.iconst 0, 1) := by decide +kernel
theorem dX11_report_12 : decode cX11_report 12 = .ok (.iconst 1, 1) := by decide +kernel
theorem dX11_report_13 : decode cX11_report 13 = .ok (.invokestatic 61, 3) := by decide +kernel
theorem dX11_report_16 : decode cX11_report 16 = .ok (.ifCond .ne 5, 3) := by decide +kernel
theorem dX11_report_19 : decode cX11_report 19 = .ok (.iconst (-1), 1) := by decide +kernel
theorem dX11_report_20 : decode cX11_report 20 = .ok (.ireturn, 1) := by decide +kernel
theorem dX11_report_21 : decode cX11_report 21 = .ok (.iload_n 3, 1) := by decide +kernel
theorem dX11_report_22 : decode cX11_report 22 = .ok (.ifCond .lt 26, 3) := by decide +kernel
theorem dX11_report_25 : decode cX11_report 25 = .ok (.iload 4, 2) := by decide +kernel
theorem dX11_report_27 : decode cX11_report 27 = .ok (.iload_n 3, 1) := by decide +kernel
theorem dX11_report_28 : decode cX11_report 28 = .ok (.if_icmp .lt 20, 3) := by decide +kernel
theorem dX11_report_31 : decode cX11_report 31 = .ok (.iload 4, 2) := by decide +kernel
theorem dX11_report_33 : decode cX11_report 33 = .ok (.iload_n 2, 1) := by decide +kernel
theorem dX11_report_34 : decode cX11_report 34 = .ok (.ifCond .ne 8, 3) := by decide +kernel
theorem dX11_report_37 : decode cX11_report 37 = .ok (.bipush 9, 2) := by decide +kernel
theorem dX11_report_39 : decode cX11_report 39 = .ok (.goto 6, 3) := by decide +kernel
theorem dX11_report_42 : decode cX11_report 42 = .ok (.sipush 999, 3) := by decide +kernel
theorem dX11_report_45 : decode cX11_report 45 = .ok (.if_icmp .le 5, 3) := by decide +kernel
theorem dX11_report_48 : decode cX11_report 48 = .ok (.iconst (-1), 1) := by decide +kernel
theorem dX11_report_49 : decode cX11_report 49 = .ok (.ireturn, 1) := by decide +kernel
theorem dX11_report_50 : decode cX11_report 50 = .ok (.aload_n 0, 1) := by decide +kernel
theorem dX11_report_51 : decode cX11_report 51 = .ok (.getfield 12, 3) := by decide +kernel
theorem dX11_report_54 : decode cX11_report 54 = .ok (.getfield 275, 3) := by decide +kernel
theorem dX11_report_57 : decode cX11_report 57 = .ok (.getfield 279, 3) := by decide +kernel
theorem dX11_report_60 : decode cX11_report 60 = .ok (.bipush 6, 2) := by decide +kernel
theorem dX11_report_62 : decode cX11_report 62 = .ok (.if_icmp .ge 21, 3) := by decide +kernel
theorem dX11_report_65 : decode cX11_report 65 = .ok (.aload_n 0, 1) := by decide +kernel
theorem dX11_report_66 : decode cX11_report 66 = .ok (.getfield 12, 3) := by decide +kernel
theorem dX11_report_69 : decode cX11_report 69 = .ok (.getfield 275, 3) := by decide +kernel
theorem dX11_report_72 : decode cX11_report 72 = .ok (.iload_n 1, 1) := by decide +kernel
theorem dX11_report_73 : decode cX11_report 73 = .ok (.iload_n 2, 1) := by decide +kernel
theorem dX11_report_74 : decode cX11_report 74 = .ok (.iload_n 3, 1) := by decide +kernel
theorem dX11_report_75 : decode cX11_report 75 = .ok (.iload 4, 2) := by decide +kernel
theorem dX11_report_77 : decode cX11_report 77 = .ok (.invokevirtual 282, 3) := by decide +kernel
theorem dX11_report_80 : decode cX11_report 80 = .ok (.goto 5, 3) := by decide +kernel
theorem dX11_report_83 : decode cX11_report 83 = .ok (.bipush (-2), 2) := by decide +kernel
theorem dX11_report_85 : decode cX11_report 85 = .ok (.ireturn, 1) := by decide +kernel
def k_report_45 (a1 : Int32) (a2 : Int32) (a3 : Int32) (a4 : Int32) (s0 : Int32) (s1 : Int32) (m : M) : Option (Int32 × M) :=
  (if s0 ≤ s1 then (if (6 : Int32) ≤ (m 4 0) then some ((-2 : Int32), m) else Option.bind (p_add a1 a2 a3 a4 m) (fun z1 => some (z1.1, z1.2))) else some ((-1 : Int32), m))
set_option maxRecDepth 20000 in
theorem t_k_report_45 {G : GG} {x : Cx} (E : En G x cX11_report "WreckBoard" 2 (some .int)) (hn : xn x = 5) (a1 : Int32) (a2 : Int32) (a3 : Int32) (a4 : Int32) (s0 : Int32) (s1 : Int32) (m : M) : Sm G x 45 [(0, .ref (G.2.1 0)), (1, .int a1), (2, .int a2), (3, .int a3), (4, .int a4)] [.int s1, .int s0] m (k_report_45 a1 a2 a3 a4 s0 s1 m) KWi := by
  unfold k_report_45
  refine s_icmp_le 50 E dX11_report_45 (by decide) ?_ ?_
  · refine s_aload_n 0 E dX11_report_50 rfl rfl ?_
    refine s_getr (k := 0) (T := TX11) 0 E rfl rfl rfl inX11 (by decide) W360 dX11_report_51 ?_
    refine s_getr (k := 17) (T := TX0) 1 E rfl rfl rfl inX0 (by decide) W261 dX11_report_54 ?_
    refine s_geti (k := 0) (T := TX6) 4 E rfl rfl rfl inX6 (by decide) W163 dX11_report_57 ?_
    refine s_bipush (v := (6 : Int32)) E dX11_report_60 (by decide) ?_
    refine s_icmp_ge 83 E dX11_report_62 (by decide) ?_ ?_
    · refine s_bipush (v := (-2 : Int32)) E dX11_report_83 (by decide) ?_
      exact s_iret E rfl dX11_report_85
    · refine s_aload_n 0 E dX11_report_65 rfl rfl ?_
      refine s_getr (k := 0) (T := TX11) 0 E rfl rfl rfl inX11 (by decide) W360 dX11_report_66 ?_
      refine s_getr (k := 17) (T := TX0) 1 E rfl rfl rfl inX0 (by decide) W261 dX11_report_69 ?_
      refine s_iload_n 1 E dX11_report_72 rfl rfl ?_
      refine s_iload_n 2 E dX11_report_73 rfl rfl ?_
      refine s_iload_n 3 E dX11_report_74 rfl rfl ?_
      refine s_iload 4 E dX11_report_75 rfl ?_
      refine s_bd (fun z1 hz => ?_)
      refine s_cV (rest := []) E (C_p_add (xl x) G a1 a2 a3 a4 m hz) mdX6_add W968 W969 W970 W94 W971 rfl rfl rfl rfl (Nat.le_of_ble_eq_true rfl) ⟨by decide, by decide⟩ dX11_report_77 ?_
      refine s_goto 85 E dX11_report_80 (by decide) ?_
      exact s_iret E rfl dX11_report_85
  · refine s_iconst (v := (-1 : Int32)) E dX11_report_48 (by decide) ?_
    exact s_iret E rfl dX11_report_49
def k_report (a1 : Int32) (a2 : Int32) (a3 : Int32) (a4 : Int32) (m : M) : Option (Int32 × M) :=
  Option.bind (k_within a1 (0 : Int32) (15 : Int32) m) (fun v1 => (if v1 = 0 then some ((-1 : Int32), m) else Option.bind (k_within a2 (0 : Int32) (1 : Int32) m) (fun v2 => (if v2 = 0 then some ((-1 : Int32), m) else (if a3 < 0 then some ((-1 : Int32), m) else (if a4 < a3 then some ((-1 : Int32), m) else (if a2 = 0 then k_report_45 a1 a2 a3 a4 a4 (9 : Int32) m else k_report_45 a1 a2 a3 a4 a4 (999 : Int32) m)))))))
set_option maxRecDepth 20000 in
theorem t_k_report {G : GG} {x : Cx} (E : En G x cX11_report "WreckBoard" 2 (some .int)) (hn : xn x = 5) (a1 : Int32) (a2 : Int32) (a3 : Int32) (a4 : Int32) (m : M) : Sm G x 0 [(0, .ref (G.2.1 0)), (1, .int a1), (2, .int a2), (3, .int a3), (4, .int a4)] [] m (k_report a1 a2 a3 a4 m) KWi := by
  unfold k_report
  refine s_iload_n 1 E dX11_report_0 rfl rfl ?_
  refine s_iconst (v := (0 : Int32)) E dX11_report_1 (by decide) ?_
  refine s_bipush (v := (15 : Int32)) E dX11_report_2 (by decide) ?_
  refine s_bd (fun v1 hz => ?_)
  refine s_cS (rest := []) E (C_k_within (xl x) G a1 (0 : Int32) (15 : Int32) m hz) mdX11_within W404 W405 W91 W406 rfl rfl (Nat.le_of_ble_eq_true rfl) ⟨by decide, by decide⟩ dX11_report_4 ?_
  refine s_if_eq 19 E dX11_report_7 (by decide) ?_ ?_
  · refine s_iconst (v := (-1 : Int32)) E dX11_report_19 (by decide) ?_
    exact s_iret E rfl dX11_report_20
  · refine s_iload_n 2 E dX11_report_10 rfl rfl ?_
    refine s_iconst (v := (0 : Int32)) E dX11_report_11 (by decide) ?_
    refine s_iconst (v := (1 : Int32)) E dX11_report_12 (by decide) ?_
    refine s_bd (fun v2 hz => ?_)
    refine s_cS (rest := []) E (C_k_within (xl x) G a2 (0 : Int32) (1 : Int32) m hz) mdX11_within W404 W405 W91 W406 rfl rfl (Nat.le_of_ble_eq_true rfl) ⟨by decide, by decide⟩ dX11_report_13 ?_
    refine s_if_ne 21 E dX11_report_16 (by decide) ?_ ?_
    · refine s_iload_n 3 E dX11_report_21 rfl rfl ?_
      refine s_if_lt 48 E dX11_report_22 (by decide) ?_ ?_
      · refine s_iconst (v := (-1 : Int32)) E dX11_report_48 (by decide) ?_
        exact s_iret E rfl dX11_report_49
      · refine s_iload 4 E dX11_report_25 rfl ?_
        refine s_iload_n 3 E dX11_report_27 rfl rfl ?_
        refine s_icmp_lt 48 E dX11_report_28 (by decide) ?_ ?_
        · refine s_iconst (v := (-1 : Int32)) E dX11_report_48 (by decide) ?_
          exact s_iret E rfl dX11_report_49
        · refine s_iload 4 E dX11_report_31 rfl ?_
          refine s_iload_n 2 E dX11_report_33 rfl rfl ?_
          refine s_if_ne 42 E dX11_report_34 (by decide) ?_ ?_
          · refine s_sipush (v := (999 : Int32)) E dX11_report_42 (by decide) ?_
            exact t_k_report_45 E hn a1 a2 a3 a4 a4 (999 : Int32) m
          · refine s_bipush (v := (9 : Int32)) E dX11_report_37 (by decide) ?_
            refine s_goto 45 E dX11_report_39 (by decide) ?_
            exact t_k_report_45 E hn a1 a2 a3 a4 a4 (9 : Int32) m
    · refine s_iconst (v := (-1 : Int32)) E dX11_report_19 (by decide) ?_
      exact s_iret E rfl dX11_report_20
set_option maxRecDepth 20000 in
theorem C_k_report (l : Launch) (G : GG) (a1 : Int32) (a2 : Int32) (a3 : Int32) (a4 : Int32) (m : M) {z : Int32 × M} (hz : k_report a1 a2 a3 a4 m = some z) : Ct l G yX11_report cX11_report 5 (some .int) 2 [.ref (G.2.1 0), .int a1, .int a2, .int a3, .int a4] m (some (.int z.1)) z.2 :=
  ct_of (K := KWi) (by decide) (Nat.le_of_ble_eq_true rfl) (congrArg (fun q => Option.bind q _) hz) (fun x hl hn E => (t_k_report E hn a1 a2 a3 a4 m))
theorem dX11_forget_0 : decode cX11_forget 0 = .ok (.aload_n 0, 1) := by decide +kernel
theorem dX11_forget_1 : decode cX11_forget 1 = .ok (.getfield 12, 3) := by decide +kernel
theorem dX11_forget_4 : decode cX11_forget 4 = .ok (.getfield 275, 3) := by decide +kernel
theorem dX11_forget_7 : decode cX11_forget 7 = .ok (.getfield 279, 3) := by decide +kernel
theorem dX11_forget_10 : decode cX11_forget 10 = .ok (.istore_n 1, 1) := by decide +kernel
theorem dX11_forget_11 : decode cX11_forget 11 = .ok (.aload_n 0, 1) := by decide +kernel
theorem dX11_forget_12 : decode cX11_forget 12 = .ok (.getfield 12, 3) := by decide +kernel
theorem dX11_forget_15 : decode cX11_forget 15 = .ok (.getfield 275, 3) := by decide +kernel
theorem dX11_forget_18 : decode cX11_forget 18 = .ok (.iconst 0, 1) := by decide +kernel
theorem dX11_forget_19 : decode cX11_forget 19 = .ok (.putfield 279, 3) := by decide +kernel
theorem dX11_forget_22 : decode cX11_forget 22 = .ok (.iload_n 1, 1) := by decide +kernel
theorem dX11_forget_23 : decode cX11_forget 23 = .ok (.ireturn, 1) := by decide +kernel
def k_forget  (m : M) : Option (Int32 × M) :=
  lt (m 4 0) (fun w1 : Int32 => lt (wrF m 4 0 (0 : Int32)) (fun m2 => some (w1, m2)))
set_option maxRecDepth 20000 in
theorem t_k_forget {G : GG} {x : Cx} (E : En G x cX11_forget "WreckBoard" 1 (some .int)) (hn : xn x = 2)  (m : M) : Sm G x 0 [(0, .ref (G.2.1 0))] [] m (k_forget m) KWi := by
  unfold k_forget
  refine s_aload_n 0 E dX11_forget_0 rfl rfl ?_
  refine s_getr (k := 0) (T := TX11) 0 E rfl rfl rfl inX11 (by decide) W360 dX11_forget_1 ?_
  refine s_getr (k := 17) (T := TX0) 1 E rfl rfl rfl inX0 (by decide) W261 dX11_forget_4 ?_
  refine s_geti (k := 0) (T := TX6) 4 E rfl rfl rfl inX6 (by decide) W163 dX11_forget_7 ?_
  refine s_lt (fun w1 => [(0, .ref (G.2.1 0))]) (fun w1 => [.int w1]) rfl rfl (fun w1 => ?_)
  refine s_istore_n (lv' := [(0, .ref (G.2.1 0)), (1, .int w1)]) [1, 0] E dX11_forget_10 rfl (by rw [hn]; decide) rfl ?_
  refine s_aload_n 0 E dX11_forget_11 rfl rfl ?_
  refine s_getr (k := 0) (T := TX11) 0 E rfl rfl rfl inX11 (by decide) W360 dX11_forget_12 ?_
  refine s_getr (k := 17) (T := TX0) 1 E rfl rfl rfl inX0 (by decide) W261 dX11_forget_15 ?_
  refine s_iconst (v := (0 : Int32)) E dX11_forget_18 (by decide) ?_
  refine s_put (k := 0) (T := TX6) (ty := .int) 4 E rfl rfl rfl inX6 tyX6 tyX6_ok nmX6 (by decide) W163 rfl (by decide +kernel) rfl rfl dX11_forget_19 ?_
  refine s_ltm rfl (fun m2 => ?_)
  refine s_iload_n 1 E dX11_forget_22 rfl rfl ?_
  exact s_iret E rfl dX11_forget_23
set_option maxRecDepth 20000 in
theorem C_k_forget (l : Launch) (G : GG)  (m : M) {z : Int32 × M} (hz : k_forget m = some z) : Ct l G yX11_forget cX11_forget 2 (some .int) 1 [.ref (G.2.1 0)] m (some (.int z.1)) z.2 :=
  ct_of (K := KWi) (by decide) (Nat.le_of_ble_eq_true rfl) (congrArg (fun q => Option.bind q _) hz) (fun x hl hn E => (t_k_forget E hn  m))
theorem dX11_kindOfLone_0 : decode cX11_kindOfLone 0 = .ok (.iload_n 0, 1) := by decide +kernel
theorem dX11_kindOfLone_1 : decode cX11_kindOfLone 1 = .ok (.bipush 100, 2) := by decide +kernel
theorem dX11_kindOfLone_3 : decode cX11_kindOfLone 3 = .ok (.idiv, 1) := by decide +kernel
theorem dX11_kindOfLone_4 : decode cX11_kindOfLone 4 = .ok (.iconst 1, 1) := by decide +kernel
theorem dX11_kindOfLone_5 : decode cX11_kindOfLone 5 = .ok (.iadd, 1) := by decide +kernel
theorem dX11_kindOfLone_6 : decode cX11_kindOfLone 6 = .ok (.ireturn, 1) := by decide +kernel
def k_kindOfLone (a0 : Int32) (m : M) : Option (Int32) :=
  some ((a0 / (100 : Int32)) + (1 : Int32))
set_option maxRecDepth 20000 in
theorem t_k_kindOfLone {G : GG} {x : Cx} (E : En G x cX11_kindOfLone "WreckBoard" 1 (some .int)) (hn : xn x = 1) (a0 : Int32) (m : M) : Sm G x 0 [(0, .int a0)] [] m (k_kindOfLone a0 m) (KRi m) := by
  unfold k_kindOfLone
  refine s_iload_n 0 E dX11_kindOfLone_0 rfl rfl ?_
  refine s_bipush (v := (100 : Int32)) E dX11_kindOfLone_1 (by decide) ?_
  refine s_idivc E dX11_kindOfLone_3 (by decide) ?_
  refine s_iconst (v := (1 : Int32)) E dX11_kindOfLone_4 (by decide) ?_
  refine s_iadd E dX11_kindOfLone_5 ?_
  exact s_iret E rfl dX11_kindOfLone_6
set_option maxRecDepth 20000 in
theorem C_k_kindOfLone (l : Launch) (G : GG) (a0 : Int32) (m : M) {z : Int32} (hz : k_kindOfLone a0 m = some z) : Ct l G yX11_kindOfLone cX11_kindOfLone 1 (some .int) 1 [.int a0] m (some (.int z)) m :=
  ct_of (K := (KRi m)) (by decide) (Nat.le_of_ble_eq_true rfl) (congrArg (fun q => Option.bind q _) hz) (fun x hl hn E => (t_k_kindOfLone E hn a0 m))
theorem mdX11_kindOfLone : mdq yX11_kindOfLone 1 := ⟨by decide, by decide, by decide +kernel⟩
theorem dX11_greedOfLone_0 : decode cX11_greedOfLone 0 = .ok (.iload_n 0, 1) := by decide +kernel
theorem dX11_greedOfLone_1 : decode cX11_greedOfLone 1 = .ok (.bipush 10, 2) := by decide +kernel
theorem dX11_greedOfLone_3 : decode cX11_greedOfLone 3 = .ok (.idiv, 1) := by decide +kernel
theorem dX11_greedOfLone_4 : decode cX11_greedOfLone 4 = .ok (.bipush 10, 2) := by decide +kernel
theorem dX11_greedOfLone_6 : decode cX11_greedOfLone 6 = .ok (.irem, 1) := by decide +kernel
theorem dX11_greedOfLone_7 : decode cX11_greedOfLone 7 = .ok (.ireturn, 1) := by decide +kernel
def k_greedOfLone (a0 : Int32) (m : M) : Option (Int32) :=
  some ((a0 / (10 : Int32)) - (a0 / (10 : Int32)) / (10 : Int32) * (10 : Int32))
set_option maxRecDepth 20000 in
theorem t_k_greedOfLone {G : GG} {x : Cx} (E : En G x cX11_greedOfLone "WreckBoard" 1 (some .int)) (hn : xn x = 1) (a0 : Int32) (m : M) : Sm G x 0 [(0, .int a0)] [] m (k_greedOfLone a0 m) (KRi m) := by
  unfold k_greedOfLone
  refine s_iload_n 0 E dX11_greedOfLone_0 rfl rfl ?_
  refine s_bipush (v := (10 : Int32)) E dX11_greedOfLone_1 (by decide) ?_
  refine s_idivc E dX11_greedOfLone_3 (by decide) ?_
  refine s_bipush (v := (10 : Int32)) E dX11_greedOfLone_4 (by decide) ?_
  refine s_iremc E dX11_greedOfLone_6 (by decide) ?_
  exact s_iret E rfl dX11_greedOfLone_7
set_option maxRecDepth 20000 in
theorem C_k_greedOfLone (l : Launch) (G : GG) (a0 : Int32) (m : M) {z : Int32} (hz : k_greedOfLone a0 m = some z) : Ct l G yX11_greedOfLone cX11_greedOfLone 1 (some .int) 1 [.int a0] m (some (.int z)) m :=
  ct_of (K := (KRi m)) (by decide) (Nat.le_of_ble_eq_true rfl) (congrArg (fun q => Option.bind q _) hz) (fun x hl hn E => (t_k_greedOfLone E hn a0 m))
theorem mdX11_greedOfLone : mdq yX11_greedOfLone 1 := ⟨by decide, by decide, by decide +kernel⟩
theorem dX11_lightOfLone_0 : decode cX11_lightOfLone 0 = .ok (.iload_n 0, 1) := by decide +kernel
theorem dX11_lightOfLone_1 : decode cX11_lightOfLone 1 = .ok (.bipush 10, 2) := by decide +kernel
theorem dX11_lightOfLone_3 : decode cX11_lightOfLone 3 = .ok (.irem, 1) := by decide +kernel
theorem dX11_lightOfLone_4 : decode cX11_lightOfLone 4 = .ok (.ireturn, 1) := by decide +kernel
def k_lightOfLone (a0 : Int32) (m : M) : Option (Int32) :=
  some (a0 - a0 / (10 : Int32) * (10 : Int32))
set_option maxRecDepth 20000 in
theorem t_k_lightOfLone {G : GG} {x : Cx} (E : En G x cX11_lightOfLone "WreckBoard" 1 (some .int)) (hn : xn x = 1) (a0 : Int32) (m : M) : Sm G x 0 [(0, .int a0)] [] m (k_lightOfLone a0 m) (KRi m) := by
  unfold k_lightOfLone
  refine s_iload_n 0 E dX11_lightOfLone_0 rfl rfl ?_
  refine s_bipush (v := (10 : Int32)) E dX11_lightOfLone_1 (by decide) ?_
  refine s_iremc E dX11_lightOfLone_3 (by decide) ?_
  exact s_iret E rfl dX11_lightOfLone_4
set_option maxRecDepth 20000 in
theorem C_k_lightOfLone (l : Launch) (G : GG) (a0 : Int32) (m : M) {z : Int32} (hz : k_lightOfLone a0 m = some z) : Ct l G yX11_lightOfLone cX11_lightOfLone 1 (some .int) 1 [.int a0] m (some (.int z)) m :=
  ct_of (K := (KRi m)) (by decide) (Nat.le_of_ble_eq_true rfl) (congrArg (fun q => Option.bind q _) hz) (fun x hl hn E => (t_k_lightOfLone E hn a0 m))
theorem mdX11_lightOfLone : mdq yX11_lightOfLone 1 := ⟨by decide, by decide, by decide +kernel⟩
theorem dX6_wrongBehind_0 : decode cX6_wrongBehind 0 = .ok (.iconst 0, 1) := by decide +kernel
theorem dX6_wrongBehind_1 : decode cX6_wrongBehind 1 = .ok (.istore 4, 2) := by decide +kernel
theorem dX6_wrongBehind_3 : decode cX6_wrongBehind 3 = .ok (.iconst 0, 1) := by decide +kernel
theorem dX6_wrongBehind_4 : decode cX6_wrongBehind 4 = .ok (.istore 5, 2) := by decide +kernel
theorem dX6_wrongBehind_6 : decode cX6_wrongBehind 6 = .ok (.iload 5, 2) := by decide +kernel
theorem dX6_wrongBehind_8 : decode cX6_wrongBehind 8 = .ok (.aload_n 0, 1) := by decide +kernel
theorem dX6_wrongBehind_9 : decode cX6_wrongBehind 9 = .ok (.getfield 24, 3) := by decide +kernel
theorem dX6_wrongBehind_12 : decode cX6_wrongBehind 12 = .ok (.if_icmp .ge 64, 3) := by decide +kernel
theorem dX6_wrongBehind_15 : decode cX6_wrongBehind 15 = .ok (.aload_n 0, 1) := by decide +kernel
theorem dX6_wrongBehind_16 : decode cX6_wrongBehind 16 = .ok (.getfield 9, 3) := by decide +kernel
theorem dX6_wrongBehind_19 : decode cX6_wrongBehind 19 = .ok (.iload 5, 2) := by decide +kernel
theorem dX6_wrongBehind_21 : decode cX6_wrongBehind 21 = .ok (.iaload, 1) := by decide +kernel
theorem dX6_wrongBehind_22 : decode cX6_wrongBehind 22 = .ok (.iload_n 1, 1) := by decide +kernel
theorem dX6_wrongBehind_23 : decode cX6_wrongBehind 23 = .ok (.if_icmp .ne 47, 3) := by decide +kernel
theorem dX6_wrongBehind_26 : decode cX6_wrongBehind 26 = .ok (.aload_n 0, 1) := by decide +kernel
theorem dX6_wrongBehind_27 : decode cX6_wrongBehind 27 = .ok (.getfield 15, 3) := by decide +kernel
theorem dX6_wrongBehind_30 : decode cX6_wrongBehind 30 = .ok (.iload 5, 2) := by decide +kernel
theorem dX6_wrongBehind_32 : decode cX6_wrongBehind 32 = .ok (.iaload, 1) := by decide +kernel
theorem dX6_wrongBehind_33 : decode cX6_wrongBehind 33 = .ok (.ifCond .ne 7, 3) := by decide +kernel
theorem dX6_wrongBehind_36 : decode cX6_wrongBehind 36 = .ok (.iload_n 2, 1) := by decide +kernel
theorem dX6_wrongBehind_37 : decode cX6_wrongBehind 37 = .ok (.goto 4, 3) := by decide +kernel
theorem dX6_wrongBehind_40 : decode cX6_wrongBehind 40 = .ok (.iload_n 3, 1) := by decide +kernel
theorem dX6_wrongBehind_41 : decode cX6_wrongBehind 41 = .ok (.aload_n 0, 1) := by decide +kernel
theorem dX6_wrongBehind_42 : decode cX6_wrongBehind 42 = .ok (.getfield 18, 3) := by decide +kernel
theorem dX6_wrongBehind_45 : decode cX6_wrongBehind 45 = .ok (.iload 5, 2) := by decide +kernel
theorem dX6_wrongBehind_47 : decode cX6_wrongBehind 47 = .ok (.iaload, 1) := by decide +kernel
theorem dX6_wrongBehind_48 : decode cX6_wrongBehind 48 = .ok (.aload_n 0, 1) := by decide +kernel
theorem dX6_wrongBehind_49 : decode cX6_wrongBehind 49 = .ok (.getfield 21, 3) := by decide +kernel
theorem dX6_wrongBehind_52 : decode cX6_wrongBehind 52 = .ok (.iload 5, 2) := by decide +kernel
theorem dX6_wrongBehind_54 : decode cX6_wrongBehind 54 = .ok (.iaload, 1) := by decide +kernel
theorem dX6_wrongBehind_55 : decode cX6_wrongBehind 55 = .ok (.invokestatic 73, 3) := by decide +kernel
theorem dX6_wrongBehind_58 : decode cX6_wrongBehind 58 = .ok (.ifCond .ne 12, 3) := by decide +kernel
theorem dX6_wrongBehind_61 : decode cX6_wrongBehind 61 = .ok (.iload 4, 2) := by decide +kernel
theorem dX6_wrongBehind_63 : decode cX6_wrongBehind 63 = .ok (.iconst 1, 1) := by decide +kernel
theorem dX6_wrongBehind_64 : decode cX6_wrongBehind 64 = .ok (.iload 5, 2) := by decide +kernel
theorem dX6_wrongBehind_66 : decode cX6_wrongBehind 66 = .ok (.ishl, 1) := by decide +kernel
theorem dX6_wrongBehind_67 : decode cX6_wrongBehind 67 = .ok (.ior, 1) := by decide +kernel
theorem dX6_wrongBehind_68 : decode cX6_wrongBehind 68 = .ok (.istore 4, 2) := by decide +kernel
theorem dX6_wrongBehind_70 : decode cX6_wrongBehind 70 = .ok (.iinc 5 1, 3) := by decide +kernel
theorem dX6_wrongBehind_73 : decode cX6_wrongBehind 73 = .ok (.goto (-67), 3) := by decide +kernel
theorem dX6_wrongBehind_76 : decode cX6_wrongBehind 76 = .ok (.iload 4, 2) := by decide +kernel
theorem dX6_wrongBehind_78 : decode cX6_wrongBehind 78 = .ok (.ireturn, 1) := by decide +kernel
