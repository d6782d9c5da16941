set_option maxRecDepth 20000 in
theorem C_r_isRow (l : Launch) (G : GG) (a1 : Int32) (a2 : Int32) (m : M) {z : Int32} (hz : r_isRow a1 a2 m = some z) : Ct l G yX12_isRow cX12_isRow 3 (some .boolean) 2 [.ref (G.2.1 76), .int a1, .int a2] m (some (.int z)) m :=
  ct_of (K := (KRi m)) (by decide) (Nat.le_of_ble_eq_true rfl) (congrArg (fun q => Option.bind q _) hz) (fun x hl hn E => (t_r_isRow E hn a1 a2 m))
theorem mdX12_isRow : mdq yX12_isRow 2 := ⟨by decide, by decide, by decide +kernel⟩
theorem dX12_row_0 : decode cX12_row 0 = .ok (.aload_n 0, 1) := by decide +kernel
theorem dX12_row_1 : decode cX12_row 1 = .ok (.iload_n 1, 1) := by decide +kernel
theorem dX12_row_2 : decode cX12_row 2 = .ok (.iload_n 2, 1) := by decide +kernel
theorem dX12_row_3 : decode cX12_row 3 = .ok (.invokevirtual 323, 3) := by decide +kernel
theorem dX12_row_6 : decode cX12_row 6 = .ok (.ifCond .eq 16, 3) := by decide +kernel
theorem dX12_row_9 : decode cX12_row 9 = .ok (.aload_n 0, 1) := by decide +kernel
theorem dX12_row_10 : decode cX12_row 10 = .ok (.getfield 50, 3) := by decide +kernel
theorem dX12_row_13 : decode cX12_row 13 = .ok (.iconst 3, 1) := by decide +kernel
theorem dX12_row_14 : decode cX12_row 14 = .ok (.iload_n 1, 1) := by decide +kernel
theorem dX12_row_15 : decode cX12_row 15 = .ok (.imul, 1) := by decide +kernel
theorem dX12_row_16 : decode cX12_row 16 = .ok (.iload_n 2, 1) := by decide +kernel
theorem dX12_row_17 : decode cX12_row 17 = .ok (.iadd, 1) := by decide +kernel
theorem dX12_row_18 : decode cX12_row 18 = .ok (.iaload, 1) := by decide +kernel
theorem dX12_row_19 : decode cX12_row 19 = .ok (.goto 5, 3) := by decide +kernel
theorem dX12_row_22 : decode cX12_row 22 = .ok (.bipush (-9), 2) := by decide +kernel
theorem dX12_row_24 : decode cX12_row 24 = .ok (.ireturn, 1) := by decide +kernel
def r_row (a1 : Int32) (a2 : Int32) (m : M) : Option (Int32) :=
  Option.bind (r_isRow a1 a2 m) (fun v1 => (if v1 = 0 then some (-9 : Int32) else Option.bind (rdI m 90 (((3 : Int32) * a1) + a2)) (fun v2 => some v2)))
set_option maxRecDepth 20000 in
theorem t_r_row {G : GG} {x : Cx} (E : En G x cX12_row "WreckBoardModel" 3 (some .int)) (hn : xn x = 3) (a1 : Int32) (a2 : Int32) (m : M) : Sm G x 0 [(0, .ref (G.2.1 76)), (1, .int a1), (2, .int a2)] [] m (r_row a1 a2 m) (KRi m) := by
  unfold r_row
  refine s_aload_n 0 E dX12_row_0 rfl rfl ?_
  refine s_iload_n 1 E dX12_row_1 rfl rfl ?_
  refine s_iload_n 2 E dX12_row_2 rfl rfl ?_
  refine s_bd (fun v1 hz => ?_)
  refine s_cV (rest := []) E (C_r_isRow (xl x) G a1 a2 m hz) mdX12_isRow W1753 W1755 W80 W103 W1756 rfl rfl rfl rfl (Nat.le_of_ble_eq_true rfl) ⟨by decide, by decide⟩ dX12_row_3 ?_
  refine s_if_eq 22 E dX12_row_6 (by decide) ?_ ?_
  · refine s_bipush (v := (-9 : Int32)) E dX12_row_22 (by decide) ?_
    exact s_iret E rfl dX12_row_24
  · refine s_aload_n 0 E dX12_row_9 rfl rfl ?_
    refine s_getr (k := 27) (T := TX12) 76 E rfl rfl rfl inX12 (by decide) W1266 dX12_row_10 ?_
    refine s_iconst (v := (3 : Int32)) E dX12_row_13 (by decide) ?_
    refine s_iload_n 1 E dX12_row_14 rfl rfl ?_
    refine s_imul E dX12_row_15 ?_
    refine s_iload_n 2 E dX12_row_16 rfl rfl ?_
    refine s_iadd E dX12_row_17 ?_
    refine s_iald E dX12_row_18 (fun v2 => ?_)
    refine s_goto 24 E dX12_row_19 (by decide) ?_
    exact s_iret E rfl dX12_row_24
set_option maxRecDepth 20000 in
theorem C_r_row (l : Launch) (G : GG) (a1 : Int32) (a2 : Int32) (m : M) {z : Int32} (hz : r_row a1 a2 m = some z) : Ct l G yX12_row cX12_row 3 (some .int) 3 [.ref (G.2.1 76), .int a1, .int a2] m (some (.int z)) m :=
  ct_of (K := (KRi m)) (by decide) (Nat.le_of_ble_eq_true rfl) (congrArg (fun q => Option.bind q _) hz) (fun x hl hn E => (t_r_row E hn a1 a2 m))
theorem dX12_alterRow_0 : decode cX12_alterRow 0 = .ok (.aload_n 0, 1) := by decide +kernel
theorem dX12_alterRow_1 : decode cX12_alterRow 1 = .ok (.iload_n 1, 1) := by decide +kernel
theorem dX12_alterRow_2 : decode cX12_alterRow 2 = .ok (.iload_n 2, 1) := by decide +kernel
theorem dX12_alterRow_3 : decode cX12_alterRow 3 = .ok (.invokevirtual 323, 3) := by decide +kernel
theorem dX12_alterRow_6 : decode cX12_alterRow 6 = .ok (.ifCond .ne 6, 3) := by decide +kernel
theorem dX12_alterRow_9 : decode cX12_alterRow 9 = .ok (.bipush (-9), 2) := by decide +kernel
theorem dX12_alterRow_11 : decode cX12_alterRow 11 = .ok (.ireturn, 1) := by decide +kernel
theorem dX12_alterRow_12 : decode cX12_alterRow 12 = .ok (.aload_n 0, 1) := by decide +kernel
theorem dX12_alterRow_13 : decode cX12_alterRow 13 = .ok (.getfield 50, 3) := by decide +kernel
theorem dX12_alterRow_16 : decode cX12_alterRow 16 = .ok (.iconst 3, 1) := by decide +kernel
theorem dX12_alterRow_17 : decode cX12_alterRow 17 = .ok (.iload_n 1, 1) := by decide +kernel
theorem dX12_alterRow_18 : decode cX12_alterRow 18 = .ok (.imul, 1) := by decide +kernel
theorem dX12_alterRow_19 : decode cX12_alterRow 19 = .ok (.iload_n 2, 1) := by decide +kernel
theorem dX12_alterRow_20 : decode cX12_alterRow 20 = .ok (.iadd, 1) := by decide +kernel
theorem dX12_alterRow_21 : decode cX12_alterRow 21 = .ok (.iaload, 1) := by decide +kernel
theorem dX12_alterRow_22 : decode cX12_alterRow 22 = .ok (.istore 4, 2) := by decide +kernel
theorem dX12_alterRow_24 : decode cX12_alterRow 24 = .ok (.aload_n 0, 1) := by decide +kernel
theorem dX12_alterRow_25 : decode cX12_alterRow 25 = .ok (.getfield 50, 3) := by decide +kernel
theorem dX12_alterRow_28 : decode cX12_alterRow 28 = .ok (.iconst 3, 1) := by decide +kernel
theorem dX12_alterRow_29 : decode cX12_alterRow 29 = .ok (.iload_n 1, 1) := by decide +kernel
theorem dX12_alterRow_30 : decode cX12_alterRow 30 = .ok (.imul, 1) := by decide +kernel
theorem dX12_alterRow_31 : decode cX12_alterRow 31 = .ok (.iload_n 2, 1) := by decide +kernel
theorem dX12_alterRow_32 : decode cX12_alterRow 32 = .ok (.iadd, 1) := by decide +kernel
theorem dX12_alterRow_33 : decode cX12_alterRow 33 = .ok (.iload_n 3, 1) := by decide +kernel
theorem dX12_alterRow_34 : decode cX12_alterRow 34 = .ok (.iastore, 1) := by decide +kernel
theorem dX12_alterRow_35 : decode cX12_alterRow 35 = .ok (.iload 4, 2) := by decide +kernel
theorem dX12_alterRow_37 : decode cX12_alterRow 37 = .ok (.ireturn, 1) := by decide +kernel
def r_alterRow (a1 : Int32) (a2 : Int32) (a3 : Int32) (m : M) : Option (Int32 × M) :=
  Option.bind (r_isRow a1 a2 m) (fun v1 => (if v1 = 0 then some ((-9 : Int32), m) else Option.bind (rdI m 90 (((3 : Int32) * a1) + a2)) (fun v2 => Option.bind (wrI m 90 (((3 : Int32) * a1) + a2) a3) (fun m3 => some (v2, m3)))))
set_option maxRecDepth 20000 in
theorem t_r_alterRow {G : GG} {x : Cx} (E : En G x cX12_alterRow "WreckBoardModel" 3 (some .int)) (hn : xn x = 5) (a1 : Int32) (a2 : Int32) (a3 : Int32) (m : M) : Sm G x 0 [(0, .ref (G.2.1 76)), (1, .int a1), (2, .int a2), (3, .int a3)] [] m (r_alterRow a1 a2 a3 m) KWi := by
  unfold r_alterRow
  refine s_aload_n 0 E dX12_alterRow_0 rfl rfl ?_
  refine s_iload_n 1 E dX12_alterRow_1 rfl rfl ?_
  refine s_iload_n 2 E dX12_alterRow_2 rfl rfl ?_
  refine s_bd (fun v1 hz => ?_)
  refine s_cV (rest := []) E (C_r_isRow (xl x) G a1 a2 m hz) mdX12_isRow W1753 W1755 W80 W103 W1756 rfl rfl rfl rfl (Nat.le_of_ble_eq_true rfl) ⟨by decide, by decide⟩ dX12_alterRow_3 ?_
  refine s_if_ne 12 E dX12_alterRow_6 (by decide) ?_ ?_
  · refine s_aload_n 0 E dX12_alterRow_12 rfl rfl ?_
    refine s_getr (k := 27) (T := TX12) 76 E rfl rfl rfl inX12 (by decide) W1266 dX12_alterRow_13 ?_
    refine s_iconst (v := (3 : Int32)) E dX12_alterRow_16 (by decide) ?_
    refine s_iload_n 1 E dX12_alterRow_17 rfl rfl ?_
    refine s_imul E dX12_alterRow_18 ?_
    refine s_iload_n 2 E dX12_alterRow_19 rfl rfl ?_
    refine s_iadd E dX12_alterRow_20 ?_
    refine s_iald E dX12_alterRow_21 (fun v2 => ?_)
    refine s_istore (lv' := [(0, .ref (G.2.1 76)), (1, .int a1), (2, .int a2), (3, .int a3), (4, .int v2)]) [1, 2, 3, 4, 0] E dX12_alterRow_22 (by rw [hn]; decide) rfl ?_
    refine s_aload_n 0 E dX12_alterRow_24 rfl rfl ?_
    refine s_getr (k := 27) (T := TX12) 76 E rfl rfl rfl inX12 (by decide) W1266 dX12_alterRow_25 ?_
    refine s_iconst (v := (3 : Int32)) E dX12_alterRow_28 (by decide) ?_
    refine s_iload_n 1 E dX12_alterRow_29 rfl rfl ?_
    refine s_imul E dX12_alterRow_30 ?_
    refine s_iload_n 2 E dX12_alterRow_31 rfl rfl ?_
    refine s_iadd E dX12_alterRow_32 ?_
    refine s_iload_n 3 E dX12_alterRow_33 rfl rfl ?_
    refine s_iast E dX12_alterRow_34 (fun m3 => ?_)
    refine s_iload 4 E dX12_alterRow_35 rfl ?_
    exact s_iret E rfl dX12_alterRow_37
  · refine s_bipush (v := (-9 : Int32)) E dX12_alterRow_9 (by decide) ?_
    exact s_iret E rfl dX12_alterRow_11
set_option maxRecDepth 20000 in
theorem C_r_alterRow (l : Launch) (G : GG) (a1 : Int32) (a2 : Int32) (a3 : Int32) (m : M) {z : Int32 × M} (hz : r_alterRow a1 a2 a3 m = some z) : Ct l G yX12_alterRow cX12_alterRow 5 (some .int) 3 [.ref (G.2.1 76), .int a1, .int a2, .int a3] m (some (.int z.1)) z.2 :=
  ct_of (K := KWi) (by decide) (Nat.le_of_ble_eq_true rfl) (congrArg (fun q => Option.bind q _) hz) (fun x hl hn E => (t_r_alterRow E hn a1 a2 a3 m))
theorem dX12_isAct_0 : decode cX12_isAct 0 = .ok (.iload_n 1, 1) := by decide +kernel
theorem dX12_isAct_1 : decode cX12_isAct 1 = .ok (.iconst 0, 1) := by decide +kernel
theorem dX12_isAct_2 : decode cX12_isAct 2 = .ok (.aload_n 0, 1) := by decide +kernel
theorem dX12_isAct_3 : decode cX12_isAct 3 = .ok (.getfield 9, 3) := by decide +kernel
theorem dX12_isAct_6 : decode cX12_isAct 6 = .ok (.bipush 6, 2) := by decide +kernel
theorem dX12_isAct_8 : decode cX12_isAct 8 = .ok (.iaload, 1) := by decide +kernel
theorem dX12_isAct_9 : decode cX12_isAct 9 = .ok (.invokestatic 71, 3) := by decide +kernel
theorem dX12_isAct_12 : decode cX12_isAct 12 = .ok (.ireturn, 1) := by decide +kernel
def r_isAct (a1 : Int32) (m : M) : Option (Int32) :=
  Option.bind (rdI m 77 (6 : Int32)) (fun v1 => Option.bind (r_in1 a1 (0 : Int32) v1 m) (fun v2 => some (v2 &&& 1)))
set_option maxRecDepth 20000 in
theorem t_r_isAct {G : GG} {x : Cx} (E : En G x cX12_isAct "WreckBoardModel" 2 (some .boolean)) (hn : xn x = 2) (a1 : Int32) (m : M) : Sm G x 0 [(0, .ref (G.2.1 76)), (1, .int a1)] [] m (r_isAct a1 m) (KRi m) := by
  unfold r_isAct
  refine s_iload_n 1 E dX12_isAct_0 rfl rfl ?_
  refine s_iconst (v := (0 : Int32)) E dX12_isAct_1 (by decide) ?_
  refine s_aload_n 0 E dX12_isAct_2 rfl rfl ?_
  refine s_getr (k := 0) (T := TX12) 76 E rfl rfl rfl inX12 (by decide) W1239 dX12_isAct_3 ?_
  refine s_bipush (v := (6 : Int32)) E dX12_isAct_6 (by decide) ?_
  refine s_iald E dX12_isAct_8 (fun v1 => ?_)
  refine s_bd (fun v2 hz => ?_)
  refine s_cS (rest := []) E (C_r_in1 (xl x) G a1 (0 : Int32) v1 m hz) mdX12_in1 W1359 W1360 W103 W1361 rfl rfl (Nat.le_of_ble_eq_true rfl) ⟨by decide, by decide⟩ dX12_isAct_9 ?_
  exact s_zretN E rfl dX12_isAct_12
set_option maxRecDepth 20000 in
theorem C_r_isAct (l : Launch) (G : GG) (a1 : Int32) (m : M) {z : Int32} (hz : r_isAct a1 m = some z) : Ct l G yX12_isAct cX12_isAct 2 (some .boolean) 2 [.ref (G.2.1 76), .int a1] m (some (.int z)) m :=
  ct_of (K := (KRi m)) (by decide) (Nat.le_of_ble_eq_true rfl) (congrArg (fun q => Option.bind q _) hz) (fun x hl hn E => (t_r_isAct E hn a1 m))
theorem mdX12_isAct : mdq yX12_isAct 1 := ⟨by decide, by decide, by decide +kernel⟩
theorem dX12_judge_0 : decode cX12_judge 0 = .ok (.aload_n 0, 1) := by decide +kernel
theorem dX12_judge_1 : decode cX12_judge 1 = .ok (.invokevirtual 241, 3) := by decide +kernel
theorem dX12_judge_4 : decode cX12_judge 4 = .ok (.iconst 0, 1) := by decide +kernel
theorem dX12_judge_5 : decode cX12_judge 5 = .ok (.istore_n 1, 1) := by decide +kernel
theorem dX12_judge_6 : decode cX12_judge 6 = .ok (.iconst 0, 1) := by decide +kernel
theorem dX12_judge_7 : decode cX12_judge 7 = .ok (.istore_n 2, 1) := by decide +kernel
theorem dX12_judge_8 : decode cX12_judge 8 = .ok (.iload_n 2, 1) := by decide +kernel
theorem dX12_judge_9 : decode cX12_judge 9 = .ok (.aload_n 0, 1) := by decide +kernel
theorem dX12_judge_10 : decode cX12_judge 10 = .ok (.getfield 320, 3) := by decide +kernel
theorem dX12_judge_13 : decode cX12_judge 13 = .ok (.if_icmp .ge 120, 3) := by decide +kernel
theorem dX12_judge_16 : decode cX12_judge 16 = .ok (.iload_n 1, 1) := by decide +kernel
theorem dX12_judge_17 : decode cX12_judge 17 = .ok (.ifCond .ne 116, 3) := by decide +kernel
theorem dX12_judge_20 : decode cX12_judge 20 = .ok (.aload_n 0, 1) := by decide +kernel
theorem dX12_judge_21 : decode cX12_judge 21 = .ok (.aload_n 0, 1) := by decide +kernel
theorem dX12_judge_22 : decode cX12_judge 22 = .ok (.getfield 50, 3) := by decide +kernel
theorem dX12_judge_25 : decode cX12_judge 25 = .ok (.iconst 3, 1) := by decide +kernel
theorem dX12_judge_26 : decode cX12_judge 26 = .ok (.iload_n 2, 1) := by decide +kernel
theorem dX12_judge_27 : decode cX12_judge 27 = .ok (.imul, 1) := by decide +kernel
theorem dX12_judge_28 : decode cX12_judge 28 = .ok (.iaload, 1) := by decide +kernel
theorem dX12_judge_29 : decode cX12_judge 29 = .ok (.invokevirtual 326, 3) := by decide +kernel
theorem dX12_judge_32 : decode cX12_judge 32 = .ok (.ifCond .eq 14, 3) := by decide +kernel
theorem dX12_judge_35 : decode cX12_judge 35 = .ok (.aload_n 0, 1) := by decide +kernel
theorem dX12_judge_36 : decode cX12_judge 36 = .ok (.invokevirtual 232, 3) := by decide +kernel
theorem dX12_judge_39 : decode cX12_judge 39 = .ok (.ifCond .ne 7, 3) := by decide +kernel
theorem dX12_judge_42 : decode cX12_judge 42 = .ok (.iconst 1, 1) := by decide +kernel
theorem dX12_judge_43 : decode cX12_judge 43 = .ok (.goto 4, 3) := by decide +kernel
theorem dX12_judge_46 : decode cX12_judge 46 = .ok (.iconst 0, 1) := by decide +kernel
theorem dX12_judge_47 : decode cX12_judge 47 = .ok (.istore_n 3, 1) := by decide +kernel
theorem dX12_judge_48 : decode cX12_judge 48 = .ok (.iload_n 3, 1) := by decide +kernel
theorem dX12_judge_49 : decode cX12_judge 49 = .ok (.ifCond .eq 18, 3) := by decide +kernel
theorem dX12_judge_52 : decode cX12_judge 52 = .ok (.aload_n 0, 1) := by decide +kernel
theorem dX12_judge_53 : decode cX12_judge 53 = .ok (.aload_n 0, 1) := by decide +kernel
theorem dX12_judge_54 : decode cX12_judge 54 = .ok (.getfield 50, 3) := by decide +kernel
theorem dX12_judge_57 : decode cX12_judge 57 = .ok (.iconst 3, 1) := by decide +kernel
theorem dX12_judge_58 : decode cX12_judge 58 = .ok (.iload_n 2, 1) := by decide +kernel
theorem dX12_judge_59 : decode cX12_judge 59 = .ok (.imul, 1) := by decide +kernel
theorem dX12_judge_60 : decode cX12_judge 60 = .ok (.iaload, 1) := by decide +kernel
theorem dX12_judge_61 : decode cX12_judge 61 = .ok (.invokevirtual 238, 3) := by decide +kernel
theorem dX12_judge_64 : decode cX12_judge 64 = .ok (.goto 4, 3) := by decide +kernel
theorem dX12_judge_67 : decode cX12_judge 67 = .ok (.iconst 0, 1) := by decide +kernel
theorem dX12_judge_68 : decode cX12_judge 68 = .ok (.istore 4, 2) := by decide +kernel
theorem dX12_judge_70 : decode cX12_judge 70 = .ok (.iload_n 3, 1) := by decide +kernel
theorem dX12_judge_71 : decode cX12_judge 71 = .ok (.ifCond .eq 40, 3) := by decide +kernel
theorem dX12_judge_74 : decode cX12_judge 74 = .ok (.iload 4, 2) := by decide +kernel
theorem dX12_judge_76 : decode cX12_judge 76 = .ok (.aload_n 0, 1) := by decide +kernel
theorem dX12_judge_77 : decode cX12_judge 77 = .ok (.getfield 50, 3) := by decide +kernel
theorem dX12_judge_80 : decode cX12_judge 80 = .ok (.iconst 3, 1) := by decide +kernel
theorem dX12_judge_81 : decode cX12_judge 81 = .ok (.iload_n 2, 1) := by decide +kernel
theorem dX12_judge_82 : decode cX12_judge 82 = .ok (.imul, 1) := by decide +kernel
theorem dX12_judge_83 : decode cX12_judge 83 = .ok (.iconst 1, 1) := by decide +kernel
theorem dX12_judge_84 : decode cX12_judge 84 = .ok (.iadd, 1) := by decide +kernel
theorem dX12_judge_85 : decode cX12_judge 85 = .ok (.iaload, 1) := by decide +kernel
theorem dX12_judge_86 : decode cX12_judge 86 = .ok (.if_icmp .ne 25, 3) := by decide +kernel
theorem dX12_judge_89 : decode cX12_judge 89 = .ok (.aload_n 0, 1) := by decide +kernel
theorem dX12_judge_90 : decode cX12_judge 90 = .ok (.iconst 4, 1) := by decide +kernel
theorem dX12_judge_91 : decode cX12_judge 91 = .ok (.invokevirtual 235, 3) := by decide +kernel
theorem dX12_judge_94 : decode cX12_judge 94 = .ok (.aload_n 0, 1) := by decide +kernel
theorem dX12_judge_95 : decode cX12_judge 95 = .ok (.getfield 50, 3) := by decide +kernel
theorem dX12_judge_98 : decode cX12_judge 98 = .ok (.iconst 3, 1) := by decide +kernel
theorem dX12_judge_99 : decode cX12_judge 99 = .ok (.iload_n 2, 1) := by decide +kernel
theorem dX12_judge_100 : decode cX12_judge 100 = .ok (.imul, 1) := by decide +kernel
theorem dX12_judge_101 : decode cX12_judge 101 = .ok (.iconst 2, 1) := by decide +kernel
theorem dX12_judge_102 : decode cX12_judge 102 = .ok (.iadd, 1) := by decide +kernel
theorem dX12_judge_103 : decode cX12_judge 103 = .ok (.iaload, 1) := by decide +kernel
theorem dX12_judge_104 : decode cX12_judge 104 = .ok (.if_icmp .ne 7, 3) := by decide +kernel
theorem dX12_judge_107 : decode cX12_judge 107 = .ok (.iconst 1, 1) := by decide +kernel
theorem dX12_judge_108 : decode cX12_judge 108 = .ok (.goto 4, 3) := by decide +kernel
theorem dX12_judge_111 : decode cX12_judge 111 = .ok (.iconst 0, 1) := by decide +kernel
theorem dX12_judge_112 : decode cX12_judge 112 = .ok (.istore 5, 2) := by decide +kernel
theorem dX12_judge_114 : decode cX12_judge 114 = .ok (.iload 5, 2) := by decide +kernel
theorem dX12_judge_116 : decode cX12_judge 116 = .ok (.ifCond .eq 7, 3) := by decide +kernel
theorem dX12_judge_119 : decode cX12_judge 119 = .ok (.iconst 0, 1) := by decide +kernel
theorem dX12_judge_120 : decode cX12_judge 120 = .ok (.goto 6, 3) := by decide +kernel
theorem dX12_judge_123 : decode cX12_judge 123 = .ok (.iconst 1, 1) := by decide +kernel
theorem dX12_judge_124 : decode cX12_judge 124 = .ok (.iload_n 2, 1) := by decide +kernel
theorem dX12_judge_125 : decode cX12_judge 125 = .ok (.iadd, 1) := by decide +kernel
theorem dX12_judge_126 : decode cX12_judge 126 = .ok (.istore_n 1, 1) := by decide +kernel
theorem dX12_judge_127 : decode cX12_judge 127 = .ok (.iinc 2 1, 3) := by decide +kernel
theorem dX12_judge_130 : decode cX12_judge 130 = .ok (.goto (-122), 3) := by decide +kernel
theorem dX12_judge_133 : decode cX12_judge 133 = .ok (.aload_n 0, 1) := by decide +kernel
theorem dX12_judge_134 : decode cX12_judge 134 = .ok (.invokevirtual 247, 3) := by decide +kernel
theorem dX12_judge_137 : decode cX12_judge 137 = .ok (.iload_n 1, 1) := by decide +kernel
theorem dX12_judge_138 : decode cX12_judge 138 = .ok (.ireturn, 1) := by decide +kernel
def r_judge_126 (a2 : Int32) (s0 : Int32) (m : M) : Option ((Int32 × Int32 × M) ⊕ ((Int32 × M))) :=
  lt (a2 + (1 : Int32)) (fun w1 : Int32 => some (.inl (s0, w1, m)))
set_option maxRecDepth 20000 in
theorem t_r_judge_126 {G : GG} {x : Cx} {K : ((Int32 × Int32 × M) ⊕ ((Int32 × M))) → Option (Option Value × M)} (E : En G x cX12_judge "WreckBoardModel" 9 (some .int)) (hn : xn x = 6) (a2 : Int32) (s0 : Int32) (m : M) (hb : ∀ z : Int32 × Int32 × M, Sm G x 8 [(0, .ref (G.2.1 76)), (1, .int z.1), (2, .int z.2.1)] [] z.2.2 (some (.inl z)) K) (hx0 : ∀ z : Int32 × M, Sm G x 133 [(0, .ref (G.2.1 76)), (1, .int z.1)] [] z.2 (some (.inr z)) K) : Sm G x 126 [(0, .ref (G.2.1 76)), (2, .int a2)] [.int s0] m (r_judge_126 a2 s0 m) K := by
  unfold r_judge_126
  refine s_istore_n (lv' := [(0, .ref (G.2.1 76)), (1, .int s0), (2, .int a2)]) [1, 0, 2] E dX12_judge_126 rfl (by rw [hn]; decide) rfl ?_
  refine s_iincL (v := (1 : Int32)) 2 [1, 2, 0] (fun w1 => [(0, .ref (G.2.1 76)), (1, .int s0), (2, .int w1)]) E dX12_judge_127 rfl (by decide) (by rw [hn]; decide) (fun _ => rfl) (fun w1 => ?_)
  refine s_goto 8 E dX12_judge_130 (by decide) ?_
  exact hb (s0, w1, m)
def r_judge_112 (a2 : Int32) (s0 : Int32) (m : M) : Option ((Int32 × Int32 × M) ⊕ ((Int32 × M))) :=
  (if s0 = 0 then r_judge_126 a2 ((1 : Int32) + a2) m else r_judge_126 a2 (0 : Int32) m)
set_option maxRecDepth 20000 in
theorem t_r_judge_112 {G : GG} {x : Cx} {K : ((Int32 × Int32 × M) ⊕ ((Int32 × M))) → Option (Option Value × M)} (E : En G x cX12_judge "WreckBoardModel" 9 (some .int)) (hn : xn x = 6) (a2 : Int32) (s0 : Int32) (m : M) (hb : ∀ z : Int32 × Int32 × M, Sm G x 8 [(0, .ref (G.2.1 76)), (1, .int z.1), (2, .int z.2.1)] [] z.2.2 (some (.inl z)) K) (hx0 : ∀ z : Int32 × M, Sm G x 133 [(0, .ref (G.2.1 76)), (1, .int z.1)] [] z.2 (some (.inr z)) K) : Sm G x 112 [(0, .ref (G.2.1 76)), (2, .int a2)] [.int s0] m (r_judge_112 a2 s0 m) K := by
  unfold r_judge_112
  refine s_istore (lv' := [(0, .ref (G.2.1 76)), (2, .int a2), (5, .int s0)]) [1, 2, 0] E dX12_judge_112 (by rw [hn]; decide) rfl ?_
  refine s_iload 2 E dX12_judge_114 rfl ?_
  refine s_if_eq 123 E dX12_judge_116 (by decide) ?_ ?_
  · refine s_iconst (v := (1 : Int32)) E dX12_judge_123 (by decide) ?_
    refine s_iload_n 1 E dX12_judge_124 rfl rfl ?_
    refine s_iadd E dX12_judge_125 ?_
    refine s_sub (lv' := [(0, .ref (G.2.1 76)), (2, .int a2)]) [0, 1] rfl ?_
    exact t_r_judge_126 E hn a2 ((1 : Int32) + a2) m hb hx0
  · refine s_iconst (v := (0 : Int32)) E dX12_judge_119 (by decide) ?_
    refine s_goto 126 E dX12_judge_120 (by decide) ?_
    refine s_sub (lv' := [(0, .ref (G.2.1 76)), (2, .int a2)]) [0, 1] rfl ?_
    exact t_r_judge_126 E hn a2 (0 : Int32) m hb hx0
def r_judge_111 (a2 : Int32) (m : M) : Option ((Int32 × Int32 × M) ⊕ ((Int32 × M))) :=
  r_judge_112 a2 (0 : Int32) m
set_option maxRecDepth 20000 in
theorem t_r_judge_111 {G : GG} {x : Cx} {K : ((Int32 × Int32 × M) ⊕ ((Int32 × M))) → Option (Option Value × M)} (E : En G x cX12_judge "WreckBoardModel" 9 (some .int)) (hn : xn x = 6) (a2 : Int32) (m : M) (hb : ∀ z : Int32 × Int32 × M, Sm G x 8 [(0, .ref (G.2.1 76)), (1, .int z.1), (2, .int z.2.1)] [] z.2.2 (some (.inl z)) K) (hx0 : ∀ z : Int32 × M, Sm G x 133 [(0, .ref (G.2.1 76)), (1, .int z.1)] [] z.2 (some (.inr z)) K) : Sm G x 111 [(0, .ref (G.2.1 76)), (2, .int a2)] [] m (r_judge_111 a2 m) K := by
  unfold r_judge_111
  refine s_iconst (v := (0 : Int32)) E dX12_judge_111 (by decide) ?_
  exact t_r_judge_112 E hn a2 (0 : Int32) m hb hx0
def r_judge_68 (a2 : Int32) (a3 : Int32) (s0 : Int32) (m : M) : Option ((Int32 × Int32 × M) ⊕ ((Int32 × M))) :=
  (if a3 = 0 then r_judge_111 a2 m else Option.bind (rdI m 90 (((3 : Int32) * a2) + (1 : Int32))) (fun v1 => (if s0 = v1 then Option.bind (r_those (4 : Int32) m) (fun v2 => Option.bind (rdI m 90 (((3 : Int32) * a2) + (2 : Int32))) (fun v3 => (if v2 = v3 then r_judge_112 a2 (1 : Int32) m else r_judge_111 a2 m))) else r_judge_111 a2 m)))
set_option maxRecDepth 20000 in
theorem t_r_judge_68 {G : GG} {x : Cx} {K : ((Int32 × Int32 × M) ⊕ ((Int32 × M))) → Option (Option Value × M)} (E : En G x cX12_judge "WreckBoardModel" 9 (some .int)) (hn : xn x = 6) (a2 : Int32) (a3 : Int32) (s0 : Int32) (m : M) (hb : ∀ z : Int32 × Int32 × M, Sm G x 8 [(0, .ref (G.2.1 76)), (1, .int z.1), (2, .int z.2.1)] [] z.2.2 (some (.inl z)) K) (hx0 : ∀ z : Int32 × M, Sm G x 133 [(0, .ref (G.2.1 76)), (1, .int z.1)] [] z.2 (some (.inr z)) K) : Sm G x 68 [(0, .ref (G.2.1 76)), (2, .int a2), (3, .int a3)] [.int s0] m (r_judge_68 a2 a3 s0 m) K := by
  unfold r_judge_68
  refine s_istore (lv' := [(0, .ref (G.2.1 76)), (2, .int a2), (3, .int a3), (4, .int s0)]) [1, 2, 3, 0] E dX12_judge_68 (by rw [hn]; decide) rfl ?_
  refine s_iload_n 2 E dX12_judge_70 rfl rfl ?_
  refine s_if_eq 111 E dX12_judge_71 (by decide) ?_ ?_
  · refine s_sub (lv' := [(0, .ref (G.2.1 76)), (2, .int a2)]) [0, 1] rfl ?_
    exact t_r_judge_111 E hn a2 m hb hx0
  · refine s_iload 3 E dX12_judge_74 rfl ?_
    refine s_aload_n 0 E dX12_judge_76 rfl rfl ?_
    refine s_getr (k := 27) (T := TX12) 76 E rfl rfl rfl inX12 (by decide) W1266 dX12_judge_77 ?_
    refine s_iconst (v := (3 : Int32)) E dX12_judge_80 (by decide) ?_
    refine s_iload_n 1 E dX12_judge_81 rfl rfl ?_
    refine s_imul E dX12_judge_82 ?_
    refine s_iconst (v := (1 : Int32)) E dX12_judge_83 (by decide) ?_
    refine s_iadd E dX12_judge_84 ?_
    refine s_iald E dX12_judge_85 (fun v1 => ?_)
    refine s_icmp_ne 111 E dX12_judge_86 (by decide) ?_ ?_
    · refine s_sub (lv' := [(0, .ref (G.2.1 76)), (2, .int a2)]) [0, 1] rfl ?_
      exact t_r_judge_111 E hn a2 m hb hx0
    · refine s_aload_n 0 E dX12_judge_89 rfl rfl ?_
      refine s_iconst (v := (4 : Int32)) E dX12_judge_90 (by decide) ?_
      refine s_bd (fun v2 hz => ?_)
      refine s_cV (rest := []) E (C_r_those (xl x) G (4 : Int32) m hz) mdX12_those W1549 W1551 W58 W103 W1552 rfl rfl rfl rfl (Nat.le_of_ble_eq_true rfl) ⟨by decide, by decide⟩ dX12_judge_91 ?_
      refine s_aload_n 0 E dX12_judge_94 rfl rfl ?_
      refine s_getr (k := 27) (T := TX12) 76 E rfl rfl rfl inX12 (by decide) W1266 dX12_judge_95 ?_
      refine s_iconst (v := (3 : Int32)) E dX12_judge_98 (by decide) ?_
      refine s_iload_n 1 E dX12_judge_99 rfl rfl ?_
      refine s_imul E dX12_judge_100 ?_
      refine s_iconst (v := (2 : Int32)) E dX12_judge_101 (by decide) ?_
      refine s_iadd E dX12_judge_102 ?_
      refine s_iald E dX12_judge_103 (fun v3 => ?_)
      refine s_icmp_ne 111 E dX12_judge_104 (by decide) ?_ ?_
      · refine s_sub (lv' := [(0, .ref (G.2.1 76)), (2, .int a2)]) [0, 1] rfl ?_
        exact t_r_judge_111 E hn a2 m hb hx0
      · refine s_iconst (v := (1 : Int32)) E dX12_judge_107 (by decide) ?_
        refine s_goto 112 E dX12_judge_108 (by decide) ?_
        refine s_sub (lv' := [(0, .ref (G.2.1 76)), (2, .int a2)]) [0, 1] rfl ?_
        exact t_r_judge_112 E hn a2 (1 : Int32) m hb hx0
def r_judge_47 (a2 : Int32) (s0 : Int32) (m : M) : Option ((Int32 × Int32 × M) ⊕ ((Int32 × M))) :=
  (if s0 = 0 then r_judge_68 a2 s0 (0 : Int32) m else Option.bind (rdI m 90 ((3 : Int32) * a2)) (fun v1 => Option.bind (r_goesBy v1 m) (fun z2 => r_judge_68 a2 s0 z2.1 z2.2)))
set_option maxRecDepth 20000 in
theorem t_r_judge_47 {G : GG} {x : Cx} {K : ((Int32 × Int32 × M) ⊕ ((Int32 × M))) → Option (Option Value × M)} (E : En G x cX12_judge "WreckBoardModel" 9 (some .int)) (hn : xn x = 6) (a2 : Int32) (s0 : Int32) (m : M) (hb : ∀ z : Int32 × Int32 × M, Sm G x 8 [(0, .ref (G.2.1 76)), (1, .int z.1), (2, .int z.2.1)] [] z.2.2 (some (.inl z)) K) (hx0 : ∀ z : Int32 × M, Sm G x 133 [(0, .ref (G.2.1 76)), (1, .int z.1)] [] z.2 (some (.inr z)) K) : Sm G x 47 [(0, .ref (G.2.1 76)), (2, .int a2)] [.int s0] m (r_judge_47 a2 s0 m) K := by
  unfold r_judge_47
  refine s_istore_n (lv' := [(0, .ref (G.2.1 76)), (2, .int a2), (3, .int s0)]) [1, 2, 0] E dX12_judge_47 rfl (by rw [hn]; decide) rfl ?_
  refine s_iload_n 2 E dX12_judge_48 rfl rfl ?_
  refine s_if_eq 67 E dX12_judge_49 (by decide) ?_ ?_
  · refine s_iconst (v := (0 : Int32)) E dX12_judge_67 (by decide) ?_
    exact t_r_judge_68 E hn a2 s0 (0 : Int32) m hb hx0
  · refine s_aload_n 0 E dX12_judge_52 rfl rfl ?_
    refine s_aload_n 0 E dX12_judge_53 rfl rfl ?_
    refine s_getr (k := 27) (T := TX12) 76 E rfl rfl rfl inX12 (by decide) W1266 dX12_judge_54 ?_
    refine s_iconst (v := (3 : Int32)) E dX12_judge_57 (by decide) ?_
    refine s_iload_n 1 E dX12_judge_58 rfl rfl ?_
    refine s_imul E dX12_judge_59 ?_
    refine s_iald E dX12_judge_60 (fun v1 => ?_)
    refine s_bd (fun z2 hz => ?_)
    refine s_cV (rest := []) E (C_r_goesBy (xl x) G v1 m hz) mdX12_goesBy W1557 W1559 W59 W103 W1560 rfl rfl rfl rfl (Nat.le_of_ble_eq_true rfl) ⟨by decide, by decide⟩ dX12_judge_61 ?_
    refine s_goto 68 E dX12_judge_64 (by decide) ?_
    exact t_r_judge_68 E hn a2 s0 z2.1 z2.2 hb hx0
def r_judge_46 (a2 : Int32) (m : M) : Option ((Int32 × Int32 × M) ⊕ ((Int32 × M))) :=
  r_judge_47 a2 (0 : Int32) m
set_option maxRecDepth 20000 in
theorem t_r_judge_46 {G : GG} {x : Cx} {K : ((Int32 × Int32 × M) ⊕ ((Int32 × M))) → Option (Option Value × M)} (E : En G x cX12_judge "WreckBoardModel" 9 (some .int)) (hn : xn x = 6) (a2 : Int32) (m : M) (hb : ∀ z : Int32 × Int32 × M, Sm G x 8 [(0, .ref (G.2.1 76)), (1, .int z.1), (2, .int z.2.1)] [] z.2.2 (some (.inl z)) K) (hx0 : ∀ z : Int32 × M, Sm G x 133 [(0, .ref (G.2.1 76)), (1, .int z.1)] [] z.2 (some (.inr z)) K) : Sm G x 46 [(0, .ref (G.2.1 76)), (2, .int a2)] [] m (r_judge_46 a2 m) K := by
  unfold r_judge_46
  refine s_iconst (v := (0 : Int32)) E dX12_judge_46 (by decide) ?_
  exact t_r_judge_47 E hn a2 (0 : Int32) m hb hx0
def r_judge_8b (a1 : Int32) (a2 : Int32) (m : M) : Option ((Int32 × Int32 × M) ⊕ ((Int32 × M))) :=
  (if (m 76 28) ≤ a2 then some (.inr (a1, m)) else (if a1 = 0 then Option.bind (rdI m 90 ((3 : Int32) * a2)) (fun v1 => Option.bind (r_isAct v1 m) (fun v2 => (if v2 = 0 then r_judge_46 a2 m else Option.bind (r_isOver m) (fun v3 => (if v3 = 0 then r_judge_47 a2 (1 : Int32) m else r_judge_46 a2 m))))) else some (.inr (a1, m))))
set_option maxRecDepth 20000 in
theorem t_r_judge_8b {G : GG} {x : Cx} {K : ((Int32 × Int32 × M) ⊕ ((Int32 × M))) → Option (Option Value × M)} (E : En G x cX12_judge "WreckBoardModel" 9 (some .int)) (hn : xn x = 6) (a1 : Int32) (a2 : Int32) (m : M) (hb : ∀ z : Int32 × Int32 × M, Sm G x 8 [(0, .ref (G.2.1 76)), (1, .int z.1), (2, .int z.2.1)] [] z.2.2 (some (.inl z)) K) (hx0 : ∀ z : Int32 × M, Sm G x 133 [(0, .ref (G.2.1 76)), (1, .int z.1)] [] z.2 (some (.inr z)) K) : Sm G x 8 [(0, .ref (G.2.1 76)), (1, .int a1), (2, .int a2)] [] m (r_judge_8b a1 a2 m) K := by
  unfold r_judge_8b
  refine s_iload_n 2 E dX12_judge_8 rfl rfl ?_
  refine s_aload_n 0 E dX12_judge_9 rfl rfl ?_
  refine s_geti (k := 28) (T := TX12) 76 E rfl rfl rfl inX12 (by decide) W1267 dX12_judge_10 ?_
  refine s_icmp_ge 133 E dX12_judge_13 (by decide) ?_ ?_
  · refine s_sub (lv' := [(0, .ref (G.2.1 76)), (1, .int a1)]) [0, 1] rfl ?_
    exact hx0 (a1, m)
  · refine s_iload_n 1 E dX12_judge_16 rfl rfl ?_
    refine s_if_ne 133 E dX12_judge_17 (by decide) ?_ ?_
    · refine s_sub (lv' := [(0, .ref (G.2.1 76)), (1, .int a1)]) [0, 1] rfl ?_
      exact hx0 (a1, m)
    · refine s_aload_n 0 E dX12_judge_20 rfl rfl ?_
      refine s_aload_n 0 E dX12_judge_21 rfl rfl ?_
      refine s_getr (k := 27) (T := TX12) 76 E rfl rfl rfl inX12 (by decide) W1266 dX12_judge_22 ?_
      refine s_iconst (v := (3 : Int32)) E dX12_judge_25 (by decide) ?_
      refine s_iload_n 2 E dX12_judge_26 rfl rfl ?_
      refine s_imul E dX12_judge_27 ?_
      refine s_iald E dX12_judge_28 (fun v1 => ?_)
      refine s_bd (fun v2 hz => ?_)
      refine s_cV (rest := []) E (C_r_isAct (xl x) G v1 m hz) mdX12_isAct W1765 W1767 W81 W103 W1768 rfl rfl rfl rfl (Nat.le_of_ble_eq_true rfl) ⟨by decide, by decide⟩ dX12_judge_29 ?_
      refine s_if_eq 46 E dX12_judge_32 (by decide) ?_ ?_
      · refine s_sub (lv' := [(0, .ref (G.2.1 76)), (2, .int a2)]) [0, 2] rfl ?_
        exact t_r_judge_46 E hn a2 m hb hx0
      · refine s_aload_n 0 E dX12_judge_35 rfl rfl ?_
        refine s_bd (fun v3 hz => ?_)
        refine s_cV (rest := []) E (C_r_isOver (xl x) G  m hz) mdX12_isOver W1545 W1547 W57 W103 W1548 rfl rfl rfl rfl (Nat.le_of_ble_eq_true rfl) ⟨by decide, by decide⟩ dX12_judge_36 ?_
        refine s_if_ne 46 E dX12_judge_39 (by decide) ?_ ?_
        · refine s_sub (lv' := [(0, .ref (G.2.1 76)), (2, .int a2)]) [0, 2] rfl ?_
          exact t_r_judge_46 E hn a2 m hb hx0
        · refine s_iconst (v := (1 : Int32)) E dX12_judge_42 (by decide) ?_
          refine s_goto 47 E dX12_judge_43 (by decide) ?_
          refine s_sub (lv' := [(0, .ref (G.2.1 76)), (2, .int a2)]) [0, 2] rfl ?_
          exact t_r_judge_47 E hn a2 (1 : Int32) m hb hx0
def r_judge_133 (a1 : Int32) (m : M) : Option (Int32 × M) :=
  Option.bind (r_layBack m) (fun m1 => some (a1, m1))
set_option maxRecDepth 20000 in
theorem t_r_judge_133 {G : GG} {x : Cx} (E : En G x cX12_judge "WreckBoardModel" 9 (some .int)) (hn : xn x = 6) (a1 : Int32) (m : M) : Sm G x 133 [(0, .ref (G.2.1 76)), (1, .int a1)] [] m (r_judge_133 a1 m) KWi := by
  unfold r_judge_133
  refine s_aload_n 0 E dX12_judge_133 rfl rfl ?_
  refine s_bd (fun m1 hz => ?_)
  refine s_cV (rest := []) E (C_r_layBack (xl x) G  m hz) mdX12_layBack W1590 W1592 W64 W103 W1593 rfl rfl rfl rfl (Nat.le_of_ble_eq_true rfl) ⟨by decide, by decide⟩ dX12_judge_134 ?_
  refine s_iload_n 1 E dX12_judge_137 rfl rfl ?_
  exact s_iret E rfl dX12_judge_138
def r_judge_8 (a1 : Int32) (a2 : Int32) (m : M) : Option (Int32 × M) :=
  Option.bind (iter (fun z => r_judge_8b z.1 z.2.1 z.2.2) FU (a1, a2, m)) (fun r => r_judge_133 r.1 r.2)
set_option maxRecDepth 20000 in
theorem t_r_judge_8 {G : GG} {x : Cx} (E : En G x cX12_judge "WreckBoardModel" 9 (some .int)) (hn : xn x = 6) (a1 : Int32) (a2 : Int32) (m : M) : Sm G x 8 [(0, .ref (G.2.1 76)), (1, .int a1), (2, .int a2)] [] m (r_judge_8 a1 a2 m) KWi := by
  unfold r_judge_8
  refine s_loop (fun z => [(0, .ref (G.2.1 76)), (1, .int z.1), (2, .int z.2.1)]) (fun z => z.2.2) (fun K2 hb2 hr2 z => ?_) FU (a1, a2, m)
  refine t_r_judge_8b (K := K2) E hn z.1 z.2.1 z.2.2 hb2 (fun r => s_out (hr2 r) ?_)
  · exact t_r_judge_133 E hn r.1 r.2
def r_judge  (m : M) : Option (Int32 × M) :=
  Option.bind (r_layDown m) (fun m1 => r_judge_8 (0 : Int32) (0 : Int32) m1)
set_option maxRecDepth 20000 in
theorem t_r_judge {G : GG} {x : Cx} (E : En G x cX12_judge "WreckBoardModel" 9 (some .int)) (hn : xn x = 6)  (m : M) : Sm G x 0 [(0, .ref (G.2.1 76))] [] m (r_judge m) KWi := by
  unfold r_judge
  refine s_aload_n 0 E dX12_judge_0 rfl rfl ?_
  refine s_bd (fun m1 hz => ?_)
  refine s_cV (rest := []) E (C_r_layDown (xl x) G  m hz) mdX12_layDown W1582 W1584 W62 W103 W1585 rfl rfl rfl rfl (Nat.le_of_ble_eq_true rfl) ⟨by decide, by decide⟩ dX12_judge_1 ?_
  refine s_iconst (v := (0 : Int32)) E dX12_judge_4 (by decide) ?_
  refine s_istore_n (lv' := [(0, .ref (G.2.1 76)), (1, .int (0 : Int32))]) [1, 0] E dX12_judge_5 rfl (by rw [hn]; decide) rfl ?_
  refine s_iconst (v := (0 : Int32)) E dX12_judge_6 (by decide) ?_
  refine s_istore_n (lv' := [(0, .ref (G.2.1 76)), (1, .int (0 : Int32)), (2, .int (0 : Int32))]) [1, 2, 0] E dX12_judge_7 rfl (by rw [hn]; decide) rfl ?_
  exact t_r_judge_8 E hn (0 : Int32) (0 : Int32) m1
set_option maxRecDepth 20000 in
theorem C_r_judge (l : Launch) (G : GG)  (m : M) {z : Int32 × M} (hz : r_judge m = some z) : Ct l G yX12_judge cX12_judge 6 (some .int) 9 [.ref (G.2.1 76)] m (some (.int z.1)) z.2 :=
  ct_of (K := KWi) (by decide) (Nat.le_of_ble_eq_true rfl) (congrArg (fun q => Option.bind q _) hz) (fun x hl hn E => (t_r_judge E hn  m))
theorem dX12_isSheet_0 : decode cX12_isSheet 0 = .ok (.iload_n 0, 1) := by decide +kernel
theorem dX12_isSheet_1 : decode cX12_isSheet 1 = .ok (.iconst 0, 1) := by decide +kernel
theorem dX12_isSheet_2 : decode cX12_isSheet 2 = .ok (.iconst 3, 1) := by decide +kernel
theorem dX12_isSheet_3 : decode cX12_isSheet 3 = .ok (.invokestatic 71, 3) := by decide +kernel
theorem dX12_isSheet_6 : decode cX12_isSheet 6 = .ok (.ireturn, 1) := by decide +kernel
def r_isSheet (a0 : Int32) (m : M) : Option (Int32) :=
  Option.bind (r_in1 a0 (0 : Int32) (3 : Int32) m) (fun v1 => some (v1 &&& 1))
set_option maxRecDepth 20000 in
theorem t_r_isSheet {G : GG} {x : Cx} (E : En G x cX12_isSheet "WreckBoardModel" 2 (some .boolean)) (hn : xn x = 1) (a0 : Int32) (m : M) : Sm G x 0 [(0, .int a0)] [] m (r_isSheet a0 m) (KRi m) := by
  unfold r_isSheet
  refine s_iload_n 0 E dX12_isSheet_0 rfl rfl ?_
  refine s_iconst (v := (0 : Int32)) E dX12_isSheet_1 (by decide) ?_
  refine s_iconst (v := (3 : Int32)) E dX12_isSheet_2 (by decide) ?_
  refine s_bd (fun v1 hz => ?_)
  refine s_cS (rest := []) E (C_r_in1 (xl x) G a0 (0 : Int32) (3 : Int32) m hz) mdX12_in1 W1359 W1360 W103 W1361 rfl rfl (Nat.le_of_ble_eq_true rfl) ⟨by decide, by decide⟩ dX12_isSheet_3 ?_
  exact s_zretN E rfl dX12_isSheet_6
set_option maxRecDepth 20000 in
theorem C_r_isSheet (l : Launch) (G : GG) (a0 : Int32) (m : M) {z : Int32} (hz : r_isSheet a0 m = some z) : Ct l G yX12_isSheet cX12_isSheet 1 (some .boolean) 2 [.int a0] m (some (.int z)) m :=
  ct_of (K := (KRi m)) (by decide) (Nat.le_of_ble_eq_true rfl) (congrArg (fun q => Option.bind q _) hz) (fun x hl hn E => (t_r_isSheet E hn a0 m))
theorem mdX12_isSheet : mdq yX12_isSheet 1 := ⟨by decide, by decide, by decide +kernel⟩
theorem dX12_sheet_0 : decode cX12_sheet 0 = .ok (.iload_n 1, 1) := by decide +kernel
theorem dX12_sheet_1 : decode cX12_sheet 1 = .ok (.invokestatic 329, 3) := by decide +kernel
theorem dX12_sheet_4 : decode cX12_sheet 4 = .ok (.ifCond .eq 22, 3) := by decide +kernel
theorem dX12_sheet_7 : decode cX12_sheet 7 = .ok (.iload_n 2, 1) := by decide +kernel
theorem dX12_sheet_8 : decode cX12_sheet 8 = .ok (.iconst (-1), 1) := by decide +kernel
theorem dX12_sheet_9 : decode cX12_sheet 9 = .ok (.iconst 4, 1) := by decide +kernel
theorem dX12_sheet_10 : decode cX12_sheet 10 = .ok (.invokestatic 71, 3) := by decide +kernel
theorem dX12_sheet_13 : decode cX12_sheet 13 = .ok (.ifCond .eq 13, 3) := by decide +kernel
theorem dX12_sheet_16 : decode cX12_sheet 16 = .ok (.iload_n 2, 1) := by decide +kernel
theorem dX12_sheet_17 : decode cX12_sheet 17 = .ok (.ifCond .lt 11, 3) := by decide +kernel
theorem dX12_sheet_20 : decode cX12_sheet 20 = .ok (.iload_n 3, 1) := by decide +kernel
theorem dX12_sheet_21 : decode cX12_sheet 21 = .ok (.bipush 40, 2) := by decide +kernel
theorem dX12_sheet_23 : decode cX12_sheet 23 = .ok (.if_icmp .le 5, 3) := by decide +kernel
theorem dX12_sheet_26 : decode cX12_sheet 26 = .ok (.iconst (-1), 1) := by decide +kernel
theorem dX12_sheet_27 : decode cX12_sheet 27 = .ok (.ireturn, 1) := by decide +kernel
theorem dX12_sheet_28 : decode cX12_sheet 28 = .ok (.iload_n 2, 1) := by decide +kernel
theorem dX12_sheet_29 : decode cX12_sheet 29 = .ok (.ifCond .lt 10, 3) := by decide +kernel
theorem dX12_sheet_32 : decode cX12_sheet 32 = .ok (.iload_n 3, 1) := by decide +kernel
theorem dX12_sheet_33 : decode cX12_sheet 33 = .ok (.ifCond .ge 6, 3) := by decide +kernel
theorem dX12_sheet_36 : decode cX12_sheet 36 = .ok (.bipush (-14), 2) := by decide +kernel
theorem dX12_sheet_38 : decode cX12_sheet 38 = .ok (.ireturn, 1) := by decide +kernel
theorem dX12_sheet_39 : decode cX12_sheet 39 = .ok (.aload_n 0, 1) := by decide +kernel
theorem dX12_sheet_40 : decode cX12_sheet 40 = .ok (.getfield 53, 3) := by decide +kernel
theorem dX12_sheet_43 : decode cX12_sheet 43 = .ok (.iload_n 1, 1) := by decide +kernel
theorem dX12_sheet_44 : decode cX12_sheet 44 = .ok (.iload_n 2, 1) := by decide +kernel
theorem dX12_sheet_45 : decode cX12_sheet 45 = .ok (.iastore, 1) := by decide +kernel
theorem dX12_sheet_46 : decode cX12_sheet 46 = .ok (.aload_n 0, 1) := by decide +kernel
theorem dX12_sheet_47 : decode cX12_sheet 47 = .ok (.getfield 56, 3) := by decide +kernel
theorem dX12_sheet_50 : decode cX12_sheet 50 = .ok (.iload_n 1, 1) := by decide +kernel
theorem dX12_sheet_51 : decode cX12_sheet 51 = .ok (.iload_n 2, 1) := by decide +kernel
theorem dX12_sheet_52 : decode cX12_sheet 52 = .ok (.ifCond .ge 7, 3) := by decide +kernel
theorem dX12_sheet_55 : decode cX12_sheet 55 = .ok (.iconst 0, 1) := by decide +kernel
theorem dX12_sheet_56 : decode cX12_sheet 56 = .ok (.goto 4, 3) := by decide +kernel
theorem dX12_sheet_59 : decode cX12_sheet 59 = .ok (.iload_n 3, 1) := by decide +kernel
theorem dX12_sheet_60 : decode cX12_sheet 60 = .ok (.iastore, 1) := by decide +kernel
theorem dX12_sheet_61 : decode cX12_sheet 61 = .ok (.iconst 0, 1) := by decide +kernel
theorem dX12_sheet_62 : decode cX12_sheet 62 = .ok (.istore 4, 2) := by decide +kernel
theorem dX12_sheet_64 : decode cX12_sheet 64 = .ok (.iload 4, 2) := by decide +kernel
theorem dX12_sheet_66 : decode cX12_sheet 66 = .ok (.bipush 40, 2) := by decide +kernel
theorem dX12_sheet_68 : decode cX12_sheet 68 = .ok (.if_icmp .ge 22, 3) := by decide +kernel
theorem dX12_sheet_71 : decode cX12_sheet 71 = .ok (.aload_n 0, 1) := by decide +kernel
theorem dX12_sheet_72 : decode cX12_sheet 72 = .ok (.getfield 59, 3) := by decide +kernel
theorem dX12_sheet_75 : decode cX12_sheet 75 = .ok (.bipush 40, 2) := by decide +kernel
theorem dX12_sheet_77 : decode cX12_sheet 77 = .ok (.iload_n 1, 1) := by decide +kernel
theorem dX12_sheet_78 : decode cX12_sheet 78 = .ok (.imul, 1) := by decide +kernel
theorem dX12_sheet_79 : decode cX12_sheet 79 = .ok (.iload 4, 2) := by decide +kernel
theorem dX12_sheet_81 : decode cX12_sheet 81 = .ok (.iadd, 1) := by decide +kernel
theorem dX12_sheet_82 : decode cX12_sheet 82 = .ok (.iconst 0, 1) := by decide +kernel
theorem dX12_sheet_83 : decode cX12_sheet 83 = .ok (.iastore, 1) := by decide +kernel
theorem dX12_sheet_84 : decode cX12_sheet 84 = .ok (.iinc 4 1, 3) := by decide +kernel
theorem dX12_sheet_87 : decode cX12_sheet 87 = .ok (.goto (-23), 3) := by decide +kernel
theorem dX12_sheet_90 : decode cX12_sheet 90 = .ok (.iconst 1, 1) := by decide +kernel
theorem dX12_sheet_91 : decode cX12_sheet 91 = .ok (.ireturn, 1) := by decide +kernel
def r_sheet_64b (a1 : Int32) (a4 : Int32) (m : M) : Option ((Int32 × M) ⊕ ((M))) :=
  (if (40 : Int32) ≤ a4 then some (.inr m) else Option.bind (wrI m 93 (((40 : Int32) * a1) + a4) (0 : Int32)) (fun m1 => lt (a4 + (1 : Int32)) (fun w2 : Int32 => some (.inl (w2, m1)))))
set_option maxRecDepth 20000 in
theorem t_r_sheet_64b {G : GG} {x : Cx} {K : ((Int32 × M) ⊕ ((M))) → Option (Option Value × M)} (E : En G x cX12_sheet "WreckBoardModel" 3 (some .int)) (hn : xn x = 5) (a1 : Int32) (a4 : Int32) (m : M) (hb : ∀ z : Int32 × M, Sm G x 64 [(0, .ref (G.2.1 76)), (1, .int a1), (4, .int z.1)] [] z.2 (some (.inl z)) K) (hx0 : ∀ z : M, Sm G x 90 [] [] z (some (.inr z)) K) : Sm G x 64 [(0, .ref (G.2.1 76)), (1, .int a1), (4, .int a4)] [] m (r_sheet_64b a1 a4 m) K := by
  unfold r_sheet_64b
  refine s_iload 2 E dX12_sheet_64 rfl ?_
  refine s_bipush (v := (40 : Int32)) E dX12_sheet_66 (by decide) ?_
  refine s_icmp_ge 90 E dX12_sheet_68 (by decide) ?_ ?_
  · refine s_sub (lv' := []) [] rfl ?_
    exact hx0 m
  · refine s_aload_n 0 E dX12_sheet_71 rfl rfl ?_
    refine s_getr (k := 31) (T := TX12) 76 E rfl rfl rfl inX12 (by decide) W1270 dX12_sheet_72 ?_
    refine s_bipush (v := (40 : Int32)) E dX12_sheet_75 (by decide) ?_
    refine s_iload_n 1 E dX12_sheet_77 rfl rfl ?_
    refine s_imul E dX12_sheet_78 ?_
    refine s_iload 2 E dX12_sheet_79 rfl ?_
    refine s_iadd E dX12_sheet_81 ?_
    refine s_iconst (v := (0 : Int32)) E dX12_sheet_82 (by decide) ?_
    refine s_iast E dX12_sheet_83 (fun m1 => ?_)
    refine s_iincL (v := (1 : Int32)) 2 [1, 2, 0] (fun w2 => [(0, .ref (G.2.1 76)), (1, .int a1), (4, .int w2)]) E dX12_sheet_84 rfl (by decide) (by rw [hn]; decide) (fun _ => rfl) (fun w2 => ?_)
    refine s_goto 64 E dX12_sheet_87 (by decide) ?_
    exact hb (w2, m1)
def r_sheet_64 (a1 : Int32) (a4 : Int32) (m : M) : Option (Int32 × M) :=
  Option.bind (iter (fun z => r_sheet_64b a1 z.1 z.2) FU (a4, m)) (fun r => some ((1 : Int32), r))
set_option maxRecDepth 20000 in
theorem t_r_sheet_64 {G : GG} {x : Cx} (E : En G x cX12_sheet "WreckBoardModel" 3 (some .int)) (hn : xn x = 5) (a1 : Int32) (a4 : Int32) (m : M) : Sm G x 64 [(0, .ref (G.2.1 76)), (1, .int a1), (4, .int a4)] [] m (r_sheet_64 a1 a4 m) KWi := by
  unfold r_sheet_64
  refine s_loop (fun z => [(0, .ref (G.2.1 76)), (1, .int a1), (4, .int z.1)]) (fun z => z.2) (fun K2 hb2 hr2 z => ?_) FU (a4, m)
  refine t_r_sheet_64b (K := K2) E hn a1 z.1 z.2 hb2 (fun r => s_out (hr2 r) ?_)
  · refine s_iconst (v := (1 : Int32)) E dX12_sheet_90 (by decide) ?_
    exact s_iret E rfl dX12_sheet_91
def r_sheet_60 (a1 : Int32) (s1 : Int32) (s2 : Int32) (m : M) : Option (Int32 × M) :=
  Option.bind (wrI m 92 s1 s2) (fun m1 => r_sheet_64 a1 (0 : Int32) m1)
set_option maxRecDepth 20000 in
theorem t_r_sheet_60 {G : GG} {x : Cx} (E : En G x cX12_sheet "WreckBoardModel" 3 (some .int)) (hn : xn x = 5) (a1 : Int32) (s1 : Int32) (s2 : Int32) (m : M) : Sm G x 60 [(0, .ref (G.2.1 76)), (1, .int a1)] [.int s2, .int s1, .ref (G.2.1 92)] m (r_sheet_60 a1 s1 s2 m) KWi := by
  unfold r_sheet_60
  refine s_iast E dX12_sheet_60 (fun m1 => ?_)
  refine s_iconst (v := (0 : Int32)) E dX12_sheet_61 (by decide) ?_
  refine s_istore (lv' := [(0, .ref (G.2.1 76)), (1, .int a1), (4, .int (0 : Int32))]) [1, 2, 0] E dX12_sheet_62 (by rw [hn]; decide) rfl ?_
  exact t_r_sheet_64 E hn a1 (0 : Int32) m1
def r_sheet_39 (a1 : Int32) (a2 : Int32) (a3 : Int32) (m : M) : Option (Int32 × M) :=
  Option.bind (wrI m 91 a1 a2) (fun m1 => (if 0 ≤ a2 then r_sheet_60 a1 a1 a3 m1 else r_sheet_60 a1 a1 (0 : Int32) m1))
set_option maxRecDepth 20000 in
theorem t_r_sheet_39 {G : GG} {x : Cx} (E : En G x cX12_sheet "WreckBoardModel" 3 (some .int)) (hn : xn x = 5) (a1 : Int32) (a2 : Int32) (a3 : Int32) (m : M) : Sm G x 39 [(0, .ref (G.2.1 76)), (1, .int a1), (2, .int a2), (3, .int a3)] [] m (r_sheet_39 a1 a2 a3 m) KWi := by
  unfold r_sheet_39
  refine s_aload_n 0 E dX12_sheet_39 rfl rfl ?_
  refine s_getr (k := 29) (T := TX12) 76 E rfl rfl rfl inX12 (by decide) W1268 dX12_sheet_40 ?_
  refine s_iload_n 1 E dX12_sheet_43 rfl rfl ?_
  refine s_iload_n 2 E dX12_sheet_44 rfl rfl ?_
  refine s_iast E dX12_sheet_45 (fun m1 => ?_)
  refine s_aload_n 0 E dX12_sheet_46 rfl rfl ?_
  refine s_getr (k := 30) (T := TX12) 76 E rfl rfl rfl inX12 (by decide) W1269 dX12_sheet_47 ?_
  refine s_iload_n 1 E dX12_sheet_50 rfl rfl ?_
  refine s_iload_n 2 E dX12_sheet_51 rfl rfl ?_
  refine s_if_ge 59 E dX12_sheet_52 (by decide) ?_ ?_
  · refine s_iload_n 3 E dX12_sheet_59 rfl rfl ?_
    refine s_sub (lv' := [(0, .ref (G.2.1 76)), (1, .int a1)]) [0, 1] rfl ?_
    exact t_r_sheet_60 E hn a1 a1 a3 m1
  · refine s_iconst (v := (0 : Int32)) E dX12_sheet_55 (by decide) ?_
    refine s_goto 60 E dX12_sheet_56 (by decide) ?_
    refine s_sub (lv' := [(0, .ref (G.2.1 76)), (1, .int a1)]) [0, 1] rfl ?_
    exact t_r_sheet_60 E hn a1 a1 (0 : Int32) m1
def r_sheet_28 (a1 : Int32) (a2 : Int32) (a3 : Int32) (m : M) : Option (Int32 × M) :=
  (if a2 < 0 then r_sheet_39 a1 a2 a3 m else (if 0 ≤ a3 then r_sheet_39 a1 a2 a3 m else some ((-14 : Int32), m)))
set_option maxRecDepth 20000 in
theorem t_r_sheet_28 {G : GG} {x : Cx} (E : En G x cX12_sheet "WreckBoardModel" 3 (some .int)) (hn : xn x = 5) (a1 : Int32) (a2 : Int32) (a3 : Int32) (m : M) : Sm G x 28 [(0, .ref (G.2.1 76)), (1, .int a1), (2, .int a2), (3, .int a3)] [] m (r_sheet_28 a1 a2 a3 m) KWi := by
  unfold r_sheet_28
  refine s_iload_n 2 E dX12_sheet_28 rfl rfl ?_
  refine s_if_lt 39 E dX12_sheet_29 (by decide) ?_ ?_
  · exact t_r_sheet_39 E hn a1 a2 a3 m
  · refine s_iload_n 3 E dX12_sheet_32 rfl rfl ?_
    refine s_if_ge 39 E dX12_sheet_33 (by decide) ?_ ?_
    · exact t_r_sheet_39 E hn a1 a2 a3 m
    · refine s_bipush (v := (-14 : Int32)) E dX12_sheet_36 (by decide) ?_
      exact s_iret E rfl dX12_sheet_38
def r_sheet (a1 : Int32) (a2 : Int32) (a3 : Int32) (m : M) : Option (Int32 × M) :=
  Option.bind (r_isSheet a1 m) (fun v1 => (if v1 = 0 then some ((-1 : Int32), m) else Option.bind (r_in1 a2 (-1 : Int32) (4 : Int32) m) (fun v2 => (if v2 = 0 then some ((-1 : Int32), m) else (if a2 < 0 then r_sheet_28 a1 a2 a3 m else (if a3 ≤ (40 : Int32) then r_sheet_28 a1 a2 a3 m else some ((-1 : Int32), m)))))))
set_option maxRecDepth 20000 in
theorem t_r_sheet {G : GG} {x : Cx} (E : En G x cX12_sheet "WreckBoardModel" 3 (some .int)) (hn : xn x = 5) (a1 : Int32) (a2 : Int32) (a3 : Int32) (m : M) : Sm G x 0 [(0, .ref (G.2.1 76)), (1, .int a1), (2, .int a2), (3, .int a3)] [] m (r_sheet a1 a2 a3 m) KWi := by
  unfold r_sheet
  refine s_iload_n 1 E dX12_sheet_0 rfl rfl ?_
  refine s_bd (fun v1 hz => ?_)
  refine s_cS (rest := []) E (C_r_isSheet (xl x) G a1 m hz) mdX12_isSheet W1773 W1774 W103 W1775 rfl rfl (Nat.le_of_ble_eq_true rfl) ⟨by decide, by decide⟩ dX12_sheet_1 ?_
  refine s_if_eq 26 E dX12_sheet_4 (by decide) ?_ ?_
  · refine s_iconst (v := (-1 : Int32)) E dX12_sheet_26 (by decide) ?_
    exact s_iret E rfl dX12_sheet_27
  · refine s_iload_n 2 E dX12_sheet_7 rfl rfl ?_
    refine s_iconst (v := (-1 : Int32)) E dX12_sheet_8 (by decide) ?_
    refine s_iconst (v := (4 : Int32)) E dX12_sheet_9 (by decide) ?_
    refine s_bd (fun v2 hz => ?_)
    refine s_cS (rest := []) E (C_r_in1 (xl x) G a2 (-1 : Int32) (4 : Int32) m hz) mdX12_in1 W1359 W1360 W103 W1361 rfl rfl (Nat.le_of_ble_eq_true rfl) ⟨by decide, by decide⟩ dX12_sheet_10 ?_
    refine s_if_eq 26 E dX12_sheet_13 (by decide) ?_ ?_
    · refine s_iconst (v := (-1 : Int32)) E dX12_sheet_26 (by decide) ?_
      exact s_iret E rfl dX12_sheet_27
    · refine s_iload_n 2 E dX12_sheet_16 rfl rfl ?_
      refine s_if_lt 28 E dX12_sheet_17 (by decide) ?_ ?_
      · exact t_r_sheet_28 E hn a1 a2 a3 m
      · refine s_iload_n 3 E dX12_sheet_20 rfl rfl ?_
        refine s_bipush (v := (40 : Int32)) E dX12_sheet_21 (by decide) ?_
        refine s_icmp_le 28 E dX12_sheet_23 (by decide) ?_ ?_
        · exact t_r_sheet_28 E hn a1 a2 a3 m
        · refine s_iconst (v := (-1 : Int32)) E dX12_sheet_26 (by decide) ?_
          exact s_iret E rfl dX12_sheet_27
set_option maxRecDepth 20000 in
theorem C_r_sheet (l : Launch) (G : GG) (a1 : Int32) (a2 : Int32) (a3 : Int32) (m : M) {z : Int32 × M} (hz : r_sheet a1 a2 a3 m = some z) : Ct l G yX12_sheet cX12_sheet 5 (some .int) 3 [.ref (G.2.1 76), .int a1, .int a2, .int a3] m (some (.int z.1)) z.2 :=
  ct_of (K := KWi) (by decide) (Nat.le_of_ble_eq_true rfl) (congrArg (fun q => Option.bind q _) hz) (fun x hl hn E => (t_r_sheet E hn a1 a2 a3 m))
theorem dX12_narrowed_0 : decode cX12_narrowed 0 = .ok (.iload_n 1, 1) := by decide +kernel
theorem dX12_narrowed_1 : decode cX12_narrowed 1 = .ok (.ifCond .ne 8, 3) := by decide +kernel
theorem dX12_narrowed_4 : decode cX12_narrowed 4 = .ok (.iload_n 0, 1) := by decide +kernel
theorem dX12_narrowed_5 : decode cX12_narrowed 5 = .ok (.i2b, 1) := by decide +kernel
theorem dX12_narrowed_6 : decode cX12_narrowed 6 = .ok (.goto 31, 3) := by decide +kernel
theorem dX12_narrowed_9 : decode cX12_narrowed 9 = .ok (.iload_n 1, 1) := by decide +kernel
theorem dX12_narrowed_10 : decode cX12_narrowed 10 = .ok (.iconst 1, 1) := by decide +kernel
theorem dX12_narrowed_11 : decode cX12_narrowed 11 = .ok (.if_icmp .ne 8, 3) := by decide +kernel
theorem dX12_narrowed_14 : decode cX12_narrowed 14 = .ok (.iload_n 0, 1) := by decide +kernel
theorem dX12_narrowed_15 : decode cX12_narrowed 15 = .ok (.i2s, 1) := by decide +kernel
theorem dX12_narrowed_16 : decode cX12_narrowed 16 = .ok (.goto 21, 3) := by decide +kernel
theorem dX12_narrowed_19 : decode cX12_narrowed 19 = .ok (.iload_n 1, 1) := by decide +kernel
theorem dX12_narrowed_20 : decode cX12_narrowed 20 = .ok (.iconst 4, 1) := by decide +kernel
theorem dX12_narrowed_21 : decode cX12_narrowed 21 = .ok (.if_icmp .ne 15, 3) := by decide +kernel
theorem dX12_narrowed_24 : decode cX12_narrowed 24 = .ok (.iload_n 0, 1) := by decide +kernel
theorem dX12_narrowed_25 : decode cX12_narrowed 25 = .ok (.ifCond .eq 7, 3) := by decide +kernel
theorem dX12_narrowed_28 : decode cX12_narrowed 28 = .ok (.iconst 1, 1) := by decide +kernel
theorem dX12_narrowed_29 : decode cX12_narrowed 29 = .ok (.goto 8, 3) := by decide +kernel
theorem dX12_narrowed_32 : decode cX12_narrowed 32 = .ok (.iconst 0, 1) := by decide +kernel
theorem dX12_narrowed_33 : decode cX12_narrowed 33 = .ok (.goto 4, 3) := by decide +kernel
theorem dX12_narrowed_36 : decode cX12_narrowed 36 = .ok (.iload_n 0, 1) := by decide +kernel
theorem dX12_narrowed_37 : decode cX12_narrowed 37 = .ok (.ireturn, 1) := by decide +kernel
def r_narrowed (a0 : Int32) (a1 : Int32) (m : M) : Option (Int32) :=
  (if a1 = 0 then some (Int8.toInt32 (Int32.toInt8 a0)) else (if a1 = (1 : Int32) then some (Int16.toInt32 (Int32.toInt16 a0)) else (if a1 = (4 : Int32) then (if a0 = 0 then some (0 : Int32) else some (1 : Int32)) else some a0)))
set_option maxRecDepth 20000 in
theorem t_r_narrowed {G : GG} {x : Cx} (E : En G x cX12_narrowed "WreckBoardModel" 1 (some .int)) (hn : xn x = 2) (a0 : Int32) (a1 : Int32) (m : M) : Sm G x 0 [(0, .int a0), (1, .int a1)] [] m (r_narrowed a0 a1 m) (KRi m) := by
  unfold r_narrowed
  refine s_iload_n 1 E dX12_narrowed_0 rfl rfl ?_
  refine s_if_ne 9 E dX12_narrowed_1 (by decide) ?_ ?_
  · refine s_iload_n 1 E dX12_narrowed_9 rfl rfl ?_
    refine s_iconst (v := (1 : Int32)) E dX12_narrowed_10 (by decide) ?_
    refine s_icmp_ne 19 E dX12_narrowed_11 (by decide) ?_ ?_
    · refine s_iload_n 1 E dX12_narrowed_19 rfl rfl ?_
      refine s_iconst (v := (4 : Int32)) E dX12_narrowed_20 (by decide) ?_
      refine s_icmp_ne 36 E dX12_narrowed_21 (by decide) ?_ ?_
      · refine s_iload_n 0 E dX12_narrowed_36 rfl rfl ?_
        exact s_iret E rfl dX12_narrowed_37
      · refine s_iload_n 0 E dX12_narrowed_24 rfl rfl ?_
        refine s_if_eq 32 E dX12_narrowed_25 (by decide) ?_ ?_
        · refine s_iconst (v := (0 : Int32)) E dX12_narrowed_32 (by decide) ?_
          refine s_goto 37 E dX12_narrowed_33 (by decide) ?_
          exact s_iret E rfl dX12_narrowed_37
        · refine s_iconst (v := (1 : Int32)) E dX12_narrowed_28 (by decide) ?_
          refine s_goto 37 E dX12_narrowed_29 (by decide) ?_
          exact s_iret E rfl dX12_narrowed_37
    · refine s_iload_n 0 E dX12_narrowed_14 rfl rfl ?_
      refine s_i2s E dX12_narrowed_15 ?_
      refine s_goto 37 E dX12_narrowed_16 (by decide) ?_
      exact s_iret E rfl dX12_narrowed_37
  · refine s_iload_n 0 E dX12_narrowed_4 rfl rfl ?_
    refine s_i2b E dX12_narrowed_5 ?_
    refine s_goto 37 E dX12_narrowed_6 (by decide) ?_
    exact s_iret E rfl dX12_narrowed_37
set_option maxRecDepth 20000 in
theorem C_r_narrowed (l : Launch) (G : GG) (a0 : Int32) (a1 : Int32) (m : M) {z : Int32} (hz : r_narrowed a0 a1 m = some z) : Ct l G yX12_narrowed cX12_narrowed 2 (some .int) 1 [.int a0, .int a1] m (some (.int z)) m :=
  ct_of (K := (KRi m)) (by decide) (Nat.le_of_ble_eq_true rfl) (congrArg (fun q => Option.bind q _) hz) (fun x hl hn E => (t_r_narrowed E hn a0 a1 m))
theorem mdX12_narrowed : mdq yX12_narrowed 2 := ⟨by decide, by decide, by decide +kernel⟩
theorem dX12_write_0 : decode cX12_write 0 = .ok (.iload_n 1, 1) := by decide +kernel
theorem dX12_write_1 : decode cX12_write 1 = .ok (.invokestatic 329, 3) := by decide +kernel
theorem dX12_write_4 : decode cX12_write 4 = .ok (.ifCond .ne 5, 3) := by decide +kernel
theorem dX12_write_7 : decode cX12_write 7 = .ok (.iconst (-1), 1) := by decide +kernel
theorem dX12_write_8 : decode cX12_write 8 = .ok (.ireturn, 1) := by decide +kernel
theorem dX12_write_9 : decode cX12_write 9 = .ok (.aload_n 0, 1) := by decide +kernel
theorem dX12_write_10 : decode cX12_write 10 = .ok (.getfield 53, 3) := by decide +kernel
theorem dX12_write_13 : decode cX12_write 13 = .ok (.iload_n 1, 1) := by decide +kernel
theorem dX12_write_14 : decode cX12_write 14 = .ok (.iaload, 1) := by decide +kernel
theorem dX12_write_15 : decode cX12_write 15 = .ok (.ifCond .ge 6, 3) := by decide +kernel
theorem dX12_write_18 : decode cX12_write 18 = .ok (.bipush (-11), 2) := by decide +kernel
theorem dX12_write_20 : decode cX12_write 20 = .ok (.ireturn, 1) := by decide +kernel
theorem dX12_write_21 : decode cX12_write 21 = .ok (.iload_n 2, 1) := by decide +kernel
theorem dX12_write_22 : decode cX12_write 22 = .ok (.iconst 0, 1) := by decide +kernel
theorem dX12_write_23 : decode cX12_write 23 = .ok (.aload_n 0, 1) := by decide +kernel
theorem dX12_write_24 : decode cX12_write 24 = .ok (.getfield 56, 3) := by decide +kernel
theorem dX12_write_27 : decode cX12_write 27 = .ok (.iload_n 1, 1) := by decide +kernel
theorem dX12_write_28 : decode cX12_write 28 = .ok (.iaload, 1) := by decide +kernel
theorem dX12_write_29 : decode cX12_write 29 = .ok (.iconst 1, 1) := by decide +kernel
theorem dX12_write_30 : decode cX12_write 30 = .ok (.isub, 1) := by decide +kernel
theorem dX12_write_31 : decode cX12_write 31 = .ok (.invokestatic 71, 3) := by decide +kernel
theorem dX12_write_34 : decode cX12_write 34 = .ok (.ifCond .ne 6, 3) := by decide +kernel
theorem dX12_write_37 : decode cX12_write 37 = .ok (.bipush (-12), 2) := by decide +kernel
theorem dX12_write_39 : decode cX12_write 39 = .ok (.ireturn, 1) := by decide +kernel
theorem dX12_write_40 : decode cX12_write 40 = .ok (.aload_n 0, 1) := by decide +kernel
theorem dX12_write_41 : decode cX12_write 41 = .ok (.getfield 59, 3) := by decide +kernel
theorem dX12_write_44 : decode cX12_write 44 = .ok (.bipush 40, 2) := by decide +kernel
theorem dX12_write_46 : decode cX12_write 46 = .ok (.iload_n 1, 1) := by decide +kernel
theorem dX12_write_47 : decode cX12_write 47 = .ok (.imul, 1) := by decide +kernel
theorem dX12_write_48 : decode cX12_write 48 = .ok (.iload_n 2, 1) := by decide +kernel
theorem dX12_write_49 : decode cX12_write 49 = .ok (.iadd, 1) := by decide +kernel
theorem dX12_write_50 : decode cX12_write 50 = .ok (.iload_n 3, 1) := by decide +kernel
theorem dX12_write_51 : decode cX12_write 51 = .ok (.aload_n 0, 1) := by decide +kernel
theorem dX12_write_52 : decode cX12_write 52 = .ok (.getfield 53, 3) := by decide +kernel
theorem dX12_write_55 : decode cX12_write 55 = .ok (.iload_n 1, 1) := by decide +kernel
theorem dX12_write_56 : decode cX12_write 56 = .ok (.iaload, 1) := by decide +kernel
theorem dX12_write_57 : decode cX12_write 57 = .ok (.invokestatic 332, 3) := by decide +kernel
theorem dX12_write_60 : decode cX12_write 60 = .ok (.iastore, 1) := by decide +kernel
theorem dX12_write_61 : decode cX12_write 61 = .ok (.iconst 1, 1) := by decide +kernel
theorem dX12_write_62 : decode cX12_write 62 = .ok (.ireturn, 1) := by decide +kernel
def r_write (a1 : Int32) (a2 : Int32) (a3 : Int32) (m : M) : Option (Int32 × M) :=
  Option.bind (r_isSheet a1 m) (fun v1 => (if v1 = 0 then some ((-1 : Int32), m) else Option.bind (rdI m 91 a1) (fun v2 => (if 0 ≤ v2 then Option.bind (rdI m 92 a1) (fun v3 => Option.bind (r_in1 a2 (0 : Int32) (v3 - (1 : Int32)) m) (fun v4 => (if v4 = 0 then some ((-12 : Int32), m) else Option.bind (rdI m 91 a1) (fun v5 => Option.bind (r_narrowed a3 v5 m) (fun v6 => Option.bind (wrI m 93 (((40 : Int32) * a1) + a2) v6) (fun m7 => some ((1 : Int32), m7))))))) else some ((-11 : Int32), m)))))
set_option maxRecDepth 20000 in
theorem t_r_write {G : GG} {x : Cx} (E : En G x cX12_write "WreckBoardModel" 3 (some .int)) (hn : xn x = 4) (a1 : Int32) (a2 : Int32) (a3 : Int32) (m : M) : Sm G x 0 [(0, .ref (G.2.1 76)), (1, .int a1), (2, .int a2), (3, .int a3)] [] m (r_write a1 a2 a3 m) KWi := by
  unfold r_write
  refine s_iload_n 1 E dX12_write_0 rfl rfl ?_
  refine s_bd (fun v1 hz => ?_)
  refine s_cS (rest := []) E (C_r_isSheet (xl x) G a1 m hz) mdX12_isSheet W1773 W1774 W103 W1775 rfl rfl (Nat.le_of_ble_eq_true rfl) ⟨by decide, by decide⟩ dX12_write_1 ?_
  refine s_if_ne 9 E dX12_write_4 (by decide) ?_ ?_
  · refine s_aload_n 0 E dX12_write_9 rfl rfl ?_
    refine s_getr (k := 29) (T := TX12) 76 E rfl rfl rfl inX12 (by decide) W1268 dX12_write_10 ?_
    refine s_iload_n 1 E dX12_write_13 rfl rfl ?_
    refine s_iald E dX12_write_14 (fun v2 => ?_)
    refine s_if_ge 21 E dX12_write_15 (by decide) ?_ ?_
    · refine s_iload_n 2 E dX12_write_21 rfl rfl ?_
      refine s_iconst (v := (0 : Int32)) E dX12_write_22 (by decide) ?_
      refine s_aload_n 0 E dX12_write_23 rfl rfl ?_
      refine s_getr (k := 30) (T := TX12) 76 E rfl rfl rfl inX12 (by decide) W1269 dX12_write_24 ?_
      refine s_iload_n 1 E dX12_write_27 rfl rfl ?_
      refine s_iald E dX12_write_28 (fun v3 => ?_)
      refine s_iconst (v := (1 : Int32)) E dX12_write_29 (by decide) ?_
      refine s_isub E dX12_write_30 ?_
      refine s_bd (fun v4 hz => ?_)
      refine s_cS (rest := []) E (C_r_in1 (xl x) G a2 (0 : Int32) (v3 - (1 : Int32)) m hz) mdX12_in1 W1359 W1360 W103 W1361 rfl rfl (Nat.le_of_ble_eq_true rfl) ⟨by decide, by decide⟩ dX12_write_31 ?_
      refine s_if_ne 40 E dX12_write_34 (by decide) ?_ ?_
      · refine s_aload_n 0 E dX12_write_40 rfl rfl ?_
        refine s_getr (k := 31) (T := TX12) 76 E rfl rfl rfl inX12 (by decide) W1270 dX12_write_41 ?_
        refine s_bipush (v := (40 : Int32)) E dX12_write_44 (by decide) ?_
        refine s_iload_n 1 E dX12_write_46 rfl rfl ?_
        refine s_imul E dX12_write_47 ?_
        refine s_iload_n 2 E dX12_write_48 rfl rfl ?_
        refine s_iadd E dX12_write_49 ?_
        refine s_iload_n 3 E dX12_write_50 rfl rfl ?_
        refine s_aload_n 0 E dX12_write_51 rfl rfl ?_
        refine s_getr (k := 29) (T := TX12) 76 E rfl rfl rfl inX12 (by decide) W1268 dX12_write_52 ?_
        refine s_iload_n 1 E dX12_write_55 rfl rfl ?_
        refine s_iald E dX12_write_56 (fun v5 => ?_)
        refine s_bd (fun v6 hz => ?_)
        refine s_cS (rest := [.int (((40 : Int32) * a1) + a2), .ref (G.2.1 93)]) E (C_r_narrowed (xl x) G a3 v5 m hz) mdX12_narrowed W1780 W1781 W103 W1782 rfl rfl (Nat.le_of_ble_eq_true rfl) ⟨by decide, by decide⟩ dX12_write_57 ?_
        refine s_iast E dX12_write_60 (fun m7 => ?_)
        refine s_iconst (v := (1 : Int32)) E dX12_write_61 (by decide) ?_
        exact s_iret E rfl dX12_write_62
      · refine s_bipush (v := (-12 : Int32)) E dX12_write_37 (by decide) ?_
        exact s_iret E rfl dX12_write_39
    · refine s_bipush (v := (-11 : Int32)) E dX12_write_18 (by decide) ?_
      exact s_iret E rfl dX12_write_20
  · refine s_iconst (v := (-1 : Int32)) E dX12_write_7 (by decide) ?_
    exact s_iret E rfl dX12_write_8
set_option maxRecDepth 20000 in
theorem C_r_write (l : Launch) (G : GG) (a1 : Int32) (a2 : Int32) (a3 : Int32) (m : M) {z : Int32 × M} (hz : r_write a1 a2 a3 m = some z) : Ct l G yX12_write cX12_write 4 (some .int) 3 [.ref (G.2.1 76), .int a1, .int a2, .int a3] m (some (.int z.1)) z.2 :=
  ct_of (K := KWi) (by decide) (Nat.le_of_ble_eq_true rfl) (congrArg (fun q => Option.bind q _) hz) (fun x hl hn E => (t_r_write E hn a1 a2 a3 m))
theorem dX12_lacks_0 : decode cX12_lacks 0 = .ok (.aload_n 0, 1) := by decide +kernel
theorem dX12_lacks_1 : decode cX12_lacks 1 = .ok (.getfield 53, 3) := by decide +kernel
theorem dX12_lacks_4 : decode cX12_lacks 4 = .ok (.iload_n 1, 1) := by decide +kernel
theorem dX12_lacks_5 : decode cX12_lacks 5 = .ok (.iaload, 1) := by decide +kernel
theorem dX12_lacks_6 : decode cX12_lacks 6 = .ok (.ifCond .ge 8, 3) := by decide +kernel
theorem dX12_lacks_9 : decode cX12_lacks 9 = .ok (.bipush (-11), 2) := by decide +kernel
theorem dX12_lacks_11 : decode cX12_lacks 11 = .ok (.goto 19, 3) := by decide +kernel
theorem dX12_lacks_14 : decode cX12_lacks 14 = .ok (.aload_n 0, 1) := by decide +kernel
theorem dX12_lacks_15 : decode cX12_lacks 15 = .ok (.getfield 53, 3) := by decide +kernel
theorem dX12_lacks_18 : decode cX12_lacks 18 = .ok (.iload_n 1, 1) := by decide +kernel
theorem dX12_lacks_19 : decode cX12_lacks 19 = .ok (.iaload, 1) := by decide +kernel
theorem dX12_lacks_20 : decode cX12_lacks 20 = .ok (.iload_n 2, 1) := by decide +kernel
theorem dX12_lacks_21 : decode cX12_lacks 21 = .ok (.if_icmp .eq 8, 3) := by decide +kernel
theorem dX12_lacks_24 : decode cX12_lacks 24 = .ok (.bipush (-13), 2) := by decide +kernel
theorem dX12_lacks_26 : decode cX12_lacks 26 = .ok (.goto 4, 3) := by decide +kernel
theorem dX12_lacks_29 : decode cX12_lacks 29 = .ok (.iconst 0, 1) := by decide +kernel
theorem dX12_lacks_30 : decode cX12_lacks 30 = .ok (.ireturn, 1) := by decide +kernel
def r_lacks (a1 : Int32) (a2 : Int32) (m : M) : Option (Int32) :=
  Option.bind (rdI m 91 a1) (fun v1 => (if 0 ≤ v1 then Option.bind (rdI m 91 a1) (fun v2 => (if v2 = a2 then some (0 : Int32) else some (-13 : Int32))) else some (-11 : Int32)))
set_option maxRecDepth 20000 in
theorem t_r_lacks {G : GG} {x : Cx} (E : En G x cX12_lacks "WreckBoardModel" 1 (some .int)) (hn : xn x = 3) (a1 : Int32) (a2 : Int32) (m : M) : Sm G x 0 [(0, .ref (G.2.1 76)), (1, .int a1), (2, .int a2)] [] m (r_lacks a1 a2 m) (KRi m) := by
  unfold r_lacks
  refine s_aload_n 0 E dX12_lacks_0 rfl rfl ?_
  refine s_getr (k := 29) (T := TX12) 76 E rfl rfl rfl inX12 (by decide) W1268 dX12_lacks_1 ?_
  refine s_iload_n 1 E dX12_lacks_4 rfl rfl ?_
  refine s_iald E dX12_lacks_5 (fun v1 => ?_)
  refine s_if_ge 14 E dX12_lacks_6 (by decide) ?_ ?_
  · refine s_aload_n 0 E dX12_lacks_14 rfl rfl ?_
    refine s_getr (k := 29) (T := TX12) 76 E rfl rfl rfl inX12 (by decide) W1268 dX12_lacks_15 ?_
    refine s_iload_n 1 E dX12_lacks_18 rfl rfl ?_
    refine s_iald E dX12_lacks_19 (fun v2 => ?_)
    refine s_iload_n 2 E dX12_lacks_20 rfl rfl ?_
    refine s_icmp_eq 29 E dX12_lacks_21 (by decide) ?_ ?_
    · refine s_iconst (v := (0 : Int32)) E dX12_lacks_29 (by decide) ?_
      exact s_iret E rfl dX12_lacks_30
    · refine s_bipush (v := (-13 : Int32)) E dX12_lacks_24 (by decide) ?_
      refine s_goto 30 E dX12_lacks_26 (by decide) ?_
      exact s_iret E rfl dX12_lacks_30
  · refine s_bipush (v := (-11 : Int32)) E dX12_lacks_9 (by decide) ?_
    refine s_goto 30 E dX12_lacks_11 (by decide) ?_
    exact s_iret E rfl dX12_lacks_30
set_option maxRecDepth 20000 in
theorem C_r_lacks (l : Launch) (G : GG) (a1 : Int32) (a2 : Int32) (m : M) {z : Int32} (hz : r_lacks a1 a2 m = some z) : Ct l G yX12_lacks cX12_lacks 3 (some .int) 1 [.ref (G.2.1 76), .int a1, .int a2] m (some (.int z)) m :=
  ct_of (K := (KRi m)) (by decide) (Nat.le_of_ble_eq_true rfl) (congrArg (fun q => Option.bind q _) hz) (fun x hl hn E => (t_r_lacks E hn a1 a2 m))
theorem mdX12_lacks : mdq yX12_lacks 2 := ⟨by decide, by decide, by decide +kernel⟩
theorem dX12_item_0 : decode cX12_item 0 = .ok (.iload_n 1, 1) := by decide +kernel
theorem dX12_item_1 : decode cX12_item 1 = .ok (.invokestatic 329, 3) := by decide +kernel
theorem dX12_item_4 : decode cX12_item 4 = .ok (.ifCond .eq 12, 3) := by decide +kernel
theorem dX12_item_7 : decode cX12_item 7 = .ok (.iload_n 2, 1) := by decide +kernel
theorem dX12_item_8 : decode cX12_item 8 = .ok (.iconst 0, 1) := by decide +kernel
theorem dX12_item_9 : decode cX12_item 9 = .ok (.iconst 4, 1) := by decide +kernel
theorem dX12_item_10 : decode cX12_item 10 = .ok (.invokestatic 71, 3) := by decide +kernel
theorem dX12_item_13 : decode cX12_item 13 = .ok (.ifCond .ne 5, 3) := by decide +kernel
theorem dX12_item_16 : decode cX12_item 16 = .ok (.iconst (-1), 1) := by decide +kernel
theorem dX12_item_17 : decode cX12_item 17 = .ok (.ireturn, 1) := by decide +kernel
theorem dX12_item_18 : decode cX12_item 18 = .ok (.aload_n 0, 1) := by decide +kernel
theorem dX12_item_19 : decode cX12_item 19 = .ok (.iload_n 1, 1) := by decide +kernel
theorem dX12_item_20 : decode cX12_item 20 = .ok (.iload_n 2, 1) := by decide +kernel
theorem dX12_item_21 : decode cX12_item 21 = .ok (.invokevirtual 335, 3) := by decide +kernel
theorem dX12_item_24 : decode cX12_item 24 = .ok (.istore 4, 2) := by decide +kernel
theorem dX12_item_26 : decode cX12_item 26 = .ok (.iload 4, 2) := by decide +kernel
theorem dX12_item_28 : decode cX12_item 28 = .ok (.ifCond .eq 8, 3) := by decide +kernel
theorem dX12_item_31 : decode cX12_item 31 = .ok (.iload 4, 2) := by decide +kernel
theorem dX12_item_33 : decode cX12_item 33 = .ok (.goto 35, 3) := by decide +kernel
theorem dX12_item_36 : decode cX12_item 36 = .ok (.iload_n 3, 1) := by decide +kernel
theorem dX12_item_37 : decode cX12_item 37 = .ok (.iconst 0, 1) := by decide +kernel
theorem dX12_item_38 : decode cX12_item 38 = .ok (.aload_n 0, 1) := by decide +kernel
theorem dX12_item_39 : decode cX12_item 39 = .ok (.getfield 56, 3) := by decide +kernel
theorem dX12_item_42 : decode cX12_item 42 = .ok (.iload_n 1, 1) := by decide +kernel
theorem dX12_item_43 : decode cX12_item 43 = .ok (.iaload, 1) := by decide +kernel
theorem dX12_item_44 : decode cX12_item 44 = .ok (.iconst 1, 1) := by decide +kernel
theorem dX12_item_45 : decode cX12_item 45 = .ok (.isub, 1) := by decide +kernel
theorem dX12_item_46 : decode cX12_item 46 = .ok (.invokestatic 71, 3) := by decide +kernel
theorem dX12_item_49 : decode cX12_item 49 = .ok (.ifCond .eq 17, 3) := by decide +kernel
theorem dX12_item_52 : decode cX12_item 52 = .ok (.aload_n 0, 1) := by decide +kernel
theorem dX12_item_53 : decode cX12_item 53 = .ok (.getfield 59, 3) := by decide +kernel
theorem dX12_item_56 : decode cX12_item 56 = .ok (.bipush 40, 2) := by decide +kernel
theorem dX12_item_58 : decode cX12_item 58 = .ok (.iload_n 1, 1) := by decide +kernel
theorem dX12_item_59 : decode cX12_item 59 = .ok (.imul, 1) := by decide +kernel
theorem dX12_item_60 : decode cX12_item 60 = .ok (.iload_n 3, 1) := by decide +kernel
theorem dX12_item_61 : decode cX12_item 61 = .ok (.iadd, 1) := by decide +kernel
theorem dX12_item_62 : decode cX12_item 62 = .ok (.iaload, 1) := by decide +kernel
theorem dX12_item_63 : decode cX12_item 63 = .ok (.goto 5, 3) := by decide +kernel
theorem dX12_item_66 : decode cX12_item 66 = .ok (.bipush (-12), 2) := by decide +kernel
theorem dX12_item_68 : decode cX12_item 68 = .ok (.ireturn, 1) := by decide +kernel
def r_item (a1 : Int32) (a2 : Int32) (a3 : Int32) (m : M) : Option (Int32) :=
  Option.bind (r_isSheet a1 m) (fun v1 => (if v1 = 0 then some (-1 : Int32) else Option.bind (r_in1 a2 (0 : Int32) (4 : Int32) m) (fun v2 => (if v2 = 0 then some (-1 : Int32) else Option.bind (r_lacks a1 a2 m) (fun v3 => (if v3 = 0 then Option.bind (rdI m 92 a1) (fun v4 => Option.bind (r_in1 a3 (0 : Int32) (v4 - (1 : Int32)) m) (fun v5 => (if v5 = 0 then some (-12 : Int32) else Option.bind (rdI m 93 (((40 : Int32) * a1) + a3)) (fun v6 => some v6)))) else some v3))))))
set_option maxRecDepth 20000 in
theorem t_r_item {G : GG} {x : Cx} (E : En G x cX12_item "WreckBoardModel" 3 (some .int)) (hn : xn x = 5) (a1 : Int32) (a2 : Int32) (a3 : Int32) (m : M) : Sm G x 0 [(0, .ref (G.2.1 76)), (1, .int a1), (2, .int a2), (3, .int a3)] [] m (r_item a1 a2 a3 m) (KRi m) := by
  unfold r_item
  refine s_iload_n 1 E dX12_item_0 rfl rfl ?_
  refine s_bd (fun v1 hz => ?_)
  refine s_cS (rest := []) E (C_r_isSheet (xl x) G a1 m hz) mdX12_isSheet W1773 W1774 W103 W1775 rfl rfl (Nat.le_of_ble_eq_true rfl) ⟨by decide, by decide⟩ dX12_item_1 ?_
  refine s_if_eq 16 E dX12_item_4 (by decide) ?_ ?_
  · refine s_iconst (v := (-1 : Int32)) E dX12_item_16 (by decide) ?_
    exact s_iret E rfl dX12_item_17
  · refine s_iload_n 2 E dX12_item_7 rfl rfl ?_
    refine s_iconst (v := (0 : Int32)) E dX12_item_8 (by decide) ?_
    refine s_iconst (v := (4 : Int32)) E dX12_item_9 (by decide) ?_
    refine s_bd (fun v2 hz => ?_)
    refine s_cS (rest := []) E (C_r_in1 (xl x) G a2 (0 : Int32) (4 : Int32) m hz) mdX12_in1 W1359 W1360 W103 W1361 rfl rfl (Nat.le_of_ble_eq_true rfl) ⟨by decide, by decide⟩ dX12_item_10 ?_
    refine s_if_ne 18 E dX12_item_13 (by decide) ?_ ?_
    · refine s_aload_n 0 E dX12_item_18 rfl rfl ?_
      refine s_iload_n 1 E dX12_item_19 rfl rfl ?_
      refine s_iload_n 2 E dX12_item_20 rfl rfl ?_
      refine s_bd (fun v3 hz => ?_)
      refine s_cV (rest := []) E (C_r_lacks (xl x) G a1 a2 m hz) mdX12_lacks W1787 W1789 W82 W103 W1790 rfl rfl rfl rfl (Nat.le_of_ble_eq_true rfl) ⟨by decide, by decide⟩ dX12_item_21 ?_
      refine s_istore (lv' := [(0, .ref (G.2.1 76)), (1, .int a1), (3, .int a3), (4, .int v3)]) [1, 2, 4, 0] E dX12_item_24 (by rw [hn]; decide) rfl ?_
      refine s_iload 3 E dX12_item_26 rfl ?_
      refine s_if_eq 36 E dX12_item_28 (by decide) ?_ ?_
      · refine s_iload_n 2 E dX12_item_36 rfl rfl ?_
        refine s_iconst (v := (0 : Int32)) E dX12_item_37 (by decide) ?_
        refine s_aload_n 0 E dX12_item_38 rfl rfl ?_
        refine s_getr (k := 30) (T := TX12) 76 E rfl rfl rfl inX12 (by decide) W1269 dX12_item_39 ?_
        refine s_iload_n 1 E dX12_item_42 rfl rfl ?_
        refine s_iald E dX12_item_43 (fun v4 => ?_)
        refine s_iconst (v := (1 : Int32)) E dX12_item_44 (by decide) ?_
        refine s_isub E dX12_item_45 ?_
        refine s_bd (fun v5 hz => ?_)
        refine s_cS (rest := []) E (C_r_in1 (xl x) G a3 (0 : Int32) (v4 - (1 : Int32)) m hz) mdX12_in1 W1359 W1360 W103 W1361 rfl rfl (Nat.le_of_ble_eq_true rfl) ⟨by decide, by decide⟩ dX12_item_46 ?_
        refine s_if_eq 66 E dX12_item_49 (by decide) ?_ ?_
        · refine s_bipush (v := (-12 : Int32)) E dX12_item_66 (by decide) ?_
          exact s_iret E rfl dX12_item_68
        · refine s_aload_n 0 E dX12_item_52 rfl rfl ?_
          refine s_getr (k := 31) (T := TX12) 76 E rfl rfl rfl inX12 (by decide) W1270 dX12_item_53 ?_
          refine s_bipush (v := (40 : Int32)) E dX12_item_56 (by decide) ?_
          refine s_iload_n 1 E dX12_item_58 rfl rfl ?_
          refine s_imul E dX12_item_59 ?_
          refine s_iload_n 2 E dX12_item_60 rfl rfl ?_
          refine s_iadd E dX12_item_61 ?_
          refine s_iald E dX12_item_62 (fun v6 => ?_)
          refine s_goto 68 E dX12_item_63 (by decide) ?_
          exact s_iret E rfl dX12_item_68
      · refine s_iload 3 E dX12_item_31 rfl ?_
        refine s_goto 68 E dX12_item_33 (by decide) ?_
        exact s_iret E rfl dX12_item_68
    · refine s_iconst (v := (-1 : Int32)) E dX12_item_16 (by decide) ?_
      exact s_iret E rfl dX12_item_17
set_option maxRecDepth 20000 in
theorem C_r_item (l : Launch) (G : GG) (a1 : Int32) (a2 : Int32) (a3 : Int32) (m : M) {z : Int32} (hz : r_item a1 a2 a3 m = some z) : Ct l G yX12_item cX12_item 5 (some .int) 3 [.ref (G.2.1 76), .int a1, .int a2, .int a3] m (some (.int z)) m :=
  ct_of (K := (KRi m)) (by decide) (Nat.le_of_ble_eq_true rfl) (congrArg (fun q => Option.bind q _) hz) (fun x hl hn E => (t_r_item E hn a1 a2 a3 m))
theorem dX12_isItem_0 : decode cX12_isItem 0 = .ok (.iload_n 2, 1) := by decide +kernel
theorem dX12_isItem_1 : decode cX12_isItem 1 = .ok (.ifCond .lt 19, 3) := by decide +kernel
theorem dX12_isItem_4 : decode cX12_isItem 4 = .ok (.iload_n 2, 1) := by decide +kernel
theorem dX12_isItem_5 : decode cX12_isItem 5 = .ok (.aload_n 0, 1) := by decide +kernel
theorem dX12_isItem_6 : decode cX12_isItem 6 = .ok (.getfield 56, 3) := by decide +kernel
theorem dX12_isItem_9 : decode cX12_isItem 9 = .ok (.iload_n 1, 1) := by decide +kernel
theorem dX12_isItem_10 : decode cX12_isItem 10 = .ok (.iaload, 1) := by decide +kernel
theorem dX12_isItem_11 : decode cX12_isItem 11 = .ok (.iload_n 3, 1) := by decide +kernel
theorem dX12_isItem_12 : decode cX12_isItem 12 = .ok (.isub, 1) := by decide +kernel
theorem dX12_isItem_13 : decode cX12_isItem 13 = .ok (.if_icmp .ge 7, 3) := by decide +kernel
theorem dX12_isItem_16 : decode cX12_isItem 16 = .ok (.iconst 1, 1) := by decide +kernel
theorem dX12_isItem_17 : decode cX12_isItem 17 = .ok (.goto 4, 3) := by decide +kernel
theorem dX12_isItem_20 : decode cX12_isItem 20 = .ok (.iconst 0, 1) := by decide +kernel
theorem dX12_isItem_21 : decode cX12_isItem 21 = .ok (.ireturn, 1) := by decide +kernel
def r_isItem (a1 : Int32) (a2 : Int32) (a3 : Int32) (m : M) : Option (Int32) :=
  (if a2 < 0 then some (0 : Int32) else Option.bind (rdI m 92 a1) (fun v1 => (if (v1 - a3) ≤ a2 then some (0 : Int32) else some (1 : Int32))))
set_option maxRecDepth 20000 in
theorem t_r_isItem {G : GG} {x : Cx} (E : En G x cX12_isItem "WreckBoardModel" 1 (some .boolean)) (hn : xn x = 4) (a1 : Int32) (a2 : Int32) (a3 : Int32) (m : M) : Sm G x 0 [(0, .ref (G.2.1 76)), (1, .int a1), (2, .int a2), (3, .int a3)] [] m (r_isItem a1 a2 a3 m) (KRi m) := by
  unfold r_isItem
  refine s_iload_n 2 E dX12_isItem_0 rfl rfl ?_
  refine s_if_lt 20 E dX12_isItem_1 (by decide) ?_ ?_
  · refine s_iconst (v := (0 : Int32)) E dX12_isItem_20 (by decide) ?_
    exact s_zret E (by decide) rfl dX12_isItem_21
  · refine s_iload_n 2 E dX12_isItem_4 rfl rfl ?_
    refine s_aload_n 0 E dX12_isItem_5 rfl rfl ?_
    refine s_getr (k := 30) (T := TX12) 76 E rfl rfl rfl inX12 (by decide) W1269 dX12_isItem_6 ?_
    refine s_iload_n 1 E dX12_isItem_9 rfl rfl ?_
    refine s_iald E dX12_isItem_10 (fun v1 => ?_)
    refine s_iload_n 3 E dX12_isItem_11 rfl rfl ?_
    refine s_isub E dX12_isItem_12 ?_
    refine s_icmp_ge 20 E dX12_isItem_13 (by decide) ?_ ?_
    · refine s_iconst (v := (0 : Int32)) E dX12_isItem_20 (by decide) ?_
      exact s_zret E (by decide) rfl dX12_isItem_21
    · refine s_iconst (v := (1 : Int32)) E dX12_isItem_16 (by decide) ?_
      refine s_goto 21 E dX12_isItem_17 (by decide) ?_
      exact s_zret E (by decide) rfl dX12_isItem_21
set_option maxRecDepth 20000 in
theorem C_r_isItem (l : Launch) (G : GG) (a1 : Int32) (a2 : Int32) (a3 : Int32) (m : M) {z : Int32} (hz : r_isItem a1 a2 a3 m = some z) : Ct l G yX12_isItem cX12_isItem 4 (some .boolean) 1 [.ref (G.2.1 76), .int a1, .int a2, .int a3] m (some (.int z)) m :=
  ct_of (K := (KRi m)) (by decide) (Nat.le_of_ble_eq_true rfl) (congrArg (fun q => Option.bind q _) hz) (fun x hl hn E => (t_r_isItem E hn a1 a2 a3 m))
theorem mdX12_isItem : mdq yX12_isItem 3 := ⟨by decide, by decide, by decide +kernel⟩
theorem dX12_goAll_0 : decode cX12_goAll 0 = .ok (.iload_n 1, 1) := by decide +kernel
theorem dX12_goAll_1 : decode cX12_goAll 1 = .ok (.invokestatic 329, 3) := by decide +kernel
theorem dX12_goAll_4 : decode cX12_goAll 4 = .ok (.ifCond .eq 13, 3) := by decide +kernel
theorem dX12_goAll_7 : decode cX12_goAll 7 = .ok (.iload_n 3, 1) := by decide +kernel
theorem dX12_goAll_8 : decode cX12_goAll 8 = .ok (.iconst 0, 1) := by decide +kernel
theorem dX12_goAll_9 : decode cX12_goAll 9 = .ok (.bipush 20, 2) := by decide +kernel
theorem dX12_goAll_11 : decode cX12_goAll 11 = .ok (.invokestatic 71, 3) := by decide +kernel
theorem dX12_goAll_14 : decode cX12_goAll 14 = .ok (.ifCond .ne 5, 3) := by decide +kernel
theorem dX12_goAll_17 : decode cX12_goAll 17 = .ok (.iconst (-1), 1) := by decide +kernel
theorem dX12_goAll_18 : decode cX12_goAll 18 = .ok (.ireturn, 1) := by decide +kernel
theorem dX12_goAll_19 : decode cX12_goAll 19 = .ok (.aload_n 0, 1) := by decide +kernel
theorem dX12_goAll_20 : decode cX12_goAll 20 = .ok (.iload_n 1, 1) := by decide +kernel
theorem dX12_goAll_21 : decode cX12_goAll 21 = .ok (.iconst 0, 1) := by decide +kernel
theorem dX12_goAll_22 : decode cX12_goAll 22 = .ok (.invokevirtual 335, 3) := by decide +kernel
theorem dX12_goAll_25 : decode cX12_goAll 25 = .ok (.istore 4, 2) := by decide +kernel
theorem dX12_goAll_27 : decode cX12_goAll 27 = .ok (.iload 4, 2) := by decide +kernel
theorem dX12_goAll_29 : decode cX12_goAll 29 = .ok (.ifCond .eq 6, 3) := by decide +kernel
theorem dX12_goAll_32 : decode cX12_goAll 32 = .ok (.iload 4, 2) := by decide +kernel
theorem dX12_goAll_34 : decode cX12_goAll 34 = .ok (.ireturn, 1) := by decide +kernel
theorem dX12_goAll_35 : decode cX12_goAll 35 = .ok (.iconst 0, 1) := by decide +kernel
theorem dX12_goAll_36 : decode cX12_goAll 36 = .ok (.istore 5, 2) := by decide +kernel
theorem dX12_goAll_38 : decode cX12_goAll 38 = .ok (.iconst 0, 1) := by decide +kernel
theorem dX12_goAll_39 : decode cX12_goAll 39 = .ok (.istore 6, 2) := by decide +kernel
theorem dX12_goAll_41 : decode cX12_goAll 41 = .ok (.iload 6, 2) := by decide +kernel
theorem dX12_goAll_43 : decode cX12_goAll 43 = .ok (.iload_n 3, 1) := by decide +kernel
theorem dX12_goAll_44 : decode cX12_goAll 44 = .ok (.if_icmp .ge 70, 3) := by decide +kernel
theorem dX12_goAll_47 : decode cX12_goAll 47 = .ok (.aload_n 0, 1) := by decide +kernel
theorem dX12_goAll_48 : decode cX12_goAll 48 = .ok (.iload_n 1, 1) := by decide +kernel
theorem dX12_goAll_49 : decode cX12_goAll 49 = .ok (.iload_n 2, 1) := by decide +kernel
theorem dX12_goAll_50 : decode cX12_goAll 50 = .ok (.iload 6, 2) := by decide +kernel
theorem dX12_goAll_52 : decode cX12_goAll 52 = .ok (.invokevirtual 338, 3) := by decide +kernel
theorem dX12_goAll_55 : decode cX12_goAll 55 = .ok (.ifCond .ne 6, 3) := by decide +kernel
theorem dX12_goAll_58 : decode cX12_goAll 58 = .ok (.bipush (-12), 2) := by decide +kernel
theorem dX12_goAll_60 : decode cX12_goAll 60 = .ok (.ireturn, 1) := by decide +kernel
theorem dX12_goAll_61 : decode cX12_goAll 61 = .ok (.aload_n 0, 1) := by decide +kernel
theorem dX12_goAll_62 : decode cX12_goAll 62 = .ok (.getfield 59, 3) := by decide +kernel
theorem dX12_goAll_65 : decode cX12_goAll 65 = .ok (.bipush 40, 2) := by decide +kernel
theorem dX12_goAll_67 : decode cX12_goAll 67 = .ok (.iload_n 1, 1) := by decide +kernel
theorem dX12_goAll_68 : decode cX12_goAll 68 = .ok (.imul, 1) := by decide +kernel
theorem dX12_goAll_69 : decode cX12_goAll 69 = .ok (.iload_n 2, 1) := by decide +kernel
theorem dX12_goAll_70 : decode cX12_goAll 70 = .ok (.iadd, 1) := by decide +kernel
theorem dX12_goAll_71 : decode cX12_goAll 71 = .ok (.iload 6, 2) := by decide +kernel
theorem dX12_goAll_73 : decode cX12_goAll 73 = .ok (.iadd, 1) := by decide +kernel
theorem dX12_goAll_74 : decode cX12_goAll 74 = .ok (.iaload, 1) := by decide +kernel
theorem dX12_goAll_75 : decode cX12_goAll 75 = .ok (.istore 7, 2) := by decide +kernel
theorem dX12_goAll_77 : decode cX12_goAll 77 = .ok (.iload 5, 2) := by decide +kernel
theorem dX12_goAll_79 : decode cX12_goAll 79 = .ok (.aload_n 0, 1) := by decide +kernel
theorem dX12_goAll_80 : decode cX12_goAll 80 = .ok (.iload 7, 2) := by decide +kernel
theorem dX12_goAll_82 : decode cX12_goAll 82 = .ok (.invokevirtual 326, 3) := by decide +kernel
theorem dX12_goAll_85 : decode cX12_goAll 85 = .ok (.ifCond .eq 19, 3) := by decide +kernel
theorem dX12_goAll_88 : decode cX12_goAll 88 = .ok (.aload_n 0, 1) := by decide +kernel
theorem dX12_goAll_89 : decode cX12_goAll 89 = .ok (.invokevirtual 232, 3) := by decide +kernel
theorem dX12_goAll_92 : decode cX12_goAll 92 = .ok (.ifCond .ne 12, 3) := by decide +kernel
theorem dX12_goAll_95 : decode cX12_goAll 95 = .ok (.aload_n 0, 1) := by decide +kernel
theorem dX12_goAll_96 : decode cX12_goAll 96 = .ok (.iload 7, 2) := by decide +kernel
theorem dX12_goAll_98 : decode cX12_goAll 98 = .ok (.invokevirtual 238, 3) := by decide +kernel
theorem dX12_goAll_101 : decode cX12_goAll 101 = .ok (.goto 4, 3) := by decide +kernel
theorem dX12_goAll_104 : decode cX12_goAll 104 = .ok (.iconst 0, 1) := by decide +kernel
theorem dX12_goAll_105 : decode cX12_goAll 105 = .ok (.iadd, 1) := by decide +kernel
theorem dX12_goAll_106 : decode cX12_goAll 106 = .ok (.istore 5, 2) := by decide +kernel
theorem dX12_goAll_108 : decode cX12_goAll 108 = .ok (.iinc 6 1, 3) := by decide +kernel
theorem dX12_goAll_111 : decode cX12_goAll 111 = .ok (.goto (-70), 3) := by decide +kernel
theorem dX12_goAll_114 : decode cX12_goAll 114 = .ok (.iload 5, 2) := by decide +kernel
theorem dX12_goAll_116 : decode cX12_goAll 116 = .ok (.ireturn, 1) := by decide +kernel
def r_goAll_105 (a1 : Int32) (a2 : Int32) (a3 : Int32) (a6 : Int32) (s0 : Int32) (s1 : Int32) (m : M) : Option ((Int32 × Int32 × M) ⊕ ((Int32 × M) ⊕ ((M)))) :=
  lt (s0 + s1) (fun w1 : Int32 => lt (a6 + (1 : Int32)) (fun w2 : Int32 => some (.inl (w1, w2, m))))
set_option maxRecDepth 20000 in
theorem t_r_goAll_105 {G : GG} {x : Cx} {K : ((Int32 × Int32 × M) ⊕ ((Int32 × M) ⊕ ((M)))) → Option (Option Value × M)} (E : En G x cX12_goAll "WreckBoardModel" 9 (some .int)) (hn : xn x = 8) (a1 : Int32) (a2 : Int32) (a3 : Int32) (a6 : Int32) (s0 : Int32) (s1 : Int32) (m : M) (hb : ∀ z : Int32 × Int32 × M, Sm G x 41 [(0, .ref (G.2.1 76)), (1, .int a1), (2, .int a2), (3, .int a3), (5, .int z.1), (6, .int z.2.1)] [] z.2.2 (some (.inl z)) K) (hx0 : ∀ z : Int32 × M, Sm G x 114 [(5, .int z.1)] [] z.2 (some (.inr (.inl z))) K) (hx1 : ∀ z : M, Sm G x 58 [] [] z (some (.inr (.inr z))) K) : Sm G x 105 [(0, .ref (G.2.1 76)), (1, .int a1), (2, .int a2), (3, .int a3), (6, .int a6)] [.int s1, .int s0] m (r_goAll_105 a1 a2 a3 a6 s0 s1 m) K := by
  unfold r_goAll_105
  refine s_iadd E dX12_goAll_105 ?_
  refine s_lt (fun w1 => [(0, .ref (G.2.1 76)), (1, .int a1), (2, .int a2), (3, .int a3), (6, .int a6)]) (fun w1 => [.int w1]) rfl rfl (fun w1 => ?_)
  refine s_istore (lv' := [(0, .ref (G.2.1 76)), (1, .int a1), (2, .int a2), (3, .int a3), (5, .int w1), (6, .int a6)]) [1, 2, 3, 4, 0, 5] E dX12_goAll_106 (by rw [hn]; decide) rfl ?_
  refine s_iincL (v := (1 : Int32)) 5 [1, 2, 3, 4, 5, 0] (fun w2 => [(0, .ref (G.2.1 76)), (1, .int a1), (2, .int a2), (3, .int a3), (5, .int w1), (6, .int w2)]) E dX12_goAll_108 rfl (by decide) (by rw [hn]; decide) (fun _ => rfl) (fun w2 => ?_)
  refine s_goto 41 E dX12_goAll_111 (by decide) ?_
  exact hb (w1, w2, m)
def r_goAll_104 (a1 : Int32) (a2 : Int32) (a3 : Int32) (a6 : Int32) (s0 : Int32) (m : M) : Option ((Int32 × Int32 × M) ⊕ ((Int32 × M) ⊕ ((M)))) :=
  r_goAll_105 a1 a2 a3 a6 s0 (0 : Int32) m
set_option maxRecDepth 20000 in
theorem t_r_goAll_104 {G : GG} {x : Cx} {K : ((Int32 × Int32 × M) ⊕ ((Int32 × M) ⊕ ((M)))) → Option (Option Value × M)} (E : En G x cX12_goAll "WreckBoardModel" 9 (some .int)) (hn : xn x = 8) (a1 : Int32) (a2 : Int32) (a3 : Int32) (a6 : Int32) (s0 : Int32) (m : M) (hb : ∀ z : Int32 × Int32 × M, Sm G x 41 [(0, .ref (G.2.1 76)), (1, .int a1), (2, .int a2), (3, .int a3), (5, .int z.1), (6, .int z.2.1)] [] z.2.2 (some (.inl z)) K) (hx0 : ∀ z : Int32 × M, Sm G x 114 [(5, .int z.1)] [] z.2 (some (.inr (.inl z))) K) (hx1 : ∀ z : M, Sm G x 58 [] [] z (some (.inr (.inr z))) K) : Sm G x 104 [(0, .ref (G.2.1 76)), (1, .int a1), (2, .int a2), (3, .int a3), (6, .int a6)] [.int s0] m (r_goAll_104 a1 a2 a3 a6 s0 m) K := by
  unfold r_goAll_104
  refine s_iconst (v := (0 : Int32)) E dX12_goAll_104 (by decide) ?_
  exact t_r_goAll_105 E hn a1 a2 a3 a6 s0 (0 : Int32) m hb hx0 hx1
def r_goAll_41b (a1 : Int32) (a2 : Int32) (a3 : Int32) (a5 : Int32) (a6 : Int32) (m : M) : Option ((Int32 × Int32 × M) ⊕ ((Int32 × M) ⊕ ((M)))) :=
  (if a3 ≤ a6 then some (.inr (.inl (a5, m))) else Option.bind (r_isItem a1 a2 a6 m) (fun v1 => (if v1 = 0 then some (.inr (.inr m)) else Option.bind (rdI m 93 ((((40 : Int32) * a1) + a2) + a6)) (fun v2 => Option.bind (r_isAct v2 m) (fun v3 => (if v3 = 0 then r_goAll_104 a1 a2 a3 a6 a5 m else Option.bind (r_isOver m) (fun v4 => (if v4 = 0 then Option.bind (r_goesBy v2 m) (fun z5 => r_goAll_105 a1 a2 a3 a6 a5 z5.1 z5.2) else r_goAll_104 a1 a2 a3 a6 a5 m))))))))
set_option maxRecDepth 20000 in
theorem t_r_goAll_41b {G : GG} {x : Cx} {K : ((Int32 × Int32 × M) ⊕ ((Int32 × M) ⊕ ((M)))) → Option (Option Value × M)} (E : En G x cX12_goAll "WreckBoardModel" 9 (some .int)) (hn : xn x = 8) (a1 : Int32) (a2 : Int32) (a3 : Int32) (a5 : Int32) (a6 : Int32) (m : M) (hb : ∀ z : Int32 × Int32 × M, Sm G x 41 [(0, .ref (G.2.1 76)), (1, .int a1), (2, .int a2), (3, .int a3), (5, .int z.1), (6, .int z.2.1)] [] z.2.2 (some (.inl z)) K) (hx0 : ∀ z : Int32 × M, Sm G x 114 [(5, .int z.1)] [] z.2 (some (.inr (.inl z))) K) (hx1 : ∀ z : M, Sm G x 58 [] [] z (some (.inr (.inr z))) K) : Sm G x 41 [(0, .ref (G.2.1 76)), (1, .int a1), (2, .int a2), (3, .int a3), (5, .int a5), (6, .int a6)] [] m (r_goAll_41b a1 a2 a3 a5 a6 m) K := by
  unfold r_goAll_41b
  refine s_iload 5 E dX12_goAll_41 rfl ?_
  refine s_iload_n 3 E dX12_goAll_43 rfl rfl ?_
  refine s_icmp_ge 114 E dX12_goAll_44 (by decide) ?_ ?_
  · refine s_sub (lv' := [(5, .int a5)]) [4] rfl ?_
    exact hx0 (a5, m)
  · refine s_aload_n 0 E dX12_goAll_47 rfl rfl ?_
    refine s_iload_n 1 E dX12_goAll_48 rfl rfl ?_
    refine s_iload_n 2 E dX12_goAll_49 rfl rfl ?_
    refine s_iload 5 E dX12_goAll_50 rfl ?_
    refine s_bd (fun v1 hz => ?_)
    refine s_cV (rest := []) E (C_r_isItem (xl x) G a1 a2 a6 m hz) mdX12_isItem W1795 W1797 W83 W103 W1798 rfl rfl rfl rfl (Nat.le_of_ble_eq_true rfl) ⟨by decide, by decide⟩ dX12_goAll_52 ?_
    refine s_if_ne 61 E dX12_goAll_55 (by decide) ?_ ?_
    · refine s_aload_n 0 E dX12_goAll_61 rfl rfl ?_
      refine s_getr (k := 31) (T := TX12) 76 E rfl rfl rfl inX12 (by decide) W1270 dX12_goAll_62 ?_
      refine s_bipush (v := (40 : Int32)) E dX12_goAll_65 (by decide) ?_
      refine s_iload_n 1 E dX12_goAll_67 rfl rfl ?_
      refine s_imul E dX12_goAll_68 ?_
      refine s_iload_n 2 E dX12_goAll_69 rfl rfl ?_
      refine s_iadd E dX12_goAll_70 ?_
      refine s_iload 5 E dX12_goAll_71 rfl ?_
      refine s_iadd E dX12_goAll_73 ?_
      refine s_iald E dX12_goAll_74 (fun v2 => ?_)
      refine s_istore (lv' := [(0, .ref (G.2.1 76)), (1, .int a1), (2, .int a2), (3, .int a3), (5, .int a5), (6, .int a6), (7, .int v2)]) [1, 2, 3, 4, 5, 6, 0] E dX12_goAll_75 (by rw [hn]; decide) rfl ?_
      refine s_iload 4 E dX12_goAll_77 rfl ?_
      refine s_aload_n 0 E dX12_goAll_79 rfl rfl ?_
      refine s_iload 6 E dX12_goAll_80 rfl ?_
      refine s_bd (fun v3 hz => ?_)
      refine s_cV (rest := [.int a5]) E (C_r_isAct (xl x) G v2 m hz) mdX12_isAct W1765 W1767 W81 W103 W1768 rfl rfl rfl rfl (Nat.le_of_ble_eq_true rfl) ⟨by decide, by decide⟩ dX12_goAll_82 ?_
      refine s_if_eq 104 E dX12_goAll_85 (by decide) ?_ ?_
      · refine s_sub (lv' := [(0, .ref (G.2.1 76)), (1, .int a1), (2, .int a2), (3, .int a3), (6, .int a6)]) [0, 1, 2, 3, 5] rfl ?_
        exact t_r_goAll_104 E hn a1 a2 a3 a6 a5 m hb hx0 hx1
      · refine s_aload_n 0 E dX12_goAll_88 rfl rfl ?_
        refine s_bd (fun v4 hz => ?_)
        refine s_cV (rest := [.int a5]) E (C_r_isOver (xl x) G  m hz) mdX12_isOver W1545 W1547 W57 W103 W1548 rfl rfl rfl rfl (Nat.le_of_ble_eq_true rfl) ⟨by decide, by decide⟩ dX12_goAll_89 ?_
        refine s_if_ne 104 E dX12_goAll_92 (by decide) ?_ ?_
        · refine s_sub (lv' := [(0, .ref (G.2.1 76)), (1, .int a1), (2, .int a2), (3, .int a3), (6, .int a6)]) [0, 1, 2, 3, 5] rfl ?_
          exact t_r_goAll_104 E hn a1 a2 a3 a6 a5 m hb hx0 hx1
        · refine s_aload_n 0 E dX12_goAll_95 rfl rfl ?_
          refine s_iload 6 E dX12_goAll_96 rfl ?_
          refine s_bd (fun z5 hz => ?_)
          refine s_cV (rest := [.int a5]) E (C_r_goesBy (xl x) G v2 m hz) mdX12_goesBy W1557 W1559 W59 W103 W1560 rfl rfl rfl rfl (Nat.le_of_ble_eq_true rfl) ⟨by decide, by decide⟩ dX12_goAll_98 ?_
          refine s_goto 105 E dX12_goAll_101 (by decide) ?_
          refine s_sub (lv' := [(0, .ref (G.2.1 76)), (1, .int a1), (2, .int a2), (3, .int a3), (6, .int a6)]) [0, 1, 2, 3, 5] rfl ?_
          exact t_r_goAll_105 E hn a1 a2 a3 a6 a5 z5.1 z5.2 hb hx0 hx1
    · refine s_sub (lv' := []) [] rfl ?_
      exact hx1 m
def r_goAll_41 (a1 : Int32) (a2 : Int32) (a3 : Int32) (a5 : Int32) (a6 : Int32) (m : M) : Option (Int32 × M) :=
  Option.bind (iter (fun z => r_goAll_41b a1 a2 a3 z.1 z.2.1 z.2.2) FU (a5, a6, m)) (fun r => (match r with
  | .inl r => some (r.1, r.2)
  | .inr r => some ((-12 : Int32), r)))
set_option maxRecDepth 20000 in
theorem t_r_goAll_41 {G : GG} {x : Cx} (E : En G x cX12_goAll "WreckBoardModel" 9 (some .int)) (hn : xn x = 8) (a1 : Int32) (a2 : Int32) (a3 : Int32) (a5 : Int32) (a6 : Int32) (m : M) : Sm G x 41 [(0, .ref (G.2.1 76)), (1, .int a1), (2, .int a2), (3, .int a3), (5, .int a5), (6, .int a6)] [] m (r_goAll_41 a1 a2 a3 a5 a6 m) KWi := by
  unfold r_goAll_41
  refine s_loop (fun z => [(0, .ref (G.2.1 76)), (1, .int a1), (2, .int a2), (3, .int a3), (5, .int z.1), (6, .int z.2.1)]) (fun z => z.2.2) (fun K2 hb2 hr2 z => ?_) FU (a5, a6, m)
  refine t_r_goAll_41b (K := K2) E hn a1 a2 a3 z.1 z.2.1 z.2.2 hb2 (fun r => s_out (hr2 (.inl r)) ?_) (fun r => s_out (hr2 (.inr r)) ?_)
  · refine s_iload 0 E dX12_goAll_114 rfl ?_
    exact s_iret E rfl dX12_goAll_116
  · refine s_bipush (v := (-12 : Int32)) E dX12_goAll_58 (by decide) ?_
    exact s_iret E rfl dX12_goAll_60
def r_goAll (a1 : Int32) (a2 : Int32) (a3 : Int32) (m : M) : Option (Int32 × M) :=
  Option.bind (r_isSheet a1 m) (fun v1 => (if v1 = 0 then some ((-1 : Int32), m) else Option.bind (r_in1 a3 (0 : Int32) (20 : Int32) m) (fun v2 => (if v2 = 0 then some ((-1 : Int32), m) else Option.bind (r_lacks a1 (0 : Int32) m) (fun v3 => (if v3 = 0 then r_goAll_41 a1 a2 a3 (0 : Int32) (0 : Int32) m else some (v3, m)))))))
set_option maxRecDepth 20000 in
theorem t_r_goAll {G : GG} {x : Cx} (E : En G x cX12_goAll "WreckBoardModel" 9 (some .int)) (hn : xn x = 8) (a1 : Int32) (a2 : Int32) (a3 : Int32) (m : M) : Sm G x 0 [(0, .ref (G.2.1 76)), (1, .int a1), (2, .int a2), (3, .int a3)] [] m (r_goAll a1 a2 a3 m) KWi := by
  unfold r_goAll
  refine s_iload_n 1 E dX12_goAll_0 rfl rfl ?_
  refine s_bd (fun v1 hz => ?_)
  refine s_cS (rest := []) E (C_r_isSheet (xl x) G a1 m hz) mdX12_isSheet W1773 W1774 W103 W1775 rfl rfl (Nat.le_of_ble_eq_true rfl) ⟨by decide, by decide⟩ dX12_goAll_1 ?_
  refine s_if_eq 17 E dX12_goAll_4 (by decide) ?_ ?_
  · refine s_iconst (v := (-1 : Int32)) E dX12_goAll_17 (by decide) ?_
    exact s_iret E rfl dX12_goAll_18
  · refine s_iload_n 3 E dX12_goAll_7 rfl rfl ?_
    refine s_iconst (v := (0 : Int32)) E dX12_goAll_8 (by decide) ?_
    refine s_bipush (v := (20 : Int32)) E dX12_goAll_9 (by decide) ?_
    refine s_bd (fun v2 hz => ?_)
    refine s_cS (rest := []) E (C_r_in1 (xl x) G a3 (0 : Int32) (20 : Int32) m hz) mdX12_in1 W1359 W1360 W103 W1361 rfl rfl (Nat.le_of_ble_eq_true rfl) ⟨by decide, by decide⟩ dX12_goAll_11 ?_
    refine s_if_ne 19 E dX12_goAll_14 (by decide) ?_ ?_
    · refine s_aload_n 0 E dX12_goAll_19 rfl rfl ?_
      refine s_iload_n 1 E dX12_goAll_20 rfl rfl ?_
      refine s_iconst (v := (0 : Int32)) E dX12_goAll_21 (by decide) ?_
      refine s_bd (fun v3 hz => ?_)
      refine s_cV (rest := []) E (C_r_lacks (xl x) G a1 (0 : Int32) m hz) mdX12_lacks W1787 W1789 W82 W103 W1790 rfl rfl rfl rfl (Nat.le_of_ble_eq_true rfl) ⟨by decide, by decide⟩ dX12_goAll_22 ?_
      refine s_istore (lv' := [(0, .ref (G.2.1 76)), (1, .int a1), (2, .int a2), (3, .int a3), (4, .int v3)]) [1, 2, 3, 4, 0] E dX12_goAll_25 (by rw [hn]; decide) rfl ?_
      refine s_iload 4 E dX12_goAll_27 rfl ?_
      refine s_if_eq 35 E dX12_goAll_29 (by decide) ?_ ?_
      · refine s_iconst (v := (0 : Int32)) E dX12_goAll_35 (by decide) ?_
        refine s_istore (lv' := [(0, .ref (G.2.1 76)), (1, .int a1), (2, .int a2), (3, .int a3), (5, .int (0 : Int32))]) [1, 2, 3, 4, 0] E dX12_goAll_36 (by rw [hn]; decide) rfl ?_
        refine s_iconst (v := (0 : Int32)) E dX12_goAll_38 (by decide) ?_
        refine s_istore (lv' := [(0, .ref (G.2.1 76)), (1, .int a1), (2, .int a2), (3, .int a3), (5, .int (0 : Int32)), (6, .int (0 : Int32))]) [1, 2, 3, 4, 5, 0] E dX12_goAll_39 (by rw [hn]; decide) rfl ?_
        exact t_r_goAll_41 E hn a1 a2 a3 (0 : Int32) (0 : Int32) m
      · refine s_iload 4 E dX12_goAll_32 rfl ?_
        exact s_iret E rfl dX12_goAll_34
    · refine s_iconst (v := (-1 : Int32)) E dX12_goAll_17 (by decide) ?_
      exact s_iret E rfl dX12_goAll_18
set_option maxRecDepth 20000 in
theorem C_r_goAll (l : Launch) (G : GG) (a1 : Int32) (a2 : Int32) (a3 : Int32) (m : M) {z : Int32 × M} (hz : r_goAll a1 a2 a3 m = some z) : Ct l G yX12_goAll cX12_goAll 8 (some .int) 9 [.ref (G.2.1 76), .int a1, .int a2, .int a3] m (some (.int z.1)) z.2 :=
  ct_of (K := KWi) (by decide) (Nat.le_of_ble_eq_true rfl) (congrArg (fun q => Option.bind q _) hz) (fun x hl hn E => (t_r_goAll E hn a1 a2 a3 m))
theorem dX12_wouldBe_0 : decode cX12_wouldBe 0 = .ok (.iload_n 1, 1) := by decide +kernel
theorem dX12_wouldBe_1 : decode cX12_wouldBe 1 = .ok (.invokestatic 329, 3) := by decide +kernel
theorem dX12_wouldBe_4 : decode cX12_wouldBe 4 = .ok (.ifCond .eq 13, 3) := by decide +kernel
theorem dX12_wouldBe_7 : decode cX12_wouldBe 7 = .ok (.iload_n 3, 1) := by decide +kernel
theorem dX12_wouldBe_8 : decode cX12_wouldBe 8 = .ok (.iconst 0, 1) := by decide +kernel
theorem dX12_wouldBe_9 : decode cX12_wouldBe 9 = .ok (.bipush 20, 2) := by decide +kernel
theorem dX12_wouldBe_11 : decode cX12_wouldBe 11 = .ok (.invokestatic 71, 3) := by decide +kernel
theorem dX12_wouldBe_14 : decode cX12_wouldBe 14 = .ok (.ifCond .ne 5, 3) := by decide +kernel
theorem dX12_wouldBe_17 : decode cX12_wouldBe 17 = .ok (.iconst (-1), 1) := by decide +kernel
theorem dX12_wouldBe_18 : decode cX12_wouldBe 18 = .ok (.ireturn, 1) := by decide +kernel
theorem dX12_wouldBe_19 : decode cX12_wouldBe 19 = .ok (.aload_n 0, 1) := by decide +kernel
theorem dX12_wouldBe_20 : decode cX12_wouldBe 20 = .ok (.iload_n 1, 1) := by decide +kernel
theorem dX12_wouldBe_21 : decode cX12_wouldBe 21 = .ok (.iconst 0, 1) := by decide +kernel
theorem dX12_wouldBe_22 : decode cX12_wouldBe 22 = .ok (.invokevirtual 335, 3) := by decide +kernel
theorem dX12_wouldBe_25 : decode cX12_wouldBe 25 = .ok (.istore 4, 2) := by decide +kernel
theorem dX12_wouldBe_27 : decode cX12_wouldBe 27 = .ok (.iconst 0, 1) := by decide +kernel
theorem dX12_wouldBe_28 : decode cX12_wouldBe 28 = .ok (.istore 5, 2) := by decide +kernel
theorem dX12_wouldBe_30 : decode cX12_wouldBe 30 = .ok (.aload_n 0, 1) := by decide +kernel
theorem dX12_wouldBe_31 : decode cX12_wouldBe 31 = .ok (.invokevirtual 241, 3) := by decide +kernel
theorem dX12_wouldBe_34 : decode cX12_wouldBe 34 = .ok (.iconst 0, 1) := by decide +kernel
theorem dX12_wouldBe_35 : decode cX12_wouldBe 35 = .ok (.istore 6, 2) := by decide +kernel
theorem dX12_wouldBe_37 : decode cX12_wouldBe 37 = .ok (.iload 6, 2) := by decide +kernel
theorem dX12_wouldBe_39 : decode cX12_wouldBe 39 = .ok (.iload_n 3, 1) := by decide +kernel
theorem dX12_wouldBe_40 : decode cX12_wouldBe 40 = .ok (.if_icmp .ge 105, 3) := by decide +kernel
theorem dX12_wouldBe_43 : decode cX12_wouldBe 43 = .ok (.iload 4, 2) := by decide +kernel
theorem dX12_wouldBe_45 : decode cX12_wouldBe 45 = .ok (.ifCond .ne 100, 3) := by decide +kernel
theorem dX12_wouldBe_48 : decode cX12_wouldBe 48 = .ok (.aload_n 0, 1) := by decide +kernel
theorem dX12_wouldBe_49 : decode cX12_wouldBe 49 = .ok (.iload_n 1, 1) := by decide +kernel
theorem dX12_wouldBe_50 : decode cX12_wouldBe 50 = .ok (.iload_n 2, 1) := by decide +kernel
theorem dX12_wouldBe_51 : decode cX12_wouldBe 51 = .ok (.iload 6, 2) := by decide +kernel
theorem dX12_wouldBe_53 : decode cX12_wouldBe 53 = .ok (.invokevirtual 338, 3) := by decide +kernel
theorem dX12_wouldBe_56 : decode cX12_wouldBe 56 = .ok (.ifCond .eq 20, 3) := by decide +kernel
theorem dX12_wouldBe_59 : decode cX12_wouldBe 59 = .ok (.aload_n 0, 1) := by decide +kernel
theorem dX12_wouldBe_60 : decode cX12_wouldBe 60 = .ok (.getfield 59, 3) := by decide +kernel
theorem dX12_wouldBe_63 : decode cX12_wouldBe 63 = .ok (.bipush 40, 2) := by decide +kernel
theorem dX12_wouldBe_65 : decode cX12_wouldBe 65 = .ok (.iload_n 1, 1) := by decide +kernel
theorem dX12_wouldBe_66 : decode cX12_wouldBe 66 = .ok (.imul, 1) := by decide +kernel
theorem dX12_wouldBe_67 : decode cX12_wouldBe 67 = .ok (.iload_n 2, 1) := by decide +kernel
theorem dX12_wouldBe_68 : decode cX12_wouldBe 68 = .ok (.iadd, 1) := by decide +kernel
theorem dX12_wouldBe_69 : decode cX12_wouldBe 69 = .ok (.iload 6, 2) := by decide +kernel
theorem dX12_wouldBe_71 : decode cX12_wouldBe 71 = .ok (.iadd, 1) := by decide +kernel
theorem dX12_wouldBe_72 : decode cX12_wouldBe 72 = .ok (.iaload, 1) := by decide +kernel
theorem dX12_wouldBe_73 : decode cX12_wouldBe 73 = .ok (.goto 4, 3) := by decide +kernel
theorem dX12_wouldBe_76 : decode cX12_wouldBe 76 = .ok (.iconst (-1), 1) := by decide +kernel
theorem dX12_wouldBe_77 : decode cX12_wouldBe 77 = .ok (.istore 7, 2) := by decide +kernel
theorem dX12_wouldBe_79 : decode cX12_wouldBe 79 = .ok (.aload_n 0, 1) := by decide +kernel
theorem dX12_wouldBe_80 : decode cX12_wouldBe 80 = .ok (.iload_n 1, 1) := by decide +kernel
theorem dX12_wouldBe_81 : decode cX12_wouldBe 81 = .ok (.iload_n 2, 1) := by decide +kernel
theorem dX12_wouldBe_82 : decode cX12_wouldBe 82 = .ok (.iload 6, 2) := by decide +kernel
theorem dX12_wouldBe_84 : decode cX12_wouldBe 84 = .ok (.invokevirtual 338, 3) := by decide +kernel
theorem dX12_wouldBe_87 : decode cX12_wouldBe 87 = .ok (.ifCond .ne 8, 3) := by decide +kernel
theorem dX12_wouldBe_90 : decode cX12_wouldBe 90 = .ok (.bipush (-12), 2) := by decide +kernel
theorem dX12_wouldBe_92 : decode cX12_wouldBe 92 = .ok (.goto 25, 3) := by decide +kernel
theorem dX12_wouldBe_95 : decode cX12_wouldBe 95 = .ok (.aload_n 0, 1) := by decide +kernel
theorem dX12_wouldBe_96 : decode cX12_wouldBe 96 = .ok (.iload 7, 2) := by decide +kernel
theorem dX12_wouldBe_98 : decode cX12_wouldBe 98 = .ok (.invokevirtual 326, 3) := by decide +kernel
theorem dX12_wouldBe_101 : decode cX12_wouldBe 101 = .ok (.ifCond .eq 10, 3) := by decide +kernel
theorem dX12_wouldBe_104 : decode cX12_wouldBe 104 = .ok (.aload_n 0, 1) := by decide +kernel
theorem dX12_wouldBe_105 : decode cX12_wouldBe 105 = .ok (.invokevirtual 232, 3) := by decide +kernel
theorem dX12_wouldBe_108 : decode cX12_wouldBe 108 = .ok (.ifCond .eq 8, 3) := by decide +kernel
theorem dX12_wouldBe_111 : decode cX12_wouldBe 111 = .ok (.bipush (-4), 2) := by decide +kernel
theorem dX12_wouldBe_113 : decode cX12_wouldBe 113 = .ok (.goto 4, 3) := by decide +kernel
theorem dX12_wouldBe_116 : decode cX12_wouldBe 116 = .ok (.iconst 0, 1) := by decide +kernel
theorem dX12_wouldBe_117 : decode cX12_wouldBe 117 = .ok (.istore 4, 2) := by decide +kernel
theorem dX12_wouldBe_119 : decode cX12_wouldBe 119 = .ok (.iload 5, 2) := by decide +kernel
theorem dX12_wouldBe_121 : decode cX12_wouldBe 121 = .ok (.iload 4, 2) := by decide +kernel
theorem dX12_wouldBe_123 : decode cX12_wouldBe 123 = .ok (.ifCond .ne 12, 3) := by decide +kernel
theorem dX12_wouldBe_126 : decode cX12_wouldBe 126 = .ok (.aload_n 0, 1) := by decide +kernel
theorem dX12_wouldBe_127 : decode cX12_wouldBe 127 = .ok (.iload 7, 2) := by decide +kernel
theorem dX12_wouldBe_129 : decode cX12_wouldBe 129 = .ok (.invokevirtual 238, 3) := by decide +kernel
theorem dX12_wouldBe_132 : decode cX12_wouldBe 132 = .ok (.goto 4, 3) := by decide +kernel
theorem dX12_wouldBe_135 : decode cX12_wouldBe 135 = .ok (.iconst 0, 1) := by decide +kernel
theorem dX12_wouldBe_136 : decode cX12_wouldBe 136 = .ok (.iadd, 1) := by decide +kernel
theorem dX12_wouldBe_137 : decode cX12_wouldBe 137 = .ok (.istore 5, 2) := by decide +kernel
theorem dX12_wouldBe_139 : decode cX12_wouldBe 139 = .ok (.iinc 6 1, 3) := by decide +kernel
theorem dX12_wouldBe_142 : decode cX12_wouldBe 142 = .ok (.goto (-105), 3) := by decide +kernel
theorem dX12_wouldBe_145 : decode cX12_wouldBe 145 = .ok (.aload_n 0, 1) := by decide +kernel
theorem dX12_wouldBe_146 : decode cX12_wouldBe 146 = .ok (.invokevirtual 247, 3) := by decide +kernel
theorem dX12_wouldBe_149 : decode cX12_wouldBe 149 = .ok (.iload 4, 2) := by decide +kernel
theorem dX12_wouldBe_151 : decode cX12_wouldBe 151 = .ok (.ifCond .eq 8, 3) := by decide +kernel
theorem dX12_wouldBe_154 : decode cX12_wouldBe 154 = .ok (.iload 4, 2) := by decide +kernel
theorem dX12_wouldBe_156 : decode cX12_wouldBe 156 = .ok (.goto 5, 3) := by decide +kernel
theorem dX12_wouldBe_159 : decode cX12_wouldBe 159 = .ok (.iload 5, 2) := by decide +kernel
theorem dX12_wouldBe_161 : decode cX12_wouldBe 161 = .ok (.ireturn, 1) := by decide +kernel
def r_wouldBe_136 (a1 : Int32) (a2 : Int32) (a3 : Int32) (a4 : Int32) (a6 : Int32) (s0 : Int32) (s1 : Int32) (m : M) : Option ((Int32 × Int32 × Int32 × M) ⊕ ((Int32 × Int32 × M))) :=
  lt (s0 + s1) (fun w1 : Int32 => lt (a6 + (1 : Int32)) (fun w2 : Int32 => some (.inl (a4, w1, w2, m))))
set_option maxRecDepth 20000 in
theorem t_r_wouldBe_136 {G : GG} {x : Cx} {K : ((Int32 × Int32 × Int32 × M) ⊕ ((Int32 × Int32 × M))) → Option (Option Value × M)} (E : En G x cX12_wouldBe "WreckBoardModel" 9 (some .int)) (hn : xn x = 8) (a1 : Int32) (a2 : Int32) (a3 : Int32) (a4 : Int32) (a6 : Int32) (s0 : Int32) (s1 : Int32) (m : M) (hb : ∀ z : Int32 × Int32 × Int32 × M, Sm G x 37 [(0, .ref (G.2.1 76)), (1, .int a1), (2, .int a2), (3, .int a3), (4, .int z.1), (5, .int z.2.1), (6, .int z.2.2.1)] [] z.2.2.2 (some (.inl z)) K) (hx0 : ∀ z : Int32 × Int32 × M, Sm G x 145 [(0, .ref (G.2.1 76)), (4, .int z.1), (5, .int z.2.1)] [] z.2.2 (some (.inr z)) K) : Sm G x 136 [(0, .ref (G.2.1 76)), (1, .int a1), (2, .int a2), (3, .int a3), (4, .int a4), (6, .int a6)] [.int s1, .int s0] m (r_wouldBe_136 a1 a2 a3 a4 a6 s0 s1 m) K := by
  unfold r_wouldBe_136
  refine s_iadd E dX12_wouldBe_136 ?_
  refine s_lt (fun w1 => [(0, .ref (G.2.1 76)), (1, .int a1), (2, .int a2), (3, .int a3), (4, .int a4), (6, .int a6)]) (fun w1 => [.int w1]) rfl rfl (fun w1 => ?_)
  refine s_istore (lv' := [(0, .ref (G.2.1 76)), (1, .int a1), (2, .int a2), (3, .int a3), (4, .int a4), (5, .int w1), (6, .int a6)]) [1, 2, 3, 4, 5, 0, 6] E dX12_wouldBe_137 (by rw [hn]; decide) rfl ?_
  refine s_iincL (v := (1 : Int32)) 6 [1, 2, 3, 4, 5, 6, 0] (fun w2 => [(0, .ref (G.2.1 76)), (1, .int a1), (2, .int a2), (3, .int a3), (4, .int a4), (5, .int w1), (6, .int w2)]) E dX12_wouldBe_139 rfl (by decide) (by rw [hn]; decide) (fun _ => rfl) (fun w2 => ?_)
  refine s_goto 37 E dX12_wouldBe_142 (by decide) ?_
  exact hb (a4, w1, w2, m)
def r_wouldBe_117 (a1 : Int32) (a2 : Int32) (a3 : Int32) (a5 : Int32) (a6 : Int32) (a7 : Int32) (s0 : Int32) (m : M) : Option ((Int32 × Int32 × Int32 × M) ⊕ ((Int32 × Int32 × M))) :=
  (if s0 = 0 then Option.bind (r_goesBy a7 m) (fun z1 => r_wouldBe_136 a1 a2 a3 s0 a6 a5 z1.1 z1.2) else r_wouldBe_136 a1 a2 a3 s0 a6 a5 (0 : Int32) m)
set_option maxRecDepth 20000 in
theorem t_r_wouldBe_117 {G : GG} {x : Cx} {K : ((Int32 × Int32 × Int32 × M) ⊕ ((Int32 × Int32 × M))) → Option (Option Value × M)} (E : En G x cX12_wouldBe "WreckBoardModel" 9 (some .int)) (hn : xn x = 8) (a1 : Int32) (a2 : Int32) (a3 : Int32) (a5 : Int32) (a6 : Int32) (a7 : Int32) (s0 : Int32) (m : M) (hb : ∀ z : Int32 × Int32 × Int32 × M, Sm G x 37 [(0, .ref (G.2.1 76)), (1, .int a1), (2, .int a2), (3, .int a3), (4, .int z.1), (5, .int z.2.1), (6, .int z.2.2.1)] [] z.2.2.2 (some (.inl z)) K) (hx0 : ∀ z : Int32 × Int32 × M, Sm G x 145 [(0, .ref (G.2.1 76)), (4, .int z.1), (5, .int z.2.1)] [] z.2.2 (some (.inr z)) K) : Sm G x 117 [(0, .ref (G.2.1 76)), (1, .int a1), (2, .int a2), (3, .int a3), (5, .int a5), (6, .int a6), (7, .int a7)] [.int s0] m (r_wouldBe_117 a1 a2 a3 a5 a6 a7 s0 m) K := by
  unfold r_wouldBe_117
  refine s_istore (lv' := [(0, .ref (G.2.1 76)), (1, .int a1), (2, .int a2), (3, .int a3), (4, .int s0), (5, .int a5), (6, .int a6), (7, .int a7)]) [1, 2, 3, 4, 0, 5, 6, 7] E dX12_wouldBe_117 (by rw [hn]; decide) rfl ?_
  refine s_iload 5 E dX12_wouldBe_119 rfl ?_
  refine s_iload 4 E dX12_wouldBe_121 rfl ?_
  refine s_if_ne 135 E dX12_wouldBe_123 (by decide) ?_ ?_
  · refine s_iconst (v := (0 : Int32)) E dX12_wouldBe_135 (by decide) ?_
    refine s_sub (lv' := [(0, .ref (G.2.1 76)), (1, .int a1), (2, .int a2), (3, .int a3), (4, .int s0), (6, .int a6)]) [0, 1, 2, 3, 4, 6] rfl ?_
    exact t_r_wouldBe_136 E hn a1 a2 a3 s0 a6 a5 (0 : Int32) m hb hx0
  · refine s_aload_n 0 E dX12_wouldBe_126 rfl rfl ?_
    refine s_iload 7 E dX12_wouldBe_127 rfl ?_
    refine s_bd (fun z1 hz => ?_)
    refine s_cV (rest := [.int a5]) E (C_r_goesBy (xl x) G a7 m hz) mdX12_goesBy W1557 W1559 W59 W103 W1560 rfl rfl rfl rfl (Nat.le_of_ble_eq_true rfl) ⟨by decide, by decide⟩ dX12_wouldBe_129 ?_
    refine s_goto 136 E dX12_wouldBe_132 (by decide) ?_
    refine s_sub (lv' := [(0, .ref (G.2.1 76)), (1, .int a1), (2, .int a2), (3, .int a3), (4, .int s0), (6, .int a6)]) [0, 1, 2, 3, 4, 6] rfl ?_
    exact t_r_wouldBe_136 E hn a1 a2 a3 s0 a6 a5 z1.1 z1.2 hb hx0
def r_wouldBe_111 (a1 : Int32) (a2 : Int32) (a3 : Int32) (a5 : Int32) (a6 : Int32) (a7 : Int32) (m : M) : Option ((Int32 × Int32 × Int32 × M) ⊕ ((Int32 × Int32 × M))) :=
  r_wouldBe_117 a1 a2 a3 a5 a6 a7 (-4 : Int32) m
set_option maxRecDepth 20000 in
theorem t_r_wouldBe_111 {G : GG} {x : Cx} {K : ((Int32 × Int32 × Int32 × M) ⊕ ((Int32 × Int32 × M))) → Option (Option Value × M)} (E : En G x cX12_wouldBe "WreckBoardModel" 9 (some .int)) (hn : xn x = 8) (a1 : Int32) (a2 : Int32) (a3 : Int32) (a5 : Int32) (a6 : Int32) (a7 : Int32) (m : M) (hb : ∀ z : Int32 × Int32 × Int32 × M, Sm G x 37 [(0, .ref (G.2.1 76)), (1, .int a1), (2, .int a2), (3, .int a3), (4, .int z.1), (5, .int z.2.1), (6, .int z.2.2.1)] [] z.2.2.2 (some (.inl z)) K) (hx0 : ∀ z : Int32 × Int32 × M, Sm G x 145 [(0, .ref (G.2.1 76)), (4, .int z.1), (5, .int z.2.1)] [] z.2.2 (some (.inr z)) K) : Sm G x 111 [(0, .ref (G.2.1 76)), (1, .int a1), (2, .int a2), (3, .int a3), (5, .int a5), (6, .int a6), (7, .int a7)] [] m (r_wouldBe_111 a1 a2 a3 a5 a6 a7 m) K := by
  unfold r_wouldBe_111
  refine s_bipush (v := (-4 : Int32)) E dX12_wouldBe_111 (by decide) ?_
  refine s_goto 117 E dX12_wouldBe_113 (by decide) ?_
  exact t_r_wouldBe_117 E hn a1 a2 a3 a5 a6 a7 (-4 : Int32) m hb hx0
def r_wouldBe_77 (a1 : Int32) (a2 : Int32) (a3 : Int32) (a5 : Int32) (a6 : Int32) (s0 : Int32) (m : M) : Option ((Int32 × Int32 × Int32 × M) ⊕ ((Int32 × Int32 × M))) :=
  Option.bind (r_isItem a1 a2 a6 m) (fun v1 => (if v1 = 0 then r_wouldBe_117 a1 a2 a3 a5 a6 s0 (-12 : Int32) m else Option.bind (r_isAct s0 m) (fun v2 => (if v2 = 0 then r_wouldBe_111 a1 a2 a3 a5 a6 s0 m else Option.bind (r_isOver m) (fun v3 => (if v3 = 0 then r_wouldBe_117 a1 a2 a3 a5 a6 s0 (0 : Int32) m else r_wouldBe_111 a1 a2 a3 a5 a6 s0 m))))))
set_option maxRecDepth 20000 in
theorem t_r_wouldBe_77 {G : GG} {x : Cx} {K : ((Int32 × Int32 × Int32 × M) ⊕ ((Int32 × Int32 × M))) → Option (Option Value × M)} (E : En G x cX12_wouldBe "WreckBoardModel" 9 (some .int)) (hn : xn x = 8) (a1 : Int32) (a2 : Int32) (a3 : Int32) (a5 : Int32) (a6 : Int32) (s0 : Int32) (m : M) (hb : ∀ z : Int32 × Int32 × Int32 × M, Sm G x 37 [(0, .ref (G.2.1 76)), (1, .int a1), (2, .int a2), (3, .int a3), (4, .int z.1), (5, .int z.2.1), (6, .int z.2.2.1)] [] z.2.2.2 (some (.inl z)) K) (hx0 : ∀ z : Int32 × Int32 × M, Sm G x 145 [(0, .ref (G.2.1 76)), (4, .int z.1), (5, .int z.2.1)] [] z.2.2 (some (.inr z)) K) : Sm G x 77 [(0, .ref (G.2.1 76)), (1, .int a1), (2, .int a2), (3, .int a3), (5, .int a5), (6, .int a6)] [.int s0] m (r_wouldBe_77 a1 a2 a3 a5 a6 s0 m) K := by
  unfold r_wouldBe_77
  refine s_istore (lv' := [(0, .ref (G.2.1 76)), (1, .int a1), (2, .int a2), (3, .int a3), (5, .int a5), (6, .int a6), (7, .int s0)]) [1, 2, 3, 4, 5, 6, 0] E dX12_wouldBe_77 (by rw [hn]; decide) rfl ?_
  refine s_aload_n 0 E dX12_wouldBe_79 rfl rfl ?_
  refine s_iload_n 1 E dX12_wouldBe_80 rfl rfl ?_
  refine s_iload_n 2 E dX12_wouldBe_81 rfl rfl ?_
  refine s_iload 5 E dX12_wouldBe_82 rfl ?_
  refine s_bd (fun v1 hz => ?_)
  refine s_cV (rest := []) E (C_r_isItem (xl x) G a1 a2 a6 m hz) mdX12_isItem W1795 W1797 W83 W103 W1798 rfl rfl rfl rfl (Nat.le_of_ble_eq_true rfl) ⟨by decide, by decide⟩ dX12_wouldBe_84 ?_
  refine s_if_ne 95 E dX12_wouldBe_87 (by decide) ?_ ?_
  · refine s_aload_n 0 E dX12_wouldBe_95 rfl rfl ?_
    refine s_iload 6 E dX12_wouldBe_96 rfl ?_
    refine s_bd (fun v2 hz => ?_)
    refine s_cV (rest := []) E (C_r_isAct (xl x) G s0 m hz) mdX12_isAct W1765 W1767 W81 W103 W1768 rfl rfl rfl rfl (Nat.le_of_ble_eq_true rfl) ⟨by decide, by decide⟩ dX12_wouldBe_98 ?_
    refine s_if_eq 111 E dX12_wouldBe_101 (by decide) ?_ ?_
    · exact t_r_wouldBe_111 E hn a1 a2 a3 a5 a6 s0 m hb hx0
    · refine s_aload_n 0 E dX12_wouldBe_104 rfl rfl ?_
      refine s_bd (fun v3 hz => ?_)
      refine s_cV (rest := []) E (C_r_isOver (xl x) G  m hz) mdX12_isOver W1545 W1547 W57 W103 W1548 rfl rfl rfl rfl (Nat.le_of_ble_eq_true rfl) ⟨by decide, by decide⟩ dX12_wouldBe_105 ?_
      refine s_if_eq 116 E dX12_wouldBe_108 (by decide) ?_ ?_
      · refine s_iconst (v := (0 : Int32)) E dX12_wouldBe_116 (by decide) ?_
        exact t_r_wouldBe_117 E hn a1 a2 a3 a5 a6 s0 (0 : Int32) m hb hx0
      · exact t_r_wouldBe_111 E hn a1 a2 a3 a5 a6 s0 m hb hx0
  · refine s_bipush (v := (-12 : Int32)) E dX12_wouldBe_90 (by decide) ?_
    refine s_goto 117 E dX12_wouldBe_92 (by decide) ?_
    exact t_r_wouldBe_117 E hn a1 a2 a3 a5 a6 s0 (-12 : Int32) m hb hx0
def r_wouldBe_37b (a1 : Int32) (a2 : Int32) (a3 : Int32) (a4 : Int32) (a5 : Int32) (a6 : Int32) (m : M) : Option ((Int32 × Int32 × Int32 × M) ⊕ ((Int32 × Int32 × M))) :=
  (if a3 ≤ a6 then some (.inr (a4, a5, m)) else (if a4 = 0 then Option.bind (r_isItem a1 a2 a6 m) (fun v1 => (if v1 = 0 then r_wouldBe_77 a1 a2 a3 a5 a6 (-1 : Int32) m else Option.bind (rdI m 93 ((((40 : Int32) * a1) + a2) + a6)) (fun v2 => r_wouldBe_77 a1 a2 a3 a5 a6 v2 m))) else some (.inr (a4, a5, m))))
set_option maxRecDepth 20000 in
theorem t_r_wouldBe_37b {G : GG} {x : Cx} {K : ((Int32 × Int32 × Int32 × M) ⊕ ((Int32 × Int32 × M))) → Option (Option Value × M)} (E : En G x cX12_wouldBe "WreckBoardModel" 9 (some .int)) (hn : xn x = 8) (a1 : Int32) (a2 : Int32) (a3 : Int32) (a4 : Int32) (a5 : Int32) (a6 : Int32) (m : M) (hb : ∀ z : Int32 × Int32 × Int32 × M, Sm G x 37 [(0, .ref (G.2.1 76)), (1, .int a1), (2, .int a2), (3, .int a3), (4, .int z.1), (5, .int z.2.1), (6, .int z.2.2.1)] [] z.2.2.2 (some (.inl z)) K) (hx0 : ∀ z : Int32 × Int32 × M, Sm G x 145 [(0, .ref (G.2.1 76)), (4, .int z.1), (5, .int z.2.1)] [] z.2.2 (some (.inr z)) K) : Sm G x 37 [(0, .ref (G.2.1 76)), (1, .int a1), (2, .int a2), (3, .int a3), (4, .int a4), (5, .int a5), (6, .int a6)] [] m (r_wouldBe_37b a1 a2 a3 a4 a5 a6 m) K := by
  unfold r_wouldBe_37b
  refine s_iload 6 E dX12_wouldBe_37 rfl ?_
  refine s_iload_n 3 E dX12_wouldBe_39 rfl rfl ?_
  refine s_icmp_ge 145 E dX12_wouldBe_40 (by decide) ?_ ?_
  · refine s_sub (lv' := [(0, .ref (G.2.1 76)), (4, .int a4), (5, .int a5)]) [0, 4, 5] rfl ?_
    exact hx0 (a4, a5, m)
  · refine s_iload 4 E dX12_wouldBe_43 rfl ?_
    refine s_if_ne 145 E dX12_wouldBe_45 (by decide) ?_ ?_
    · refine s_sub (lv' := [(0, .ref (G.2.1 76)), (4, .int a4), (5, .int a5)]) [0, 4, 5] rfl ?_
      exact hx0 (a4, a5, m)
    · refine s_aload_n 0 E dX12_wouldBe_48 rfl rfl ?_
      refine s_iload_n 1 E dX12_wouldBe_49 rfl rfl ?_
      refine s_iload_n 2 E dX12_wouldBe_50 rfl rfl ?_
      refine s_iload 6 E dX12_wouldBe_51 rfl ?_
      refine s_bd (fun v1 hz => ?_)
      refine s_cV (rest := []) E (C_r_isItem (xl x) G a1 a2 a6 m hz) mdX12_isItem W1795 W1797 W83 W103 W1798 rfl rfl rfl rfl (Nat.le_of_ble_eq_true rfl) ⟨by decide, by decide⟩ dX12_wouldBe_53 ?_
      refine s_if_eq 76 E dX12_wouldBe_56 (by decide) ?_ ?_
      · refine s_iconst (v := (-1 : Int32)) E dX12_wouldBe_76 (by decide) ?_
        refine s_sub (lv' := [(0, .ref (G.2.1 76)), (1, .int a1), (2, .int a2), (3, .int a3), (5, .int a5), (6, .int a6)]) [0, 1, 2, 3, 5, 6] rfl ?_
        exact t_r_wouldBe_77 E hn a1 a2 a3 a5 a6 (-1 : Int32) m hb hx0
      · refine s_aload_n 0 E dX12_wouldBe_59 rfl rfl ?_
        refine s_getr (k := 31) (T := TX12) 76 E rfl rfl rfl inX12 (by decide) W1270 dX12_wouldBe_60 ?_
        refine s_bipush (v := (40 : Int32)) E dX12_wouldBe_63 (by decide) ?_
        refine s_iload_n 1 E dX12_wouldBe_65 rfl rfl ?_
        refine s_imul E dX12_wouldBe_66 ?_
        refine s_iload_n 2 E dX12_wouldBe_67 rfl rfl ?_
        refine s_iadd E dX12_wouldBe_68 ?_
        refine s_iload 6 E dX12_wouldBe_69 rfl ?_
        refine s_iadd E dX12_wouldBe_71 ?_
        refine s_iald E dX12_wouldBe_72 (fun v2 => ?_)
        refine s_goto 77 E dX12_wouldBe_73 (by decide) ?_
        refine s_sub (lv' := [(0, .ref (G.2.1 76)), (1, .int a1), (2, .int a2), (3, .int a3), (5, .int a5), (6, .int a6)]) [0, 1, 2, 3, 5, 6] rfl ?_
        exact t_r_wouldBe_77 E hn a1 a2 a3 a5 a6 v2 m hb hx0
def r_wouldBe_145 (a4 : Int32) (a5 : Int32) (m : M) : Option (Int32 × M) :=
  Option.bind (r_layBack m) (fun m1 => (if a4 = 0 then some (a5, m1) else some (a4, m1)))
set_option maxRecDepth 20000 in
theorem t_r_wouldBe_145 {G : GG} {x : Cx} (E : En G x cX12_wouldBe "WreckBoardModel" 9 (some .int)) (hn : xn x = 8) (a4 : Int32) (a5 : Int32) (m : M) : Sm G x 145 [(0, .ref (G.2.1 76)), (4, .int a4), (5, .int a5)] [] m (r_wouldBe_145 a4 a5 m) KWi := by
  unfold r_wouldBe_145
  refine s_aload_n 0 E dX12_wouldBe_145 rfl rfl ?_
  refine s_bd (fun m1 hz => ?_)
  refine s_cV (rest := []) E (C_r_layBack (xl x) G  m hz) mdX12_layBack W1590 W1592 W64 W103 W1593 rfl rfl rfl rfl (Nat.le_of_ble_eq_true rfl) ⟨by decide, by decide⟩ dX12_wouldBe_146 ?_
  refine s_iload 1 E dX12_wouldBe_149 rfl ?_
  refine s_if_eq 159 E dX12_wouldBe_151 (by decide) ?_ ?_
  · refine s_iload 2 E dX12_wouldBe_159 rfl ?_
    exact s_iret E rfl dX12_wouldBe_161
  · refine s_iload 1 E dX12_wouldBe_154 rfl ?_
    refine s_goto 161 E dX12_wouldBe_156 (by decide) ?_
    exact s_iret E rfl dX12_wouldBe_161
def r_wouldBe_37 (a1 : Int32) (a2 : Int32) (a3 : Int32) (a4 : Int32) (a5 : Int32) (a6 : Int32) (m : M) : Option (Int32 × M) :=
  Option.bind (iter (fun z => r_wouldBe_37b a1 a2 a3 z.1 z.2.1 z.2.2.1 z.2.2.2) FU (a4, a5, a6, m)) (fun r => r_wouldBe_145 r.1 r.2.1 r.2.2)
set_option maxRecDepth 20000 in
theorem t_r_wouldBe_37 {G : GG} {x : Cx} (E : En G x cX12_wouldBe "WreckBoardModel" 9 (some .int)) (hn : xn x = 8) (a1 : Int32) (a2 : Int32) (a3 : Int32) (a4 : Int32) (a5 : Int32) (a6 : Int32) (m : M) : Sm G x 37 [(0, .ref (G.2.1 76)), (1, .int a1), (2, .int a2), (3, .int a3), (4, .int a4), (5, .int a5), (6, .int a6)] [] m (r_wouldBe_37 a1 a2 a3 a4 a5 a6 m) KWi := by
  unfold r_wouldBe_37
  refine s_loop (fun z => [(0, .ref (G.2.1 76)), (1, .int a1), (2, .int a2), (3, .int a3), (4, .int z.1), (5, .int z.2.1), (6, .int z.2.2.1)]) (fun z => z.2.2.2) (fun K2 hb2 hr2 z => ?_) FU (a4, a5, a6, m)
  refine t_r_wouldBe_37b (K := K2) E hn a1 a2 a3 z.1 z.2.1 z.2.2.1 z.2.2.2 hb2 (fun r => s_out (hr2 r) ?_)
  · exact t_r_wouldBe_145 E hn r.1 r.2.1 r.2.2
def r_wouldBe (a1 : Int32) (a2 : Int32) (a3 : Int32) (m : M) : Option (Int32 × M) :=
  Option.bind (r_isSheet a1 m) (fun v1 => (if v1 = 0 then some ((-1 : Int32), m) else Option.bind (r_in1 a3 (0 : Int32) (20 : Int32) m) (fun v2 => (if v2 = 0 then some ((-1 : Int32), m) else Option.bind (r_lacks a1 (0 : Int32) m) (fun v3 => Option.bind (r_layDown m) (fun m4 => r_wouldBe_37 a1 a2 a3 v3 (0 : Int32) (0 : Int32) m4))))))
set_option maxRecDepth 20000 in
theorem t_r_wouldBe {G : GG} {x : Cx} (E : En G x cX12_wouldBe "WreckBoardModel" 9 (some .int)) (hn : xn x = 8) (a1 : Int32) (a2 : Int32) (a3 : Int32) (m : M) : Sm G x 0 [(0, .ref (G.2.1 76)), (1, .int a1), (2, .int a2), (3, .int a3)] [] m (r_wouldBe a1 a2 a3 m) KWi := by
  unfold r_wouldBe
  refine s_iload_n 1 E dX12_wouldBe_0 rfl rfl ?_
  refine s_bd (fun v1 hz => ?_)
  refine s_cS (rest := []) E (C_r_isSheet (xl x) G a1 m hz) mdX12_isSheet W1773 W1774 W103 W1775 rfl rfl (Nat.le_of_ble_eq_true rfl) ⟨by decide, by decide⟩ dX12_wouldBe_1 ?_
  refine s_if_eq 17 E dX12_wouldBe_4 (by decide) ?_ ?_
  · refine s_iconst (v := (-1 : Int32)) E dX12_wouldBe_17 (by decide) ?_
    exact s_iret E rfl dX12_wouldBe_18
  · refine s_iload_n 3 E dX12_wouldBe_7 rfl rfl ?_
    refine s_iconst (v := (0 : Int32)) E dX12_wouldBe_8 (by decide) ?_
    refine s_bipush (v := (20 : Int32)) E dX12_wouldBe_9 (by decide) ?_
    refine s_bd (fun v2 hz => ?_)
    refine s_cS (rest := []) E (C_r_in1 (xl x) G a3 (0 : Int32) (20 : Int32) m hz) mdX12_in1 W1359 W1360 W103 W1361 rfl rfl (Nat.le_of_ble_eq_true rfl) ⟨by decide, by decide⟩ dX12_wouldBe_11 ?_
    refine s_if_ne 19 E dX12_wouldBe_14 (by decide) ?_ ?_
    · refine s_aload_n 0 E dX12_wouldBe_19 rfl rfl ?_
      refine s_iload_n 1 E dX12_wouldBe_20 rfl rfl ?_
      refine s_iconst (v := (0 : Int32)) E dX12_wouldBe_21 (by decide) ?_
      refine s_bd (fun v3 hz => ?_)
      refine s_cV (rest := []) E (C_r_lacks (xl x) G a1 (0 : Int32) m hz) mdX12_lacks W1787 W1789 W82 W103 W1790 rfl rfl rfl rfl (Nat.le_of_ble_eq_true rfl) ⟨by decide, by decide⟩ dX12_wouldBe_22 ?_
      refine s_istore (lv' := [(0, .ref (G.2.1 76)), (1, .int a1), (2, .int a2), (3, .int a3), (4, .int v3)]) [1, 2, 3, 4, 0] E dX12_wouldBe_25 (by rw [hn]; decide) rfl ?_
      refine s_iconst (v := (0 : Int32)) E dX12_wouldBe_27 (by decide) ?_
      refine s_istore (lv' := [(0, .ref (G.2.1 76)), (1, .int a1), (2, .int a2), (3, .int a3), (4, .int v3), (5, .int (0 : Int32))]) [1, 2, 3, 4, 5, 0] E dX12_wouldBe_28 (by rw [hn]; decide) rfl ?_
      refine s_aload_n 0 E dX12_wouldBe_30 rfl rfl ?_
      refine s_bd (fun m4 hz => ?_)
      refine s_cV (rest := []) E (C_r_layDown (xl x) G  m hz) mdX12_layDown W1582 W1584 W62 W103 W1585 rfl rfl rfl rfl (Nat.le_of_ble_eq_true rfl) ⟨by decide, by decide⟩ dX12_wouldBe_31 ?_
      refine s_iconst (v := (0 : Int32)) E dX12_wouldBe_34 (by decide) ?_
      refine s_istore (lv' := [(0, .ref (G.2.1 76)), (1, .int a1), (2, .int a2), (3, .int a3), (4, .int v3), (5, .int (0 : Int32)), (6, .int (0 : Int32))]) [1, 2, 3, 4, 5, 6, 0] E dX12_wouldBe_35 (by rw [hn]; decide) rfl ?_
      exact t_r_wouldBe_37 E hn a1 a2 a3 v3 (0 : Int32) (0 : Int32) m4
    · refine s_iconst (v := (-1 : Int32)) E dX12_wouldBe_17 (by decide) ?_
      exact s_iret E rfl dX12_wouldBe_18
set_option maxRecDepth 20000 in
theorem C_r_wouldBe (l : Launch) (G : GG) (a1 : Int32) (a2 : Int32) (a3 : Int32) (m : M) {z : Int32 × M} (hz : r_wouldBe a1 a2 a3 m = some z) : Ct l G yX12_wouldBe cX12_wouldBe 8 (some .int) 9 [.ref (G.2.1 76), .int a1, .int a2, .int a3] m (some (.int z.1)) z.2 :=
  ct_of (K := KWi) (by decide) (Nat.le_of_ble_eq_true rfl) (congrArg (fun q => Option.bind q _) hz) (fun x hl hn E => (t_r_wouldBe E hn a1 a2 a3 m))
theorem dX12_shelf_0 : decode cX12_shelf 0 = .ok (.iload_n 1, 1) := by decide +kernel
theorem dX12_shelf_1 : decode cX12_shelf 1 = .ok (.invokestatic 329, 3) := by decide +kernel
theorem dX12_shelf_4 : decode cX12_shelf 4 = .ok (.ifCond .eq 36, 3) := by decide +kernel
theorem dX12_shelf_7 : decode cX12_shelf 7 = .ok (.iload_n 2, 1) := by decide +kernel
theorem dX12_shelf_8 : decode cX12_shelf 8 = .ok (.iconst 0, 1) := by decide +kernel
theorem dX12_shelf_9 : decode cX12_shelf 9 = .ok (.iconst 2, 1) := by decide +kernel
theorem dX12_shelf_10 : decode cX12_shelf 10 = .ok (.invokestatic 71, 3) := by decide +kernel
theorem dX12_shelf_13 : decode cX12_shelf 13 = .ok (.ifCond .eq 27, 3) := by decide +kernel
theorem dX12_shelf_16 : decode cX12_shelf 16 = .ok (.iload_n 2, 1) := by decide +kernel
theorem dX12_shelf_17 : decode cX12_shelf 17 = .ok (.ifCond .ne 11, 3) := by decide +kernel
theorem dX12_shelf_20 : decode cX12_shelf 20 = .ok (.aload_n 0, 1) := by decide +kernel
theorem dX12_shelf_21 : decode cX12_shelf 21 = .ok (.iload_n 3, 1) := by decide +kernel
theorem dX12_shelf_22 : decode cX12_shelf 22 = .ok (.invokevirtual 226, 3) := by decide +kernel
theorem dX12_shelf_25 : decode cX12_shelf 25 = .ok (.ifCond .eq 15, 3) := by decide +kernel
theorem dX12_shelf_28 : decode cX12_shelf 28 = .ok (.iload_n 2, 1) := by decide +kernel
theorem dX12_shelf_29 : decode cX12_shelf 29 = .ok (.iconst 1, 1) := by decide +kernel
theorem dX12_shelf_30 : decode cX12_shelf 30 = .ok (.if_icmp .ne 12, 3) := by decide +kernel
theorem dX12_shelf_33 : decode cX12_shelf 33 = .ok (.iload_n 3, 1) := by decide +kernel
theorem dX12_shelf_34 : decode cX12_shelf 34 = .ok (.invokestatic 329, 3) := by decide +kernel
theorem dX12_shelf_37 : decode cX12_shelf 37 = .ok (.ifCond .ne 5, 3) := by decide +kernel
theorem dX12_shelf_40 : decode cX12_shelf 40 = .ok (.iconst (-1), 1) := by decide +kernel
theorem dX12_shelf_41 : decode cX12_shelf 41 = .ok (.ireturn, 1) := by decide +kernel
theorem dX12_shelf_42 : decode cX12_shelf 42 = .ok (.aload_n 0, 1) := by decide +kernel
theorem dX12_shelf_43 : decode cX12_shelf 43 = .ok (.getfield 62, 3) := by decide +kernel
theorem dX12_shelf_46 : decode cX12_shelf 46 = .ok (.iload_n 1, 1) := by decide +kernel
theorem dX12_shelf_47 : decode cX12_shelf 47 = .ok (.iload_n 2, 1) := by decide +kernel
theorem dX12_shelf_48 : decode cX12_shelf 48 = .ok (.ifCond .ne 7, 3) := by decide +kernel
theorem dX12_shelf_51 : decode cX12_shelf 51 = .ok (.iconst 0, 1) := by decide +kernel
theorem dX12_shelf_52 : decode cX12_shelf 52 = .ok (.goto 30, 3) := by decide +kernel
theorem dX12_shelf_55 : decode cX12_shelf 55 = .ok (.iload_n 2, 1) := by decide +kernel
theorem dX12_shelf_56 : decode cX12_shelf 56 = .ok (.iconst 1, 1) := by decide +kernel
theorem dX12_shelf_57 : decode cX12_shelf 57 = .ok (.if_icmp .ne 24, 3) := by decide +kernel
theorem dX12_shelf_60 : decode cX12_shelf 60 = .ok (.aload_n 0, 1) := by decide +kernel
theorem dX12_shelf_61 : decode cX12_shelf 61 = .ok (.getfield 53, 3) := by decide +kernel
theorem dX12_shelf_64 : decode cX12_shelf 64 = .ok (.iload_n 3, 1) := by decide +kernel
theorem dX12_shelf_65 : decode cX12_shelf 65 = .ok (.iaload, 1) := by decide +kernel
theorem dX12_shelf_66 : decode cX12_shelf 66 = .ok (.ifCond .lt 15, 3) := by decide +kernel
theorem dX12_shelf_69 : decode cX12_shelf 69 = .ok (.bipush 10, 2) := by decide +kernel
theorem dX12_shelf_71 : decode cX12_shelf 71 = .ok (.aload_n 0, 1) := by decide +kernel
theorem dX12_shelf_72 : decode cX12_shelf 72 = .ok (.getfield 53, 3) := by decide +kernel
theorem dX12_shelf_75 : decode cX12_shelf 75 = .ok (.iload_n 3, 1) := by decide +kernel
theorem dX12_shelf_76 : decode cX12_shelf 76 = .ok (.iaload, 1) := by decide +kernel
theorem dX12_shelf_77 : decode cX12_shelf 77 = .ok (.iadd, 1) := by decide +kernel
theorem dX12_shelf_78 : decode cX12_shelf 78 = .ok (.goto 4, 3) := by decide +kernel
theorem dX12_shelf_81 : decode cX12_shelf 81 = .ok (.iconst (-1), 1) := by decide +kernel
theorem dX12_shelf_82 : decode cX12_shelf 82 = .ok (.iastore, 1) := by decide +kernel
theorem dX12_shelf_83 : decode cX12_shelf 83 = .ok (.aload_n 0, 1) := by decide +kernel
theorem dX12_shelf_84 : decode cX12_shelf 84 = .ok (.getfield 65, 3) := by decide +kernel
theorem dX12_shelf_87 : decode cX12_shelf 87 = .ok (.iload_n 1, 1) := by decide +kernel
theorem dX12_shelf_88 : decode cX12_shelf 88 = .ok (.iload_n 2, 1) := by decide +kernel
theorem dX12_shelf_89 : decode cX12_shelf 89 = .ok (.ifCond .ne 7, 3) := by decide +kernel
theorem dX12_shelf_92 : decode cX12_shelf 92 = .ok (.iload_n 3, 1) := by decide +kernel
theorem dX12_shelf_93 : decode cX12_shelf 93 = .ok (.goto 18, 3) := by decide +kernel
theorem dX12_shelf_96 : decode cX12_shelf 96 = .ok (.iload_n 2, 1) := by decide +kernel
theorem dX12_shelf_97 : decode cX12_shelf 97 = .ok (.iconst 1, 1) := by decide +kernel
theorem dX12_shelf_98 : decode cX12_shelf 98 = .ok (.if_icmp .ne 12, 3) := by decide +kernel
theorem dX12_shelf_101 : decode cX12_shelf 101 = .ok (.aload_n 0, 1) := by decide +kernel
theorem dX12_shelf_102 : decode cX12_shelf 102 = .ok (.getfield 56, 3) := by decide +kernel
theorem dX12_shelf_105 : decode cX12_shelf 105 = .ok (.iload_n 3, 1) := by decide +kernel
theorem dX12_shelf_106 : decode cX12_shelf 106 = .ok (.iaload, 1) := by decide +kernel
theorem dX12_shelf_107 : decode cX12_shelf 107 = .ok (.goto 4, 3) := by decide +kernel
theorem dX12_shelf_110 : decode cX12_shelf 110 = .ok (.iconst 0, 1) := by decide +kernel
theorem dX12_shelf_111 : decode cX12_shelf 111 = .ok (.iastore, 1) := by decide +kernel
theorem dX12_shelf_112 : decode cX12_shelf 112 = .ok (.iconst 1, 1) := by decide +kernel
theorem dX12_shelf_113 : decode cX12_shelf 113 = .ok (.ireturn, 1) := by decide +kernel
def r_shelf_111 (s1 : Int32) (s2 : Int32) (m : M) : Option (Int32 × M) :=
  Option.bind (wrI m 95 s1 s2) (fun m1 => some ((1 : Int32), m1))
set_option maxRecDepth 20000 in
theorem t_r_shelf_111 {G : GG} {x : Cx} (E : En G x cX12_shelf "WreckBoardModel" 3 (some .int)) (hn : xn x = 4) (s1 : Int32) (s2 : Int32) (m : M) : Sm G x 111 [] [.int s2, .int s1, .ref (G.2.1 95)] m (r_shelf_111 s1 s2 m) KWi := by
  unfold r_shelf_111
  refine s_iast E dX12_shelf_111 (fun m1 => ?_)
  refine s_iconst (v := (1 : Int32)) E dX12_shelf_112 (by decide) ?_
  exact s_iret E rfl dX12_shelf_113
def r_shelf_82 (a1 : Int32) (a2 : Int32) (a3 : Int32) (s1 : Int32) (s2 : Int32) (m : M) : Option (Int32 × M) :=
  Option.bind (wrI m 94 s1 s2) (fun m1 => (if a2 = 0 then r_shelf_111 a1 a3 m1 else (if a2 = (1 : Int32) then Option.bind (rdI m1 92 a3) (fun v2 => r_shelf_111 a1 v2 m1) else r_shelf_111 a1 (0 : Int32) m1)))
set_option maxRecDepth 20000 in
theorem t_r_shelf_82 {G : GG} {x : Cx} (E : En G x cX12_shelf "WreckBoardModel" 3 (some .int)) (hn : xn x = 4) (a1 : Int32) (a2 : Int32) (a3 : Int32) (s1 : Int32) (s2 : Int32) (m : M) : Sm G x 82 [(0, .ref (G.2.1 76)), (1, .int a1), (2, .int a2), (3, .int a3)] [.int s2, .int s1, .ref (G.2.1 94)] m (r_shelf_82 a1 a2 a3 s1 s2 m) KWi := by
  unfold r_shelf_82
  refine s_iast E dX12_shelf_82 (fun m1 => ?_)
  refine s_aload_n 0 E dX12_shelf_83 rfl rfl ?_
  refine s_getr (k := 33) (T := TX12) 76 E rfl rfl rfl inX12 (by decide) W1272 dX12_shelf_84 ?_
  refine s_iload_n 1 E dX12_shelf_87 rfl rfl ?_
  refine s_iload_n 2 E dX12_shelf_88 rfl rfl ?_
  refine s_if_ne 96 E dX12_shelf_89 (by decide) ?_ ?_
  · refine s_iload_n 2 E dX12_shelf_96 rfl rfl ?_
    refine s_iconst (v := (1 : Int32)) E dX12_shelf_97 (by decide) ?_
    refine s_icmp_ne 110 E dX12_shelf_98 (by decide) ?_ ?_
    · refine s_iconst (v := (0 : Int32)) E dX12_shelf_110 (by decide) ?_
      refine s_sub (lv' := []) [] rfl ?_
      exact t_r_shelf_111 E hn a1 (0 : Int32) m1
    · refine s_aload_n 0 E dX12_shelf_101 rfl rfl ?_
      refine s_getr (k := 30) (T := TX12) 76 E rfl rfl rfl inX12 (by decide) W1269 dX12_shelf_102 ?_
      refine s_iload_n 3 E dX12_shelf_105 rfl rfl ?_
      refine s_iald E dX12_shelf_106 (fun v2 => ?_)
      refine s_goto 111 E dX12_shelf_107 (by decide) ?_
      refine s_sub (lv' := []) [] rfl ?_
      exact t_r_shelf_111 E hn a1 v2 m1
  · refine s_iload_n 3 E dX12_shelf_92 rfl rfl ?_
    refine s_goto 111 E dX12_shelf_93 (by decide) ?_
    refine s_sub (lv' := []) [] rfl ?_
    exact t_r_shelf_111 E hn a1 a3 m1
def r_shelf_81 (a1 : Int32) (a2 : Int32) (a3 : Int32) (s1 : Int32) (m : M) : Option (Int32 × M) :=
  r_shelf_82 a1 a2 a3 s1 (-1 : Int32) m
set_option maxRecDepth 20000 in
theorem t_r_shelf_81 {G : GG} {x : Cx} (E : En G x cX12_shelf "WreckBoardModel" 3 (some .int)) (hn : xn x = 4) (a1 : Int32) (a2 : Int32) (a3 : Int32) (s1 : Int32) (m : M) : Sm G x 81 [(0, .ref (G.2.1 76)), (1, .int a1), (2, .int a2), (3, .int a3)] [.int s1, .ref (G.2.1 94)] m (r_shelf_81 a1 a2 a3 s1 m) KWi := by
  unfold r_shelf_81
  refine s_iconst (v := (-1 : Int32)) E dX12_shelf_81 (by decide) ?_
  exact t_r_shelf_82 E hn a1 a2 a3 s1 (-1 : Int32) m
def r_shelf_42 (a1 : Int32) (a2 : Int32) (a3 : Int32) (m : M) : Option (Int32 × M) :=
  (if a2 = 0 then r_shelf_82 a1 a2 a3 a1 (0 : Int32) m else (if a2 = (1 : Int32) then Option.bind (rdI m 91 a3) (fun v1 => (if v1 < 0 then r_shelf_81 a1 a2 a3 a1 m else Option.bind (rdI m 91 a3) (fun v2 => r_shelf_82 a1 a2 a3 a1 ((10 : Int32) + v2) m))) else r_shelf_81 a1 a2 a3 a1 m))
set_option maxRecDepth 20000 in
theorem t_r_shelf_42 {G : GG} {x : Cx} (E : En G x cX12_shelf "WreckBoardModel" 3 (some .int)) (hn : xn x = 4) (a1 : Int32) (a2 : Int32) (a3 : Int32) (m : M) : Sm G x 42 [(0, .ref (G.2.1 76)), (1, .int a1), (2, .int a2), (3, .int a3)] [] m (r_shelf_42 a1 a2 a3 m) KWi := by
  unfold r_shelf_42
  refine s_aload_n 0 E dX12_shelf_42 rfl rfl ?_
  refine s_getr (k := 32) (T := TX12) 76 E rfl rfl rfl inX12 (by decide) W1271 dX12_shelf_43 ?_
  refine s_iload_n 1 E dX12_shelf_46 rfl rfl ?_
  refine s_iload_n 2 E dX12_shelf_47 rfl rfl ?_
  refine s_if_ne 55 E dX12_shelf_48 (by decide) ?_ ?_
  · refine s_iload_n 2 E dX12_shelf_55 rfl rfl ?_
    refine s_iconst (v := (1 : Int32)) E dX12_shelf_56 (by decide) ?_
    refine s_icmp_ne 81 E dX12_shelf_57 (by decide) ?_ ?_
    · exact t_r_shelf_81 E hn a1 a2 a3 a1 m
    · refine s_aload_n 0 E dX12_shelf_60 rfl rfl ?_
      refine s_getr (k := 29) (T := TX12) 76 E rfl rfl rfl inX12 (by decide) W1268 dX12_shelf_61 ?_
      refine s_iload_n 3 E dX12_shelf_64 rfl rfl ?_
      refine s_iald E dX12_shelf_65 (fun v1 => ?_)
      refine s_if_lt 81 E dX12_shelf_66 (by decide) ?_ ?_
      · exact t_r_shelf_81 E hn a1 a2 a3 a1 m
      · refine s_bipush (v := (10 : Int32)) E dX12_shelf_69 (by decide) ?_
        refine s_aload_n 0 E dX12_shelf_71 rfl rfl ?_
        refine s_getr (k := 29) (T := TX12) 76 E rfl rfl rfl inX12 (by decide) W1268 dX12_shelf_72 ?_
        refine s_iload_n 3 E dX12_shelf_75 rfl rfl ?_
        refine s_iald E dX12_shelf_76 (fun v2 => ?_)
        refine s_iadd E dX12_shelf_77 ?_
        refine s_goto 82 E dX12_shelf_78 (by decide) ?_
        exact t_r_shelf_82 E hn a1 a2 a3 a1 ((10 : Int32) + v2) m
  · refine s_iconst (v := (0 : Int32)) E dX12_shelf_51 (by decide) ?_
    refine s_goto 82 E dX12_shelf_52 (by decide) ?_
    exact t_r_shelf_82 E hn a1 a2 a3 a1 (0 : Int32) m
def r_shelf_28 (a1 : Int32) (a2 : Int32) (a3 : Int32) (m : M) : Option (Int32 × M) :=
  (if a2 = (1 : Int32) then Option.bind (r_isSheet a3 m) (fun v1 => (if v1 = 0 then some ((-1 : Int32), m) else r_shelf_42 a1 a2 a3 m)) else r_shelf_42 a1 a2 a3 m)
set_option maxRecDepth 20000 in
theorem t_r_shelf_28 {G : GG} {x : Cx} (E : En G x cX12_shelf "WreckBoardModel" 3 (some .int)) (hn : xn x = 4) (a1 : Int32) (a2 : Int32) (a3 : Int32) (m : M) : Sm G x 28 [(0, .ref (G.2.1 76)), (1, .int a1), (2, .int a2), (3, .int a3)] [] m (r_shelf_28 a1 a2 a3 m) KWi := by
  unfold r_shelf_28
  refine s_iload_n 2 E dX12_shelf_28 rfl rfl ?_
  refine s_iconst (v := (1 : Int32)) E dX12_shelf_29 (by decide) ?_
  refine s_icmp_ne 42 E dX12_shelf_30 (by decide) ?_ ?_
  · exact t_r_shelf_42 E hn a1 a2 a3 m
  · refine s_iload_n 3 E dX12_shelf_33 rfl rfl ?_
    refine s_bd (fun v1 hz => ?_)
    refine s_cS (rest := []) E (C_r_isSheet (xl x) G a3 m hz) mdX12_isSheet W1773 W1774 W103 W1775 rfl rfl (Nat.le_of_ble_eq_true rfl) ⟨by decide, by decide⟩ dX12_shelf_34 ?_
    refine s_if_ne 42 E dX12_shelf_37 (by decide) ?_ ?_
    · exact t_r_shelf_42 E hn a1 a2 a3 m
    · refine s_iconst (v := (-1 : Int32)) E dX12_shelf_40 (by decide) ?_
      exact s_iret E rfl dX12_shelf_41
def r_shelf (a1 : Int32) (a2 : Int32) (a3 : Int32) (m : M) : Option (Int32 × M) :=
  Option.bind (r_isSheet a1 m) (fun v1 => (if v1 = 0 then some ((-1 : Int32), m) else Option.bind (r_in1 a2 (0 : Int32) (2 : Int32) m) (fun v2 => (if v2 = 0 then some ((-1 : Int32), m) else (if a2 = 0 then Option.bind (r_isMember a3 m) (fun v3 => (if v3 = 0 then some ((-1 : Int32), m) else r_shelf_28 a1 a2 a3 m)) else r_shelf_28 a1 a2 a3 m)))))
set_option maxRecDepth 20000 in
theorem t_r_shelf {G : GG} {x : Cx} (E : En G x cX12_shelf "WreckBoardModel" 3 (some .int)) (hn : xn x = 4) (a1 : Int32) (a2 : Int32) (a3 : Int32) (m : M) : Sm G x 0 [(0, .ref (G.2.1 76)), (1, .int a1), (2, .int a2), (3, .int a3)] [] m (r_shelf a1 a2 a3 m) KWi := by
  unfold r_shelf
  refine s_iload_n 1 E dX12_shelf_0 rfl rfl ?_
  refine s_bd (fun v1 hz => ?_)
  refine s_cS (rest := []) E (C_r_isSheet (xl x) G a1 m hz) mdX12_isSheet W1773 W1774 W103 W1775 rfl rfl (Nat.le_of_ble_eq_true rfl) ⟨by decide, by decide⟩ dX12_shelf_1 ?_
  refine s_if_eq 40 E dX12_shelf_4 (by decide) ?_ ?_
  · refine s_iconst (v := (-1 : Int32)) E dX12_shelf_40 (by decide) ?_
    exact s_iret E rfl dX12_shelf_41
  · refine s_iload_n 2 E dX12_shelf_7 rfl rfl ?_
    refine s_iconst (v := (0 : Int32)) E dX12_shelf_8 (by decide) ?_
    refine s_iconst (v := (2 : Int32)) E dX12_shelf_9 (by decide) ?_
    refine s_bd (fun v2 hz => ?_)
    refine s_cS (rest := []) E (C_r_in1 (xl x) G a2 (0 : Int32) (2 : Int32) m hz) mdX12_in1 W1359 W1360 W103 W1361 rfl rfl (Nat.le_of_ble_eq_true rfl) ⟨by decide, by decide⟩ dX12_shelf_10 ?_
    refine s_if_eq 40 E dX12_shelf_13 (by decide) ?_ ?_
    · refine s_iconst (v := (-1 : Int32)) E dX12_shelf_40 (by decide) ?_
      exact s_iret E rfl dX12_shelf_41
    · refine s_iload_n 2 E dX12_shelf_16 rfl rfl ?_
      refine s_if_ne 28 E dX12_shelf_17 (by decide) ?_ ?_
      · exact t_r_shelf_28 E hn a1 a2 a3 m
      · refine s_aload_n 0 E dX12_shelf_20 rfl rfl ?_
        refine s_iload_n 3 E dX12_shelf_21 rfl rfl ?_
        refine s_bd (fun v3 hz => ?_)
        refine s_cV (rest := []) E (C_r_isMember (xl x) G a3 m hz) mdX12_isMember W1441 W1443 W43 W103 W1444 rfl rfl rfl rfl (Nat.le_of_ble_eq_true rfl) ⟨by decide, by decide⟩ dX12_shelf_22 ?_
        refine s_if_eq 40 E dX12_shelf_25 (by decide) ?_ ?_
        · refine s_iconst (v := (-1 : Int32)) E dX12_shelf_40 (by decide) ?_
          exact s_iret E rfl dX12_shelf_41
        · exact t_r_shelf_28 E hn a1 a2 a3 m
set_option maxRecDepth 20000 in
theorem C_r_shelf (l : Launch) (G : GG) (a1 : Int32) (a2 : Int32) (a3 : Int32) (m : M) {z : Int32 × M} (hz : r_shelf a1 a2 a3 m = some z) : Ct l G yX12_shelf cX12_shelf 4 (some .int) 3 [.ref (G.2.1 76), .int a1, .int a2, .int a3] m (some (.int z.1)) z.2 :=
  ct_of (K := KWi) (by decide) (Nat.le_of_ble_eq_true rfl) (congrArg (fun q => Option.bind q _) hz) (fun x hl hn E => (t_r_shelf E hn a1 a2 a3 m))
theorem dX12_heldOn_0 : decode cX12_heldOn 0 = .ok (.aload_n 0, 1) := by decide +kernel
theorem dX12_heldOn_1 : decode cX12_heldOn 1 = .ok (.getfield 62, 3) := by decide +kernel
theorem dX12_heldOn_4 : decode cX12_heldOn 4 = .ok (.iload_n 1, 1) := by decide +kernel
theorem dX12_heldOn_5 : decode cX12_heldOn 5 = .ok (.iaload, 1) := by decide +kernel
theorem dX12_heldOn_6 : decode cX12_heldOn 6 = .ok (.ifCond .ne 20, 3) := by decide +kernel
theorem dX12_heldOn_9 : decode cX12_heldOn 9 = .ok (.aload_n 0, 1) := by decide +kernel
theorem dX12_heldOn_10 : decode cX12_heldOn 10 = .ok (.aload_n 0, 1) := by decide +kernel
theorem dX12_heldOn_11 : decode cX12_heldOn 11 = .ok (.getfield 65, 3) := by decide +kernel
theorem dX12_heldOn_14 : decode cX12_heldOn 14 = .ok (.iload_n 1, 1) := by decide +kernel
theorem dX12_heldOn_15 : decode cX12_heldOn 15 = .ok (.iaload, 1) := by decide +kernel
theorem dX12_heldOn_16 : decode cX12_heldOn 16 = .ok (.invokevirtual 226, 3) := by decide +kernel
theorem dX12_heldOn_19 : decode cX12_heldOn 19 = .ok (.ifCond .ne 7, 3) := by decide +kernel
theorem dX12_heldOn_22 : decode cX12_heldOn 22 = .ok (.iconst (-1), 1) := by decide +kernel
theorem dX12_heldOn_23 : decode cX12_heldOn 23 = .ok (.goto 9, 3) := by decide +kernel
theorem dX12_heldOn_26 : decode cX12_heldOn 26 = .ok (.aload_n 0, 1) := by decide +kernel
theorem dX12_heldOn_27 : decode cX12_heldOn 27 = .ok (.getfield 62, 3) := by decide +kernel
theorem dX12_heldOn_30 : decode cX12_heldOn 30 = .ok (.iload_n 1, 1) := by decide +kernel
theorem dX12_heldOn_31 : decode cX12_heldOn 31 = .ok (.iaload, 1) := by decide +kernel
theorem dX12_heldOn_32 : decode cX12_heldOn 32 = .ok (.ireturn, 1) := by decide +kernel
def r_heldOn_26 (a1 : Int32) (m : M) : Option (Int32) :=
  Option.bind (rdI m 94 a1) (fun v1 => some v1)
set_option maxRecDepth 20000 in
theorem t_r_heldOn_26 {G : GG} {x : Cx} (E : En G x cX12_heldOn "WreckBoardModel" 3 (some .int)) (hn : xn x = 2) (a1 : Int32) (m : M) : Sm G x 26 [(0, .ref (G.2.1 76)), (1, .int a1)] [] m (r_heldOn_26 a1 m) (KRi m) := by
  unfold r_heldOn_26
  refine s_aload_n 0 E dX12_heldOn_26 rfl rfl ?_
  refine s_getr (k := 32) (T := TX12) 76 E rfl rfl rfl inX12 (by decide) W1271 dX12_heldOn_27 ?_
  refine s_iload_n 1 E dX12_heldOn_30 rfl rfl ?_
  refine s_iald E dX12_heldOn_31 (fun v1 => ?_)
  exact s_iret E rfl dX12_heldOn_32
def r_heldOn (a1 : Int32) (m : M) : Option (Int32) :=
  Option.bind (rdI m 94 a1) (fun v1 => (if v1 = 0 then Option.bind (rdI m 95 a1) (fun v2 => Option.bind (r_isMember v2 m) (fun v3 => (if v3 = 0 then some (-1 : Int32) else r_heldOn_26 a1 m))) else r_heldOn_26 a1 m))
set_option maxRecDepth 20000 in
theorem t_r_heldOn {G : GG} {x : Cx} (E : En G x cX12_heldOn "WreckBoardModel" 3 (some .int)) (hn : xn x = 2) (a1 : Int32) (m : M) : Sm G x 0 [(0, .ref (G.2.1 76)), (1, .int a1)] [] m (r_heldOn a1 m) (KRi m) := by
  unfold r_heldOn
  refine s_aload_n 0 E dX12_heldOn_0 rfl rfl ?_
  refine s_getr (k := 32) (T := TX12) 76 E rfl rfl rfl inX12 (by decide) W1271 dX12_heldOn_1 ?_
  refine s_iload_n 1 E dX12_heldOn_4 rfl rfl ?_
  refine s_iald E dX12_heldOn_5 (fun v1 => ?_)
  refine s_if_ne 26 E dX12_heldOn_6 (by decide) ?_ ?_
  · exact t_r_heldOn_26 E hn a1 m
  · refine s_aload_n 0 E dX12_heldOn_9 rfl rfl ?_
    refine s_aload_n 0 E dX12_heldOn_10 rfl rfl ?_
    refine s_getr (k := 33) (T := TX12) 76 E rfl rfl rfl inX12 (by decide) W1272 dX12_heldOn_11 ?_
    refine s_iload_n 1 E dX12_heldOn_14 rfl rfl ?_
    refine s_iald E dX12_heldOn_15 (fun v2 => ?_)
    refine s_bd (fun v3 hz => ?_)
    refine s_cV (rest := []) E (C_r_isMember (xl x) G v2 m hz) mdX12_isMember W1441 W1443 W43 W103 W1444 rfl rfl rfl rfl (Nat.le_of_ble_eq_true rfl) ⟨by decide, by decide⟩ dX12_heldOn_16 ?_
    refine s_if_ne 26 E dX12_heldOn_19 (by decide) ?_ ?_
    · exact t_r_heldOn_26 E hn a1 m
    · refine s_iconst (v := (-1 : Int32)) E dX12_heldOn_22 (by decide) ?_
      refine s_goto 32 E dX12_heldOn_23 (by decide) ?_
      exact s_iret E rfl dX12_heldOn_32
set_option maxRecDepth 20000 in
theorem C_r_heldOn (l : Launch) (G : GG) (a1 : Int32) (m : M) {z : Int32} (hz : r_heldOn a1 m = some z) : Ct l G yX12_heldOn cX12_heldOn 2 (some .int) 3 [.ref (G.2.1 76), .int a1] m (some (.int z)) m :=
  ct_of (K := (KRi m)) (by decide) (Nat.le_of_ble_eq_true rfl) (congrArg (fun q => Option.bind q _) hz) (fun x hl hn E => (t_r_heldOn E hn a1 m))
theorem mdX12_heldOn : mdq yX12_heldOn 1 := ⟨by decide, by decide, by decide +kernel⟩
theorem dX12_taken_0 : decode cX12_taken 0 = .ok (.iload_n 1, 1) := by decide +kernel
theorem dX12_taken_1 : decode cX12_taken 1 = .ok (.invokestatic 329, 3) := by decide +kernel
theorem dX12_taken_4 : decode cX12_taken 4 = .ok (.ifCond .eq 23, 3) := by decide +kernel
theorem dX12_taken_7 : decode cX12_taken 7 = .ok (.iload_n 2, 1) := by decide +kernel
theorem dX12_taken_8 : decode cX12_taken 8 = .ok (.iconst 0, 1) := by decide +kernel
theorem dX12_taken_9 : decode cX12_taken 9 = .ok (.iconst 5, 1) := by decide +kernel
theorem dX12_taken_10 : decode cX12_taken 10 = .ok (.invokestatic 71, 3) := by decide +kernel
theorem dX12_taken_13 : decode cX12_taken 13 = .ok (.ifCond .ne 16, 3) := by decide +kernel
theorem dX12_taken_16 : decode cX12_taken 16 = .ok (.iload_n 2, 1) := by decide +kernel
theorem dX12_taken_17 : decode cX12_taken 17 = .ok (.bipush 10, 2) := by decide +kernel
theorem dX12_taken_19 : decode cX12_taken 19 = .ok (.bipush 14, 2) := by decide +kernel
theorem dX12_taken_21 : decode cX12_taken 21 = .ok (.invokestatic 71, 3) := by decide +kernel
theorem dX12_taken_24 : decode cX12_taken 24 = .ok (.ifCond .ne 5, 3) := by decide +kernel
theorem dX12_taken_27 : decode cX12_taken 27 = .ok (.iconst (-1), 1) := by decide +kernel
theorem dX12_taken_28 : decode cX12_taken 28 = .ok (.ireturn, 1) := by decide +kernel
theorem dX12_taken_29 : decode cX12_taken 29 = .ok (.aload_n 0, 1) := by decide +kernel
theorem dX12_taken_30 : decode cX12_taken 30 = .ok (.iload_n 1, 1) := by decide +kernel
theorem dX12_taken_31 : decode cX12_taken 31 = .ok (.invokevirtual 341, 3) := by decide +kernel
theorem dX12_taken_34 : decode cX12_taken 34 = .ok (.istore_n 3, 1) := by decide +kernel
theorem dX12_taken_35 : decode cX12_taken 35 = .ok (.iload_n 3, 1) := by decide +kernel
theorem dX12_taken_36 : decode cX12_taken 36 = .ok (.ifCond .ge 6, 3) := by decide +kernel
theorem dX12_taken_39 : decode cX12_taken 39 = .ok (.bipush (-11), 2) := by decide +kernel
theorem dX12_taken_41 : decode cX12_taken 41 = .ok (.ireturn, 1) := by decide +kernel
theorem dX12_taken_42 : decode cX12_taken 42 = .ok (.iload_n 3, 1) := by decide +kernel
theorem dX12_taken_43 : decode cX12_taken 43 = .ok (.ifCond .ne 35, 3) := by decide +kernel
theorem dX12_taken_46 : decode cX12_taken 46 = .ok (.iload_n 2, 1) := by decide +kernel
theorem dX12_taken_47 : decode cX12_taken 47 = .ok (.bipush 10, 2) := by decide +kernel
theorem dX12_taken_49 : decode cX12_taken 49 = .ok (.if_icmp .ge 25, 3) := by decide +kernel
theorem dX12_taken_52 : decode cX12_taken 52 = .ok (.aload_n 0, 1) := by decide +kernel
theorem dX12_taken_53 : decode cX12_taken 53 = .ok (.aload_n 0, 1) := by decide +kernel
theorem dX12_taken_54 : decode cX12_taken 54 = .ok (.getfield 65, 3) := by decide +kernel
theorem dX12_taken_57 : decode cX12_taken 57 = .ok (.iload_n 1, 1) := by decide +kernel
theorem dX12_taken_58 : decode cX12_taken 58 = .ok (.iaload, 1) := by decide +kernel
theorem dX12_taken_59 : decode cX12_taken 59 = .ok (.iconst 0, 1) := by decide +kernel
theorem dX12_taken_60 : decode cX12_taken 60 = .ok (.invokevirtual 79, 3) := by decide +kernel
theorem dX12_taken_63 : decode cX12_taken 63 = .ok (.iload_n 2, 1) := by decide +kernel
theorem dX12_taken_64 : decode cX12_taken 64 = .ok (.invokestatic 120, 3) := by decide +kernel
theorem dX12_taken_67 : decode cX12_taken 67 = .ok (.ifCond .eq 7, 3) := by decide +kernel
theorem dX12_taken_70 : decode cX12_taken 70 = .ok (.iconst 1, 1) := by decide +kernel
theorem dX12_taken_71 : decode cX12_taken 71 = .ok (.goto 17, 3) := by decide +kernel
theorem dX12_taken_74 : decode cX12_taken 74 = .ok (.iconst 0, 1) := by decide +kernel
theorem dX12_taken_75 : decode cX12_taken 75 = .ok (.goto 13, 3) := by decide +kernel
theorem dX12_taken_78 : decode cX12_taken 78 = .ok (.iload_n 3, 1) := by decide +kernel
theorem dX12_taken_79 : decode cX12_taken 79 = .ok (.iload_n 2, 1) := by decide +kernel
theorem dX12_taken_80 : decode cX12_taken 80 = .ok (.if_icmp .ne 7, 3) := by decide +kernel
theorem dX12_taken_83 : decode cX12_taken 83 = .ok (.iconst 1, 1) := by decide +kernel
theorem dX12_taken_84 : decode cX12_taken 84 = .ok (.goto 4, 3) := by decide +kernel
theorem dX12_taken_87 : decode cX12_taken 87 = .ok (.iconst 0, 1) := by decide +kernel
theorem dX12_taken_88 : decode cX12_taken 88 = .ok (.istore 4, 2) := by decide +kernel
theorem dX12_taken_90 : decode cX12_taken 90 = .ok (.iload 4, 2) := by decide +kernel
theorem dX12_taken_92 : decode cX12_taken 92 = .ok (.ifCond .eq 12, 3) := by decide +kernel
theorem dX12_taken_95 : decode cX12_taken 95 = .ok (.aload_n 0, 1) := by decide +kernel
theorem dX12_taken_96 : decode cX12_taken 96 = .ok (.getfield 65, 3) := by decide +kernel
theorem dX12_taken_99 : decode cX12_taken 99 = .ok (.iload_n 1, 1) := by decide +kernel
theorem dX12_taken_100 : decode cX12_taken 100 = .ok (.iaload, 1) := by decide +kernel
theorem dX12_taken_101 : decode cX12_taken 101 = .ok (.goto 5, 3) := by decide +kernel
theorem dX12_taken_104 : decode cX12_taken 104 = .ok (.bipush (-13), 2) := by decide +kernel
theorem dX12_taken_106 : decode cX12_taken 106 = .ok (.ireturn, 1) := by decide +kernel
def r_taken_88 (a1 : Int32) (s0 : Int32) (m : M) : Option (Int32) :=
  (if s0 = 0 then some (-13 : Int32) else Option.bind (rdI m 95 a1) (fun v1 => some v1))
set_option maxRecDepth 20000 in
theorem t_r_taken_88 {G : GG} {x : Cx} (E : En G x cX12_taken "WreckBoardModel" 4 (some .int)) (hn : xn x = 5) (a1 : Int32) (s0 : Int32) (m : M) : Sm G x 88 [(0, .ref (G.2.1 76)), (1, .int a1)] [.int s0] m (r_taken_88 a1 s0 m) (KRi m) := by
  unfold r_taken_88
  refine s_istore (lv' := [(0, .ref (G.2.1 76)), (1, .int a1), (4, .int s0)]) [1, 2, 0] E dX12_taken_88 (by rw [hn]; decide) rfl ?_
  refine s_iload 2 E dX12_taken_90 rfl ?_
  refine s_if_eq 104 E dX12_taken_92 (by decide) ?_ ?_
  · refine s_bipush (v := (-13 : Int32)) E dX12_taken_104 (by decide) ?_
    exact s_iret E rfl dX12_taken_106
  · refine s_aload_n 0 E dX12_taken_95 rfl rfl ?_
    refine s_getr (k := 33) (T := TX12) 76 E rfl rfl rfl inX12 (by decide) W1272 dX12_taken_96 ?_
    refine s_iload_n 1 E dX12_taken_99 rfl rfl ?_
    refine s_iald E dX12_taken_100 (fun v1 => ?_)
    refine s_goto 106 E dX12_taken_101 (by decide) ?_
    exact s_iret E rfl dX12_taken_106
def r_taken_74 (a1 : Int32) (m : M) : Option (Int32) :=
  r_taken_88 a1 (0 : Int32) m
set_option maxRecDepth 20000 in
theorem t_r_taken_74 {G : GG} {x : Cx} (E : En G x cX12_taken "WreckBoardModel" 4 (some .int)) (hn : xn x = 5) (a1 : Int32) (m : M) : Sm G x 74 [(0, .ref (G.2.1 76)), (1, .int a1)] [] m (r_taken_74 a1 m) (KRi m) := by
  unfold r_taken_74
  refine s_iconst (v := (0 : Int32)) E dX12_taken_74 (by decide) ?_
  refine s_goto 88 E dX12_taken_75 (by decide) ?_
  exact t_r_taken_88 E hn a1 (0 : Int32) m
def r_taken_29 (a1 : Int32) (a2 : Int32) (m : M) : Option (Int32) :=
  Option.bind (r_heldOn a1 m) (fun v1 => (if 0 ≤ v1 then (if v1 = 0 then (if (10 : Int32) ≤ a2 then r_taken_74 a1 m else Option.bind (rdI m 95 a1) (fun v2 => Option.bind (r_get v2 (0 : Int32) m) (fun v3 => Option.bind (r_isUnder v3 a2 m) (fun v4 => (if v4 = 0 then r_taken_74 a1 m else r_taken_88 a1 (1 : Int32) m))))) else (if v1 = a2 then r_taken_88 a1 (1 : Int32) m else r_taken_88 a1 (0 : Int32) m)) else some (-11 : Int32)))
set_option maxRecDepth 20000 in
theorem t_r_taken_29 {G : GG} {x : Cx} (E : En G x cX12_taken "WreckBoardModel" 4 (some .int)) (hn : xn x = 5) (a1 : Int32) (a2 : Int32) (m : M) : Sm G x 29 [(0, .ref (G.2.1 76)), (1, .int a1), (2, .int a2)] [] m (r_taken_29 a1 a2 m) (KRi m) := by
  unfold r_taken_29
  refine s_aload_n 0 E dX12_taken_29 rfl rfl ?_
  refine s_iload_n 1 E dX12_taken_30 rfl rfl ?_
  refine s_bd (fun v1 hz => ?_)
  refine s_cV (rest := []) E (C_r_heldOn (xl x) G a1 m hz) mdX12_heldOn W1811 W1813 W84 W103 W1814 rfl rfl rfl rfl (Nat.le_of_ble_eq_true rfl) ⟨by decide, by decide⟩ dX12_taken_31 ?_
  refine s_istore_n (lv' := [(0, .ref (G.2.1 76)), (1, .int a1), (2, .int a2), (3, .int v1)]) [1, 2, 3, 0] E dX12_taken_34 rfl (by rw [hn]; decide) rfl ?_
  refine s_iload_n 3 E dX12_taken_35 rfl rfl ?_
  refine s_if_ge 42 E dX12_taken_36 (by decide) ?_ ?_
  · refine s_iload_n 3 E dX12_taken_42 rfl rfl ?_
    refine s_if_ne 78 E dX12_taken_43 (by decide) ?_ ?_
    · refine s_iload_n 3 E dX12_taken_78 rfl rfl ?_
      refine s_iload_n 2 E dX12_taken_79 rfl rfl ?_
      refine s_icmp_ne 87 E dX12_taken_80 (by decide) ?_ ?_
      · refine s_iconst (v := (0 : Int32)) E dX12_taken_87 (by decide) ?_
        refine s_sub (lv' := [(0, .ref (G.2.1 76)), (1, .int a1)]) [0, 1] rfl ?_
        exact t_r_taken_88 E hn a1 (0 : Int32) m
      · refine s_iconst (v := (1 : Int32)) E dX12_taken_83 (by decide) ?_
        refine s_goto 88 E dX12_taken_84 (by decide) ?_
        refine s_sub (lv' := [(0, .ref (G.2.1 76)), (1, .int a1)]) [0, 1] rfl ?_
        exact t_r_taken_88 E hn a1 (1 : Int32) m
    · refine s_iload_n 2 E dX12_taken_46 rfl rfl ?_
      refine s_bipush (v := (10 : Int32)) E dX12_taken_47 (by decide) ?_
      refine s_icmp_ge 74 E dX12_taken_49 (by decide) ?_ ?_
      · refine s_sub (lv' := [(0, .ref (G.2.1 76)), (1, .int a1)]) [0, 1] rfl ?_
        exact t_r_taken_74 E hn a1 m
      · refine s_aload_n 0 E dX12_taken_52 rfl rfl ?_
        refine s_aload_n 0 E dX12_taken_53 rfl rfl ?_
        refine s_getr (k := 33) (T := TX12) 76 E rfl rfl rfl inX12 (by decide) W1272 dX12_taken_54 ?_
        refine s_iload_n 1 E dX12_taken_57 rfl rfl ?_
        refine s_iald E dX12_taken_58 (fun v2 => ?_)
        refine s_iconst (v := (0 : Int32)) E dX12_taken_59 (by decide) ?_
        refine s_bd (fun v3 hz => ?_)
        refine s_cV (rest := []) E (C_r_get (xl x) G v2 (0 : Int32) m hz) mdX12_get W1453 W1455 W46 W103 W1456 rfl rfl rfl rfl (Nat.le_of_ble_eq_true rfl) ⟨by decide, by decide⟩ dX12_taken_60 ?_
        refine s_iload_n 2 E dX12_taken_63 rfl rfl ?_
        refine s_bd (fun v4 hz => ?_)
        refine s_cS (rest := []) E (C_r_isUnder (xl x) G v3 a2 m hz) mdX12_isUnder W1480 W1481 W103 W1482 rfl rfl (Nat.le_of_ble_eq_true rfl) ⟨by decide, by decide⟩ dX12_taken_64 ?_
        refine s_if_eq 74 E dX12_taken_67 (by decide) ?_ ?_
        · refine s_sub (lv' := [(0, .ref (G.2.1 76)), (1, .int a1)]) [0, 1] rfl ?_
          exact t_r_taken_74 E hn a1 m
        · refine s_iconst (v := (1 : Int32)) E dX12_taken_70 (by decide) ?_
          refine s_goto 88 E dX12_taken_71 (by decide) ?_
          refine s_sub (lv' := [(0, .ref (G.2.1 76)), (1, .int a1)]) [0, 1] rfl ?_
          exact t_r_taken_88 E hn a1 (1 : Int32) m
  · refine s_bipush (v := (-11 : Int32)) E dX12_taken_39 (by decide) ?_
    exact s_iret E rfl dX12_taken_41
def r_taken (a1 : Int32) (a2 : Int32) (m : M) : Option (Int32) :=
  Option.bind (r_isSheet a1 m) (fun v1 => (if v1 = 0 then some (-1 : Int32) else Option.bind (r_in1 a2 (0 : Int32) (5 : Int32) m) (fun v2 => (if v2 = 0 then Option.bind (r_in1 a2 (10 : Int32) (14 : Int32) m) (fun v3 => (if v3 = 0 then some (-1 : Int32) else r_taken_29 a1 a2 m)) else r_taken_29 a1 a2 m))))
set_option maxRecDepth 20000 in
theorem t_r_taken {G : GG} {x : Cx} (E : En G x cX12_taken "WreckBoardModel" 4 (some .int)) (hn : xn x = 5) (a1 : Int32) (a2 : Int32) (m : M) : Sm G x 0 [(0, .ref (G.2.1 76)), (1, .int a1), (2, .int a2)] [] m (r_taken a1 a2 m) (KRi m) := by
  unfold r_taken
  refine s_iload_n 1 E dX12_taken_0 rfl rfl ?_
  refine s_bd (fun v1 hz => ?_)
  refine s_cS (rest := []) E (C_r_isSheet (xl x) G a1 m hz) mdX12_isSheet W1773 W1774 W103 W1775 rfl rfl (Nat.le_of_ble_eq_true rfl) ⟨by decide, by decide⟩ dX12_taken_1 ?_
  refine s_if_eq 27 E dX12_taken_4 (by decide) ?_ ?_
  · refine s_iconst (v := (-1 : Int32)) E dX12_taken_27 (by decide) ?_
    exact s_iret E rfl dX12_taken_28
  · refine s_iload_n 2 E dX12_taken_7 rfl rfl ?_
    refine s_iconst (v := (0 : Int32)) E dX12_taken_8 (by decide) ?_
    refine s_iconst (v := (5 : Int32)) E dX12_taken_9 (by decide) ?_
    refine s_bd (fun v2 hz => ?_)
    refine s_cS (rest := []) E (C_r_in1 (xl x) G a2 (0 : Int32) (5 : Int32) m hz) mdX12_in1 W1359 W1360 W103 W1361 rfl rfl (Nat.le_of_ble_eq_true rfl) ⟨by decide, by decide⟩ dX12_taken_10 ?_
    refine s_if_ne 29 E dX12_taken_13 (by decide) ?_ ?_
    · exact t_r_taken_29 E hn a1 a2 m
    · refine s_iload_n 2 E dX12_taken_16 rfl rfl ?_
      refine s_bipush (v := (10 : Int32)) E dX12_taken_17 (by decide) ?_
      refine s_bipush (v := (14 : Int32)) E dX12_taken_19 (by decide) ?_
      refine s_bd (fun v3 hz => ?_)
      refine s_cS (rest := []) E (C_r_in1 (xl x) G a2 (10 : Int32) (14 : Int32) m hz) mdX12_in1 W1359 W1360 W103 W1361 rfl rfl (Nat.le_of_ble_eq_true rfl) ⟨by decide, by decide⟩ dX12_taken_21 ?_
      refine s_if_ne 29 E dX12_taken_24 (by decide) ?_ ?_
      · exact t_r_taken_29 E hn a1 a2 m
      · refine s_iconst (v := (-1 : Int32)) E dX12_taken_27 (by decide) ?_
        exact s_iret E rfl dX12_taken_28
set_option maxRecDepth 20000 in
theorem C_r_taken (l : Launch) (G : GG) (a1 : Int32) (a2 : Int32) (m : M) {z : Int32} (hz : r_taken a1 a2 m = some z) : Ct l G yX12_taken cX12_taken 5 (some .int) 4 [.ref (G.2.1 76), .int a1, .int a2] m (some (.int z)) m :=
  ct_of (K := (KRi m)) (by decide) (Nat.le_of_ble_eq_true rfl) (congrArg (fun q => Option.bind q _) hz) (fun x hl hn E => (t_r_taken E hn a1 a2 m))
theorem dX12_starts_0 : decode cX12_starts 0 = .ok (.aload_n 0, 1) := by decide +kernel
theorem dX12_starts_1 : decode cX12_starts 1 = .ok (.getfield 344, 3) := by decide +kernel
theorem dX12_starts_4 : decode cX12_starts 4 = .ok (.bipush 30, 2) := by decide +kernel
theorem dX12_starts_6 : decode cX12_starts 6 = .ok (.if_icmp .ge 23, 3) := by decide +kernel
theorem dX12_starts_9 : decode cX12_starts 9 = .ok (.aload_n 0, 1) := by decide +kernel
theorem dX12_starts_10 : decode cX12_starts 10 = .ok (.getfield 68, 3) := by decide +kernel
theorem dX12_starts_13 : decode cX12_starts 13 = .ok (.aload_n 0, 1) := by decide +kernel
theorem dX12_starts_14 : decode cX12_starts 14 = .ok (.getfield 344, 3) := by decide +kernel
theorem dX12_starts_17 : decode cX12_starts 17 = .ok (.iload_n 1, 1) := by decide +kernel
theorem dX12_starts_18 : decode cX12_starts 18 = .ok (.iastore, 1) := by decide +kernel
theorem dX12_starts_19 : decode cX12_starts 19 = .ok (.aload_n 0, 1) := by decide +kernel
theorem dX12_starts_20 : decode cX12_starts 20 = .ok (.dup, 1) := by decide +kernel
theorem dX12_starts_21 : decode cX12_starts 21 = .ok (.getfield 344, 3) := by decide +kernel
theorem dX12_starts_24 : decode cX12_starts 24 = .ok (.iconst 1, 1) := by decide +kernel
theorem dX12_starts_25 : decode cX12_starts 25 = .ok (.iadd, 1) := by decide +kernel
theorem dX12_starts_26 : decode cX12_starts 26 = .ok (.putfield 344, 3) := by decide +kernel
theorem dX12_starts_29 : decode cX12_starts 29 = .ok (.return_, 1) := by decide +kernel
def r_starts (a1 : Int32) (m : M) : Option (M) :=
  (if (30 : Int32) ≤ (m 76 35) then some m else Option.bind (wrI m 96 (m 76 35) a1) (fun m1 => lt (wrF m1 76 35 ((m1 76 35) + (1 : Int32))) (fun m2 => some m2)))
set_option maxRecDepth 20000 in
theorem t_r_starts {G : GG} {x : Cx} (E : En G x cX12_starts "WreckBoardModel" 1 none) (hn : xn x = 2) (a1 : Int32) (m : M) : Sm G x 0 [(0, .ref (G.2.1 76)), (1, .int a1)] [] m (r_starts a1 m) KWv := by
  unfold r_starts
  refine s_aload_n 0 E dX12_starts_0 rfl rfl ?_
  refine s_geti (k := 35) (T := TX12) 76 E rfl rfl rfl inX12 (by decide) W1274 dX12_starts_1 ?_
  refine s_bipush (v := (30 : Int32)) E dX12_starts_4 (by decide) ?_
  refine s_icmp_ge 29 E dX12_starts_6 (by decide) ?_ ?_
  · exact s_vret E rfl dX12_starts_29
  · refine s_aload_n 0 E dX12_starts_9 rfl rfl ?_
    refine s_getr (k := 34) (T := TX12) 76 E rfl rfl rfl inX12 (by decide) W1273 dX12_starts_10 ?_
    refine s_aload_n 0 E dX12_starts_13 rfl rfl ?_
    refine s_geti (k := 35) (T := TX12) 76 E rfl rfl rfl inX12 (by decide) W1274 dX12_starts_14 ?_
    refine s_iload_n 1 E dX12_starts_17 rfl rfl ?_
    refine s_iast E dX12_starts_18 (fun m1 => ?_)
    refine s_aload_n 0 E dX12_starts_19 rfl rfl ?_
    refine s_dup E dX12_starts_20 rfl ?_
    refine s_geti (k := 35) (T := TX12) 76 E rfl rfl rfl inX12 (by decide) W1274 dX12_starts_21 ?_
    refine s_iconst (v := (1 : Int32)) E dX12_starts_24 (by decide) ?_
    refine s_iadd E dX12_starts_25 ?_
    refine s_put (k := 35) (T := TX12) (ty := .int) 76 E rfl rfl rfl inX12 tyX12 tyX12_ok nmX12 (by decide) W1274 rfl (by decide +kernel) rfl rfl dX12_starts_26 ?_
    refine s_ltm rfl (fun m2 => ?_)
    exact s_vret E rfl dX12_starts_29
set_option maxRecDepth 20000 in
theorem C_r_starts (l : Launch) (G : GG) (a1 : Int32) (m : M) {z : M} (hz : r_starts a1 m = some z) : Ct l G yX12_starts cX12_starts 2 none 1 [.ref (G.2.1 76), .int a1] m none z :=
  ct_of (K := KWv) (by decide) (Nat.le_of_ble_eq_true rfl) (congrArg (fun q => Option.bind q _) hz) (fun x hl hn E => (t_r_starts E hn a1 m))
theorem mdX12_starts : mdq yX12_starts 1 := ⟨by decide, by decide, by decide +kernel⟩
theorem mdX12_secondsAs : mdq yX12_secondsAs 2 := ⟨by decide, by decide, by decide +kernel⟩
theorem mdX12_movesAs : mdq yX12_movesAs 2 := ⟨by decide, by decide, by decide +kernel⟩
theorem dX12_movesAs_0 : decode cX12_movesAs 0 = .ok (.iload_n 1, 1) := by decide +kernel
theorem dX12_movesAs_1 : decode cX12_movesAs 1 = .ok (.iconst 1, 1) := by decide +kernel
theorem dX12_movesAs_2 : decode cX12_movesAs 2 = .ok (.if_icmp .ne 19, 3) := by decide +kernel
theorem dX12_movesAs_5 : decode cX12_movesAs 5 = .ok (.aload_n 0, 1) := by decide +kernel
theorem dX12_movesAs_6 : decode cX12_movesAs 6 = .ok (.bipush 20, 2) := by decide +kernel
theorem dX12_movesAs_8 : decode cX12_movesAs 8 = .ok (.invokevirtual 347, 3) := by decide +kernel
theorem dX12_movesAs_11 : decode cX12_movesAs 11 = .ok (.aload_n 0, 1) := by decide +kernel
theorem dX12_movesAs_12 : decode cX12_movesAs 12 = .ok (.iconst 0, 1) := by decide +kernel
theorem dX12_movesAs_13 : decode cX12_movesAs 13 = .ok (.iload_n 2, 1) := by decide +kernel
theorem dX12_movesAs_14 : decode cX12_movesAs 14 = .ok (.invokevirtual 350, 3) := by decide +kernel
theorem dX12_movesAs_17 : decode cX12_movesAs 17 = .ok (.bipush 6, 2) := by decide +kernel
theorem dX12_movesAs_19 : decode cX12_movesAs 19 = .ok (.ixor, 1) := by decide +kernel
theorem dX12_movesAs_20 : decode cX12_movesAs 20 = .ok (.ireturn, 1) := by decide +kernel
theorem dX12_movesAs_21 : decode cX12_movesAs 21 = .ok (.iload_n 1, 1) := by decide +kernel
theorem dX12_movesAs_22 : decode cX12_movesAs 22 = .ok (.iconst 3, 1) := by decide +kernel
theorem dX12_movesAs_23 : decode cX12_movesAs 23 = .ok (.if_icmp .ne 19, 3) := by decide +kernel
theorem dX12_movesAs_26 : decode cX12_movesAs 26 = .ok (.aload_n 0, 1) := by decide +kernel
theorem dX12_movesAs_27 : decode cX12_movesAs 27 = .ok (.bipush 50, 2) := by decide +kernel
theorem dX12_movesAs_29 : decode cX12_movesAs 29 = .ok (.invokevirtual 347, 3) := by decide +kernel
theorem dX12_movesAs_32 : decode cX12_movesAs 32 = .ok (.aload_n 0, 1) := by decide +kernel
theorem dX12_movesAs_33 : decode cX12_movesAs 33 = .ok (.iconst 2, 1) := by decide +kernel
theorem dX12_movesAs_34 : decode cX12_movesAs 34 = .ok (.iload_n 2, 1) := by decide +kernel
theorem dX12_movesAs_35 : decode cX12_movesAs 35 = .ok (.bipush 9, 2) := by decide +kernel
theorem dX12_movesAs_37 : decode cX12_movesAs 37 = .ok (.isub, 1) := by decide +kernel
theorem dX12_movesAs_38 : decode cX12_movesAs 38 = .ok (.invokevirtual 350, 3) := by decide +kernel
theorem dX12_movesAs_41 : decode cX12_movesAs 41 = .ok (.ireturn, 1) := by decide +kernel
theorem dX12_movesAs_42 : decode cX12_movesAs 42 = .ok (.aload_n 0, 1) := by decide +kernel
theorem dX12_movesAs_43 : decode cX12_movesAs 43 = .ok (.bipush 10, 2) := by decide +kernel
theorem dX12_movesAs_45 : decode cX12_movesAs 45 = .ok (.invokevirtual 347, 3) := by decide +kernel
theorem dX12_movesAs_48 : decode cX12_movesAs 48 = .ok (.iload_n 2, 1) := by decide +kernel
theorem dX12_movesAs_49 : decode cX12_movesAs 49 = .ok (.iconst 2, 1) := by decide +kernel
theorem dX12_movesAs_50 : decode cX12_movesAs 50 = .ok (.imul, 1) := by decide +kernel
theorem dX12_movesAs_51 : decode cX12_movesAs 51 = .ok (.aload_n 0, 1) := by decide +kernel
theorem dX12_movesAs_52 : decode cX12_movesAs 52 = .ok (.getfield 353, 3) := by decide +kernel
theorem dX12_movesAs_55 : decode cX12_movesAs 55 = .ok (.isub, 1) := by decide +kernel
theorem dX12_movesAs_56 : decode cX12_movesAs 56 = .ok (.ireturn, 1) := by decide +kernel
def r_movesAs (rec : Int32 → Int32 → M → Option (Int32 × M)) (a1 : Int32) (a2 : Int32) (m : M) : Option (Int32 × M) :=
  (if a1 = (1 : Int32) then Option.bind (r_starts (20 : Int32) m) (fun m4 => Option.bind (rec (0 : Int32) a2 m4) (fun z5 => some ((z5.1 ^^^ (6 : Int32)), z5.2))) else (if a1 = (3 : Int32) then Option.bind (r_starts (50 : Int32) m) (fun m2 => Option.bind (rec (2 : Int32) (a2 - (9 : Int32)) m2) (fun z3 => some (z3.1, z3.2))) else Option.bind (r_starts (10 : Int32) m) (fun m1 => some (((a2 * (2 : Int32)) - (m1 76 36)), m1))))
set_option maxRecDepth 20000 in
theorem t_r_movesAs {G : GG} {x : Cx} {lv0 : Nat} (E : En G x cX12_movesAs "WreckBoardModel" (lv0 + 1) (some .int)) (hn : xn x = 3) (rec : Int32 → Int32 → M → Option (Int32 × M)) (hlb : 1 ≤ lv0) (hrec : ∀ (a1 : Int32) (a2 : Int32) (m : M) (z : Int32 × M), rec a1 a2 m = some z → Ct (xl x) G yX12_movesAs cX12_movesAs 3 (some .int) lv0 [.ref (G.2.1 76), .int a1, .int a2] m (some (.int z.1)) z.2) (a1 : Int32) (a2 : Int32) (m : M) : Sm G x 0 [(0, .ref (G.2.1 76)), (1, .int a1), (2, .int a2)] [] m (r_movesAs rec a1 a2 m) KWi := by
  unfold r_movesAs
  refine s_iload_n 1 E dX12_movesAs_0 rfl rfl ?_
  refine s_iconst (v := (1 : Int32)) E dX12_movesAs_1 (by decide) ?_
  refine s_icmp_ne 21 E dX12_movesAs_2 (by decide) ?_ ?_
  · refine s_iload_n 1 E dX12_movesAs_21 rfl rfl ?_
    refine s_iconst (v := (3 : Int32)) E dX12_movesAs_22 (by decide) ?_
    refine s_icmp_ne 42 E dX12_movesAs_23 (by decide) ?_ ?_
    · refine s_aload_n 0 E dX12_movesAs_42 rfl rfl ?_
      refine s_bipush (v := (10 : Int32)) E dX12_movesAs_43 (by decide) ?_
      refine s_bd (fun m1 hz => ?_)
      refine s_cV (rest := []) E (C_r_starts (xl x) G (10 : Int32) m hz) mdX12_starts W1823 W1825 W86 W103 W1826 rfl rfl rfl rfl (Nat.le_of_ble_eq_true rfl) ⟨by omega, by omega⟩ dX12_movesAs_45 ?_
      refine s_iload_n 2 E dX12_movesAs_48 rfl rfl ?_
      refine s_iconst (v := (2 : Int32)) E dX12_movesAs_49 (by decide) ?_
      refine s_imul E dX12_movesAs_50 ?_
      refine s_aload_n 0 E dX12_movesAs_51 rfl rfl ?_
      refine s_geti (k := 36) (T := TX12) 76 E rfl rfl rfl inX12 (by decide) W1275 dX12_movesAs_52 ?_
      refine s_isub E dX12_movesAs_55 ?_
      exact s_iret E rfl dX12_movesAs_56
    · refine s_aload_n 0 E dX12_movesAs_26 rfl rfl ?_
      refine s_bipush (v := (50 : Int32)) E dX12_movesAs_27 (by decide) ?_
      refine s_bd (fun m2 hz => ?_)
      refine s_cV (rest := []) E (C_r_starts (xl x) G (50 : Int32) m hz) mdX12_starts W1823 W1825 W86 W103 W1826 rfl rfl rfl rfl (Nat.le_of_ble_eq_true rfl) ⟨by omega, by omega⟩ dX12_movesAs_29 ?_
      refine s_aload_n 0 E dX12_movesAs_32 rfl rfl ?_
      refine s_iconst (v := (2 : Int32)) E dX12_movesAs_33 (by decide) ?_
      refine s_iload_n 2 E dX12_movesAs_34 rfl rfl ?_
      refine s_bipush (v := (9 : Int32)) E dX12_movesAs_35 (by decide) ?_
      refine s_isub E dX12_movesAs_37 ?_
      refine s_bd (fun z3 hz => ?_)
      refine s_cV (rest := []) E (hrec (2 : Int32) (a2 - (9 : Int32)) m2 z3 hz) mdX12_movesAs W1819 W1821 W85 W103 W1822 rfl rfl rfl rfl (Nat.le_of_ble_eq_true rfl) ⟨by omega, by omega⟩ dX12_movesAs_38 ?_
      exact s_iret E rfl dX12_movesAs_41
  · refine s_aload_n 0 E dX12_movesAs_5 rfl rfl ?_
    refine s_bipush (v := (20 : Int32)) E dX12_movesAs_6 (by decide) ?_
    refine s_bd (fun m4 hz => ?_)
    refine s_cV (rest := []) E (C_r_starts (xl x) G (20 : Int32) m hz) mdX12_starts W1823 W1825 W86 W103 W1826 rfl rfl rfl rfl (Nat.le_of_ble_eq_true rfl) ⟨by omega, by omega⟩ dX12_movesAs_8 ?_
    refine s_aload_n 0 E dX12_movesAs_11 rfl rfl ?_
    refine s_iconst (v := (0 : Int32)) E dX12_movesAs_12 (by decide) ?_
    refine s_iload_n 2 E dX12_movesAs_13 rfl rfl ?_
    refine s_bd (fun z5 hz => ?_)
    refine s_cV (rest := []) E (hrec (0 : Int32) a2 m4 z5 hz) mdX12_movesAs W1819 W1821 W85 W103 W1822 rfl rfl rfl rfl (Nat.le_of_ble_eq_true rfl) ⟨by omega, by omega⟩ dX12_movesAs_14 ?_
    refine s_bipush (v := (6 : Int32)) E dX12_movesAs_17 (by decide) ?_
    refine s_ixor E dX12_movesAs_19 ?_
    exact s_iret E rfl dX12_movesAs_20
set_option maxRecDepth 20000 in
theorem C_r_movesAs (l : Launch) (G : GG) (rec : Int32 → Int32 → M → Option (Int32 × M)) {lv0 : Nat} (hlb : 1 ≤ lv0) (hrec : ∀ (a1 : Int32) (a2 : Int32) (m : M) (z : Int32 × M), rec a1 a2 m = some z → Ct l G yX12_movesAs cX12_movesAs 3 (some .int) lv0 [.ref (G.2.1 76), .int a1, .int a2] m (some (.int z.1)) z.2) (a1 : Int32) (a2 : Int32) (m : M) {z : Int32 × M} (hz : r_movesAs rec a1 a2 m = some z) : Ct l G yX12_movesAs cX12_movesAs 3 (some .int) (lv0 + 1) [.ref (G.2.1 76), .int a1, .int a2] m (some (.int z.1)) z.2 :=
  ct_of (K := KWi) (by decide) (Nat.le_of_ble_eq_true rfl) (congrArg (fun q => Option.bind q _) hz) (fun x hl hn E => (t_r_movesAs E hn rec hlb (by rw [hl]; exact hrec) a1 a2 m))
def r_movesAs_d : Nat → Int32 → Int32 → M → Option (Int32 × M)
  | 0 => fun _ _ _ => none
  | d + 1 => fun a1 a2 m => r_movesAs (r_movesAs_d d) a1 a2 m
theorem C_r_movesAs_d (l : Launch) (G : GG) : ∀ (d : Nat) (a1 : Int32) (a2 : Int32) (m : M) {z : Int32 × M}, r_movesAs_d d a1 a2 m = some z → Ct l G yX12_movesAs cX12_movesAs 3 (some .int) (1 + 1 * d) [.ref (G.2.1 76), .int a1, .int a2] m (some (.int z.1)) z.2 := by
  intro d
  induction d with
  | zero => intro a1 a2 m z hz; cases hz
  | succ d ih =>
    intro a1 a2 m z hz
    exact C_r_movesAs l G (r_movesAs_d d) (lv0 := 1 + 1 * d) (by omega) (fun a1 a2 m z h => ih a1 a2 m h) a1 a2 m hz
theorem dX12_secondsAs_0 : decode cX12_secondsAs 0 = .ok (.iload_n 1, 1) := by decide +kernel
theorem dX12_secondsAs_1 : decode cX12_secondsAs 1 = .ok (.iconst 2, 1) := by decide +kernel
theorem dX12_secondsAs_2 : decode cX12_secondsAs 2 = .ok (.if_icmp .eq 8, 3) := by decide +kernel
theorem dX12_secondsAs_5 : decode cX12_secondsAs 5 = .ok (.iload_n 1, 1) := by decide +kernel
theorem dX12_secondsAs_6 : decode cX12_secondsAs 6 = .ok (.iconst 3, 1) := by decide +kernel
theorem dX12_secondsAs_7 : decode cX12_secondsAs 7 = .ok (.if_icmp .ne 18, 3) := by decide +kernel
theorem dX12_secondsAs_10 : decode cX12_secondsAs 10 = .ok (.aload_n 0, 1) := by decide +kernel
theorem dX12_secondsAs_11 : decode cX12_secondsAs 11 = .ok (.bipush 30, 2) := by decide +kernel
theorem dX12_secondsAs_13 : decode cX12_secondsAs 13 = .ok (.invokevirtual 347, 3) := by decide +kernel
theorem dX12_secondsAs_16 : decode cX12_secondsAs 16 = .ok (.aload_n 0, 1) := by decide +kernel
theorem dX12_secondsAs_17 : decode cX12_secondsAs 17 = .ok (.iconst 0, 1) := by decide +kernel
theorem dX12_secondsAs_18 : decode cX12_secondsAs 18 = .ok (.iload_n 2, 1) := by decide +kernel
theorem dX12_secondsAs_19 : decode cX12_secondsAs 19 = .ok (.invokevirtual 356, 3) := by decide +kernel
theorem dX12_secondsAs_22 : decode cX12_secondsAs 22 = .ok (.iconst 2, 1) := by decide +kernel
theorem dX12_secondsAs_23 : decode cX12_secondsAs 23 = .ok (.imul, 1) := by decide +kernel
theorem dX12_secondsAs_24 : decode cX12_secondsAs 24 = .ok (.ireturn, 1) := by decide +kernel
theorem dX12_secondsAs_25 : decode cX12_secondsAs 25 = .ok (.iload_n 1, 1) := by decide +kernel
theorem dX12_secondsAs_26 : decode cX12_secondsAs 26 = .ok (.iconst 5, 1) := by decide +kernel
theorem dX12_secondsAs_27 : decode cX12_secondsAs 27 = .ok (.if_icmp .ne 17, 3) := by decide +kernel
theorem dX12_secondsAs_30 : decode cX12_secondsAs 30 = .ok (.aload_n 0, 1) := by decide +kernel
theorem dX12_secondsAs_31 : decode cX12_secondsAs 31 = .ok (.bipush 60, 2) := by decide +kernel
theorem dX12_secondsAs_33 : decode cX12_secondsAs 33 = .ok (.invokevirtual 347, 3) := by decide +kernel
theorem dX12_secondsAs_36 : decode cX12_secondsAs 36 = .ok (.aload_n 0, 1) := by decide +kernel
theorem dX12_secondsAs_37 : decode cX12_secondsAs 37 = .ok (.iconst 4, 1) := by decide +kernel
theorem dX12_secondsAs_38 : decode cX12_secondsAs 38 = .ok (.iload_n 2, 1) := by decide +kernel
theorem dX12_secondsAs_39 : decode cX12_secondsAs 39 = .ok (.invokevirtual 356, 3) := by decide +kernel
theorem dX12_secondsAs_42 : decode cX12_secondsAs 42 = .ok (.ineg, 1) := by decide +kernel
theorem dX12_secondsAs_43 : decode cX12_secondsAs 43 = .ok (.ireturn, 1) := by decide +kernel
theorem dX12_secondsAs_44 : decode cX12_secondsAs 44 = .ok (.aload_n 0, 1) := by decide +kernel
theorem dX12_secondsAs_45 : decode cX12_secondsAs 45 = .ok (.bipush 11, 2) := by decide +kernel
theorem dX12_secondsAs_47 : decode cX12_secondsAs 47 = .ok (.invokevirtual 347, 3) := by decide +kernel
theorem dX12_secondsAs_50 : decode cX12_secondsAs 50 = .ok (.aload_n 0, 1) := by decide +kernel
theorem dX12_secondsAs_51 : decode cX12_secondsAs 51 = .ok (.aload_n 0, 1) := by decide +kernel
theorem dX12_secondsAs_52 : decode cX12_secondsAs 52 = .ok (.aload_n 0, 1) := by decide +kernel
theorem dX12_secondsAs_53 : decode cX12_secondsAs 53 = .ok (.getfield 353, 3) := by decide +kernel
theorem dX12_secondsAs_56 : decode cX12_secondsAs 56 = .ok (.iconst 0, 1) := by decide +kernel
theorem dX12_secondsAs_57 : decode cX12_secondsAs 57 = .ok (.invokevirtual 79, 3) := by decide +kernel
theorem dX12_secondsAs_60 : decode cX12_secondsAs 60 = .ok (.iload_n 2, 1) := by decide +kernel
theorem dX12_secondsAs_61 : decode cX12_secondsAs 61 = .ok (.invokevirtual 350, 3) := by decide +kernel
theorem dX12_secondsAs_64 : decode cX12_secondsAs 64 = .ok (.iconst 3, 1) := by decide +kernel
theorem dX12_secondsAs_65 : decode cX12_secondsAs 65 = .ok (.aload_n 0, 1) := by decide +kernel
theorem dX12_secondsAs_66 : decode cX12_secondsAs 66 = .ok (.aload_n 0, 1) := by decide +kernel
theorem dX12_secondsAs_67 : decode cX12_secondsAs 67 = .ok (.getfield 353, 3) := by decide +kernel
theorem dX12_secondsAs_70 : decode cX12_secondsAs 70 = .ok (.iconst 3, 1) := by decide +kernel
theorem dX12_secondsAs_71 : decode cX12_secondsAs 71 = .ok (.invokevirtual 79, 3) := by decide +kernel
theorem dX12_secondsAs_74 : decode cX12_secondsAs 74 = .ok (.imul, 1) := by decide +kernel
theorem dX12_secondsAs_75 : decode cX12_secondsAs 75 = .ok (.iadd, 1) := by decide +kernel
theorem dX12_secondsAs_76 : decode cX12_secondsAs 76 = .ok (.ireturn, 1) := by decide +kernel
def r_secondsAs_10 (rec : Int32 → Int32 → M → Option (Int32 × M)) (a2 : Int32) (m : M) : Option (Int32 × M) :=
  Option.bind (r_starts (30 : Int32) m) (fun m1 => Option.bind (rec (0 : Int32) a2 m1) (fun z2 => some ((z2.1 * (2 : Int32)), z2.2)))
set_option maxRecDepth 20000 in
theorem t_r_secondsAs_10 {G : GG} {x : Cx} {lv0 : Nat} (E : En G x cX12_secondsAs "WreckBoardModel" (lv0 + 1) (some .int)) (hn : xn x = 3) (rec : Int32 → Int32 → M → Option (Int32 × M)) (hlb : 7 ≤ lv0) (hrec : ∀ (a1 : Int32) (a2 : Int32) (m : M) (z : Int32 × M), rec a1 a2 m = some z → Ct (xl x) G yX12_secondsAs cX12_secondsAs 3 (some .int) lv0 [.ref (G.2.1 76), .int a1, .int a2] m (some (.int z.1)) z.2) (a2 : Int32) (m : M) : Sm G x 10 [(0, .ref (G.2.1 76)), (2, .int a2)] [] m (r_secondsAs_10 rec a2 m) KWi := by
  unfold r_secondsAs_10
  refine s_aload_n 0 E dX12_secondsAs_10 rfl rfl ?_
  refine s_bipush (v := (30 : Int32)) E dX12_secondsAs_11 (by decide) ?_
  refine s_bd (fun m1 hz => ?_)
  refine s_cV (rest := []) E (C_r_starts (xl x) G (30 : Int32) m hz) mdX12_starts W1823 W1825 W86 W103 W1826 rfl rfl rfl rfl (Nat.le_of_ble_eq_true rfl) ⟨by omega, by omega⟩ dX12_secondsAs_13 ?_
  refine s_aload_n 0 E dX12_secondsAs_16 rfl rfl ?_
  refine s_iconst (v := (0 : Int32)) E dX12_secondsAs_17 (by decide) ?_
  refine s_iload_n 1 E dX12_secondsAs_18 rfl rfl ?_
  refine s_bd (fun z2 hz => ?_)
  refine s_cV (rest := []) E (hrec (0 : Int32) a2 m1 z2 hz) mdX12_secondsAs W1827 W1829 W87 W103 W1830 rfl rfl rfl rfl (Nat.le_of_ble_eq_true rfl) ⟨by omega, by omega⟩ dX12_secondsAs_19 ?_
  refine s_iconst (v := (2 : Int32)) E dX12_secondsAs_22 (by decide) ?_
  refine s_imul E dX12_secondsAs_23 ?_
  exact s_iret E rfl dX12_secondsAs_24
def r_secondsAs (rec : Int32 → Int32 → M → Option (Int32 × M)) (a1 : Int32) (a2 : Int32) (m : M) : Option (Int32 × M) :=
  (if a1 = (2 : Int32) then r_secondsAs_10 rec a2 m else (if a1 = (3 : Int32) then r_secondsAs_10 rec a2 m else (if a1 = (5 : Int32) then Option.bind (r_starts (60 : Int32) m) (fun m5 => Option.bind (rec (4 : Int32) a2 m5) (fun z6 => some ((-z6.1), z6.2))) else Option.bind (r_starts (11 : Int32) m) (fun m1 => Option.bind (r_get (m1 76 36) (0 : Int32) m1) (fun v2 => Option.bind (r_movesAs_d 6 v2 a2 m1) (fun z3 => Option.bind (r_get (z3.2 76 36) (3 : Int32) z3.2) (fun v4 => some ((z3.1 + ((3 : Int32) * v4)), z3.2))))))))
set_option maxRecDepth 20000 in
theorem t_r_secondsAs {G : GG} {x : Cx} {lv0 : Nat} (E : En G x cX12_secondsAs "WreckBoardModel" (lv0 + 1) (some .int)) (hn : xn x = 3) (rec : Int32 → Int32 → M → Option (Int32 × M)) (hlb : 7 ≤ lv0) (hrec : ∀ (a1 : Int32) (a2 : Int32) (m : M) (z : Int32 × M), rec a1 a2 m = some z → Ct (xl x) G yX12_secondsAs cX12_secondsAs 3 (some .int) lv0 [.ref (G.2.1 76), .int a1, .int a2] m (some (.int z.1)) z.2) (a1 : Int32) (a2 : Int32) (m : M) : Sm G x 0 [(0, .ref (G.2.1 76)), (1, .int a1), (2, .int a2)] [] m (r_secondsAs rec a1 a2 m) KWi := by
  unfold r_secondsAs
  refine s_iload_n 1 E dX12_secondsAs_0 rfl rfl ?_
  refine s_iconst (v := (2 : Int32)) E dX12_secondsAs_1 (by decide) ?_
  refine s_icmp_eq 10 E dX12_secondsAs_2 (by decide) ?_ ?_
  · refine s_sub (lv' := [(0, .ref (G.2.1 76)), (2, .int a2)]) [0, 2] rfl ?_
    exact t_r_secondsAs_10 E hn rec hlb hrec a2 m
  · refine s_iload_n 1 E dX12_secondsAs_5 rfl rfl ?_
    refine s_iconst (v := (3 : Int32)) E dX12_secondsAs_6 (by decide) ?_
    refine s_icmp_ne 25 E dX12_secondsAs_7 (by decide) ?_ ?_
    · refine s_iload_n 1 E dX12_secondsAs_25 rfl rfl ?_
      refine s_iconst (v := (5 : Int32)) E dX12_secondsAs_26 (by decide) ?_
      refine s_icmp_ne 44 E dX12_secondsAs_27 (by decide) ?_ ?_
      · refine s_aload_n 0 E dX12_secondsAs_44 rfl rfl ?_
        refine s_bipush (v := (11 : Int32)) E dX12_secondsAs_45 (by decide) ?_
        refine s_bd (fun m1 hz => ?_)
        refine s_cV (rest := []) E (C_r_starts (xl x) G (11 : Int32) m hz) mdX12_starts W1823 W1825 W86 W103 W1826 rfl rfl rfl rfl (Nat.le_of_ble_eq_true rfl) ⟨by omega, by omega⟩ dX12_secondsAs_47 ?_
        refine s_aload_n 0 E dX12_secondsAs_50 rfl rfl ?_
        refine s_aload_n 0 E dX12_secondsAs_51 rfl rfl ?_
        refine s_aload_n 0 E dX12_secondsAs_52 rfl rfl ?_
        refine s_geti (k := 36) (T := TX12) 76 E rfl rfl rfl inX12 (by decide) W1275 dX12_secondsAs_53 ?_
        refine s_iconst (v := (0 : Int32)) E dX12_secondsAs_56 (by decide) ?_
        refine s_bd (fun v2 hz => ?_)
        refine s_cV (rest := [.ref (G.2.1 76)]) E (C_r_get (xl x) G (m1 76 36) (0 : Int32) m1 hz) mdX12_get W1453 W1455 W46 W103 W1456 rfl rfl rfl rfl (Nat.le_of_ble_eq_true rfl) ⟨by omega, by omega⟩ dX12_secondsAs_57 ?_
        refine s_iload_n 2 E dX12_secondsAs_60 rfl rfl ?_
        refine s_bd (fun z3 hz => ?_)
        refine s_cV (rest := []) E (C_r_movesAs_d (xl x) G 6 v2 a2 m1 hz) mdX12_movesAs W1819 W1821 W85 W103 W1822 rfl rfl rfl rfl (Nat.le_of_ble_eq_true rfl) ⟨by omega, by omega⟩ dX12_secondsAs_61 ?_
        refine s_iconst (v := (3 : Int32)) E dX12_secondsAs_64 (by decide) ?_
        refine s_aload_n 0 E dX12_secondsAs_65 rfl rfl ?_
        refine s_aload_n 0 E dX12_secondsAs_66 rfl rfl ?_
        refine s_geti (k := 36) (T := TX12) 76 E rfl rfl rfl inX12 (by decide) W1275 dX12_secondsAs_67 ?_
        refine s_iconst (v := (3 : Int32)) E dX12_secondsAs_70 (by decide) ?_
        refine s_bd (fun v4 hz => ?_)
        refine s_cV (rest := [.int (3 : Int32), .int z3.1]) E (C_r_get (xl x) G (z3.2 76 36) (3 : Int32) z3.2 hz) mdX12_get W1453 W1455 W46 W103 W1456 rfl rfl rfl rfl (Nat.le_of_ble_eq_true rfl) ⟨by omega, by omega⟩ dX12_secondsAs_71 ?_
        refine s_imul E dX12_secondsAs_74 ?_
        refine s_iadd E dX12_secondsAs_75 ?_
        exact s_iret E rfl dX12_secondsAs_76
      · refine s_aload_n 0 E dX12_secondsAs_30 rfl rfl ?_
        refine s_bipush (v := (60 : Int32)) E dX12_secondsAs_31 (by decide) ?_
        refine s_bd (fun m5 hz => ?_)
        refine s_cV (rest := []) E (C_r_starts (xl x) G (60 : Int32) m hz) mdX12_starts W1823 W1825 W86 W103 W1826 rfl rfl rfl rfl (Nat.le_of_ble_eq_true rfl) ⟨by omega, by omega⟩ dX12_secondsAs_33 ?_
        refine s_aload_n 0 E dX12_secondsAs_36 rfl rfl ?_
        refine s_iconst (v := (4 : Int32)) E dX12_secondsAs_37 (by decide) ?_
        refine s_iload_n 2 E dX12_secondsAs_38 rfl rfl ?_
        refine s_bd (fun z6 hz => ?_)
        refine s_cV (rest := []) E (hrec (4 : Int32) a2 m5 z6 hz) mdX12_secondsAs W1827 W1829 W87 W103 W1830 rfl rfl rfl rfl (Nat.le_of_ble_eq_true rfl) ⟨by omega, by omega⟩ dX12_secondsAs_39 ?_
        refine s_ineg E dX12_secondsAs_42 ?_
        exact s_iret E rfl dX12_secondsAs_43
    · refine s_sub (lv' := [(0, .ref (G.2.1 76)), (2, .int a2)]) [0, 2] rfl ?_
      exact t_r_secondsAs_10 E hn rec hlb hrec a2 m
set_option maxRecDepth 20000 in
theorem C_r_secondsAs (l : Launch) (G : GG) (rec : Int32 → Int32 → M → Option (Int32 × M)) {lv0 : Nat} (hlb : 7 ≤ lv0) (hrec : ∀ (a1 : Int32) (a2 : Int32) (m : M) (z : Int32 × M), rec a1 a2 m = some z → Ct l G yX12_secondsAs cX12_secondsAs 3 (some .int) lv0 [.ref (G.2.1 76), .int a1, .int a2] m (some (.int z.1)) z.2) (a1 : Int32) (a2 : Int32) (m : M) {z : Int32 × M} (hz : r_secondsAs rec a1 a2 m = some z) : Ct l G yX12_secondsAs cX12_secondsAs 3 (some .int) (lv0 + 1) [.ref (G.2.1 76), .int a1, .int a2] m (some (.int z.1)) z.2 :=
  ct_of (K := KWi) (by decide) (Nat.le_of_ble_eq_true rfl) (congrArg (fun q => Option.bind q _) hz) (fun x hl hn E => (t_r_secondsAs E hn rec hlb (by rw [hl]; exact hrec) a1 a2 m))
