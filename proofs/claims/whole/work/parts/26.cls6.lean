set_option maxRecDepth 20000 in
theorem C_k_write (l : Launch) (G : GG) (a1 : Int32) (a2 : Int32) (a3 : Int32) (m : M) {z : Int32 × M} (hz : k_write a1 a2 a3 m = some z) : Ct l G yX11_write cX11_write 4 (some .int) 3 [.ref (G.2.1 0), .int a1, .int a2, .int a3] m (some (.int z.1)) z.2 :=
  ct_of (K := KWi) (by decide) (Nat.le_of_ble_eq_true rfl) (congrArg (fun q => Option.bind q _) hz) (fun x hl hn E => (t_k_write E hn a1 a2 a3 m))
theorem dX11_isOfSort_0 : decode cX11_isOfSort 0 = .ok (.aload_n 0, 1) := by decide +kernel
theorem dX11_isOfSort_1 : decode cX11_isOfSort 1 = .ok (.getfield 38, 3) := by decide +kernel
theorem dX11_isOfSort_4 : decode cX11_isOfSort 4 = .ok (.iload_n 1, 1) := by decide +kernel
theorem dX11_isOfSort_5 : decode cX11_isOfSort 5 = .ok (.iaload, 1) := by decide +kernel
theorem dX11_isOfSort_6 : decode cX11_isOfSort 6 = .ok (.iload_n 2, 1) := by decide +kernel
theorem dX11_isOfSort_7 : decode cX11_isOfSort 7 = .ok (.if_icmp .ne 7, 3) := by decide +kernel
theorem dX11_isOfSort_10 : decode cX11_isOfSort 10 = .ok (.iconst 1, 1) := by decide +kernel
theorem dX11_isOfSort_11 : decode cX11_isOfSort 11 = .ok (.goto 4, 3) := by decide +kernel
theorem dX11_isOfSort_14 : decode cX11_isOfSort 14 = .ok (.iconst 0, 1) := by decide +kernel
theorem dX11_isOfSort_15 : decode cX11_isOfSort 15 = .ok (.ireturn, 1) := by decide +kernel
def k_isOfSort (a1 : Int32) (a2 : Int32) (m : M) : Option (Int32) :=
  Option.bind (rdI m 60 a1) (fun v1 => (if v1 = a2 then some (1 : Int32) else some (0 : Int32)))
set_option maxRecDepth 20000 in
theorem t_k_isOfSort {G : GG} {x : Cx} (E : En G x cX11_isOfSort "WreckBoard" 1 (some .boolean)) (hn : xn x = 3) (a1 : Int32) (a2 : Int32) (m : M) : Sm G x 0 [(0, .ref (G.2.1 0)), (1, .int a1), (2, .int a2)] [] m (k_isOfSort a1 a2 m) (KRi m) := by
  unfold k_isOfSort
  refine s_aload_n 0 E dX11_isOfSort_0 rfl rfl ?_
  refine s_getr (k := 7) (T := TX11) 0 E rfl rfl rfl inX11 (by decide) W367 dX11_isOfSort_1 ?_
  refine s_iload_n 1 E dX11_isOfSort_4 rfl rfl ?_
  refine s_iald E dX11_isOfSort_5 (fun v1 => ?_)
  refine s_iload_n 2 E dX11_isOfSort_6 rfl rfl ?_
  refine s_icmp_ne 14 E dX11_isOfSort_7 (by decide) ?_ ?_
  · refine s_iconst (v := (0 : Int32)) E dX11_isOfSort_14 (by decide) ?_
    exact s_zret E (by decide) rfl dX11_isOfSort_15
  · refine s_iconst (v := (1 : Int32)) E dX11_isOfSort_10 (by decide) ?_
    refine s_goto 15 E dX11_isOfSort_11 (by decide) ?_
    exact s_zret E (by decide) rfl dX11_isOfSort_15
set_option maxRecDepth 20000 in
theorem C_k_isOfSort (l : Launch) (G : GG) (a1 : Int32) (a2 : Int32) (m : M) {z : Int32} (hz : k_isOfSort a1 a2 m = some z) : Ct l G yX11_isOfSort cX11_isOfSort 3 (some .boolean) 1 [.ref (G.2.1 0), .int a1, .int a2] m (some (.int z)) m :=
  ct_of (K := (KRi m)) (by decide) (Nat.le_of_ble_eq_true rfl) (congrArg (fun q => Option.bind q _) hz) (fun x hl hn E => (t_k_isOfSort E hn a1 a2 m))
theorem mdX11_isOfSort : mdq yX11_isOfSort 2 := ⟨by decide, by decide, by decide +kernel⟩
theorem dX11_refusalAs_0 : decode cX11_refusalAs 0 = .ok (.aload_n 0, 1) := by decide +kernel
theorem dX11_refusalAs_1 : decode cX11_refusalAs 1 = .ok (.getfield 38, 3) := by decide +kernel
theorem dX11_refusalAs_4 : decode cX11_refusalAs 4 = .ok (.iload_n 1, 1) := by decide +kernel
theorem dX11_refusalAs_5 : decode cX11_refusalAs 5 = .ok (.iaload, 1) := by decide +kernel
theorem dX11_refusalAs_6 : decode cX11_refusalAs 6 = .ok (.iconst (-1), 1) := by decide +kernel
theorem dX11_refusalAs_7 : decode cX11_refusalAs 7 = .ok (.if_icmp .ne 8, 3) := by decide +kernel
theorem dX11_refusalAs_10 : decode cX11_refusalAs 10 = .ok (.bipush (-11), 2) := by decide +kernel
theorem dX11_refusalAs_12 : decode cX11_refusalAs 12 = .ok (.goto 5, 3) := by decide +kernel
theorem dX11_refusalAs_15 : decode cX11_refusalAs 15 = .ok (.bipush (-13), 2) := by decide +kernel
theorem dX11_refusalAs_17 : decode cX11_refusalAs 17 = .ok (.ireturn, 1) := by decide +kernel
def k_refusalAs (a1 : Int32) (m : M) : Option (Int32) :=
  Option.bind (rdI m 60 a1) (fun v1 => (if v1 = (-1 : Int32) then some (-11 : Int32) else some (-13 : Int32)))
set_option maxRecDepth 20000 in
theorem t_k_refusalAs {G : GG} {x : Cx} (E : En G x cX11_refusalAs "WreckBoard" 1 (some .int)) (hn : xn x = 2) (a1 : Int32) (m : M) : Sm G x 0 [(0, .ref (G.2.1 0)), (1, .int a1)] [] m (k_refusalAs a1 m) (KRi m) := by
  unfold k_refusalAs
  refine s_aload_n 0 E dX11_refusalAs_0 rfl rfl ?_
  refine s_getr (k := 7) (T := TX11) 0 E rfl rfl rfl inX11 (by decide) W367 dX11_refusalAs_1 ?_
  refine s_iload_n 1 E dX11_refusalAs_4 rfl rfl ?_
  refine s_iald E dX11_refusalAs_5 (fun v1 => ?_)
  refine s_iconst (v := (-1 : Int32)) E dX11_refusalAs_6 (by decide) ?_
  refine s_icmp_ne 15 E dX11_refusalAs_7 (by decide) ?_ ?_
  · refine s_bipush (v := (-13 : Int32)) E dX11_refusalAs_15 (by decide) ?_
    exact s_iret E rfl dX11_refusalAs_17
  · refine s_bipush (v := (-11 : Int32)) E dX11_refusalAs_10 (by decide) ?_
    refine s_goto 17 E dX11_refusalAs_12 (by decide) ?_
    exact s_iret E rfl dX11_refusalAs_17
set_option maxRecDepth 20000 in
theorem C_k_refusalAs (l : Launch) (G : GG) (a1 : Int32) (m : M) {z : Int32} (hz : k_refusalAs a1 m = some z) : Ct l G yX11_refusalAs cX11_refusalAs 2 (some .int) 1 [.ref (G.2.1 0), .int a1] m (some (.int z)) m :=
  ct_of (K := (KRi m)) (by decide) (Nat.le_of_ble_eq_true rfl) (congrArg (fun q => Option.bind q _) hz) (fun x hl hn E => (t_k_refusalAs E hn a1 m))
theorem mdX11_refusalAs : mdq yX11_refusalAs 1 := ⟨by decide, by decide, by decide +kernel⟩
theorem dX11_item_0 : decode cX11_item 0 = .ok (.iload_n 1, 1) := by decide +kernel
theorem dX11_item_1 : decode cX11_item 1 = .ok (.iconst 0, 1) := by decide +kernel
theorem dX11_item_2 : decode cX11_item 2 = .ok (.iconst 3, 1) := by decide +kernel
theorem dX11_item_3 : decode cX11_item 3 = .ok (.invokestatic 61, 3) := by decide +kernel
theorem dX11_item_6 : decode cX11_item 6 = .ok (.ifCond .eq 12, 3) := by decide +kernel
theorem dX11_item_9 : decode cX11_item 9 = .ok (.iload_n 2, 1) := by decide +kernel
theorem dX11_item_10 : decode cX11_item 10 = .ok (.iconst 0, 1) := by decide +kernel
theorem dX11_item_11 : decode cX11_item 11 = .ok (.iconst 4, 1) := by decide +kernel
theorem dX11_item_12 : decode cX11_item 12 = .ok (.invokestatic 61, 3) := by decide +kernel
theorem dX11_item_15 : decode cX11_item 15 = .ok (.ifCond .ne 5, 3) := by decide +kernel
theorem dX11_item_18 : decode cX11_item 18 = .ok (.iconst (-1), 1) := by decide +kernel
theorem dX11_item_19 : decode cX11_item 19 = .ok (.ireturn, 1) := by decide +kernel
theorem dX11_item_20 : decode cX11_item 20 = .ok (.aload_n 0, 1) := by decide +kernel
theorem dX11_item_21 : decode cX11_item 21 = .ok (.iload_n 1, 1) := by decide +kernel
theorem dX11_item_22 : decode cX11_item 22 = .ok (.iload_n 2, 1) := by decide +kernel
theorem dX11_item_23 : decode cX11_item 23 = .ok (.invokevirtual 329, 3) := by decide +kernel
theorem dX11_item_26 : decode cX11_item 26 = .ok (.ifCond .ne 9, 3) := by decide +kernel
theorem dX11_item_29 : decode cX11_item 29 = .ok (.aload_n 0, 1) := by decide +kernel
theorem dX11_item_30 : decode cX11_item 30 = .ok (.iload_n 1, 1) := by decide +kernel
theorem dX11_item_31 : decode cX11_item 31 = .ok (.invokevirtual 332, 3) := by decide +kernel
theorem dX11_item_34 : decode cX11_item 34 = .ok (.ireturn, 1) := by decide +kernel
theorem dX11_item_35 : decode cX11_item 35 = .ok (.aload_n 0, 1) := by decide +kernel
theorem dX11_item_36 : decode cX11_item 36 = .ok (.iload_n 1, 1) := by decide +kernel
theorem dX11_item_37 : decode cX11_item 37 = .ok (.iload_n 3, 1) := by decide +kernel
theorem dX11_item_38 : decode cX11_item 38 = .ok (.invokevirtual 323, 3) := by decide +kernel
theorem dX11_item_41 : decode cX11_item 41 = .ok (.ifCond .eq 14, 3) := by decide +kernel
theorem dX11_item_44 : decode cX11_item 44 = .ok (.aload_n 0, 1) := by decide +kernel
theorem dX11_item_45 : decode cX11_item 45 = .ok (.getfield 45, 3) := by decide +kernel
theorem dX11_item_48 : decode cX11_item 48 = .ok (.iload_n 1, 1) := by decide +kernel
theorem dX11_item_49 : decode cX11_item 49 = .ok (.aaload, 1) := by decide +kernel
theorem dX11_item_50 : decode cX11_item 50 = .ok (.iload_n 3, 1) := by decide +kernel
theorem dX11_item_51 : decode cX11_item 51 = .ok (.iaload, 1) := by decide +kernel
theorem dX11_item_52 : decode cX11_item 52 = .ok (.goto 5, 3) := by decide +kernel
theorem dX11_item_55 : decode cX11_item 55 = .ok (.bipush (-12), 2) := by decide +kernel
theorem dX11_item_57 : decode cX11_item 57 = .ok (.ireturn, 1) := by decide +kernel
def k_item (a1 : Int32) (a2 : Int32) (a3 : Int32) (m : M) : Option (Int32) :=
  Option.bind (k_within a1 (0 : Int32) (3 : Int32) m) (fun v1 => (if v1 = 0 then some (-1 : Int32) else Option.bind (k_within a2 (0 : Int32) (4 : Int32) m) (fun v2 => (if v2 = 0 then some (-1 : Int32) else Option.bind (k_isOfSort a1 a2 m) (fun v3 => (if v3 = 0 then Option.bind (k_refusalAs a1 m) (fun v7 => some v7) else Option.bind (k_isPlace a1 a3 m) (fun v4 => (if v4 = 0 then some (-12 : Int32) else Option.bind (rdR 55 a1) (fun p5 => Option.bind (rdI m p5 a3) (fun v6 => some v6))))))))))
set_option maxRecDepth 20000 in
theorem t_k_item {G : GG} {x : Cx} (E : En G x cX11_item "WreckBoard" 3 (some .int)) (hn : xn x = 4) (a1 : Int32) (a2 : Int32) (a3 : Int32) (m : M) : Sm G x 0 [(0, .ref (G.2.1 0)), (1, .int a1), (2, .int a2), (3, .int a3)] [] m (k_item a1 a2 a3 m) (KRi m) := by
  unfold k_item
  refine s_iload_n 1 E dX11_item_0 rfl rfl ?_
  refine s_iconst (v := (0 : Int32)) E dX11_item_1 (by decide) ?_
  refine s_iconst (v := (3 : Int32)) E dX11_item_2 (by decide) ?_
  refine s_bd (fun v1 hz => ?_)
  refine s_cS (rest := []) E (C_k_within (xl x) G a1 (0 : Int32) (3 : Int32) m hz) mdX11_within W404 W405 W91 W406 rfl rfl (Nat.le_of_ble_eq_true rfl) ⟨by decide, by decide⟩ dX11_item_3 ?_
  refine s_if_eq 18 E dX11_item_6 (by decide) ?_ ?_
  · refine s_iconst (v := (-1 : Int32)) E dX11_item_18 (by decide) ?_
    exact s_iret E rfl dX11_item_19
  · refine s_iload_n 2 E dX11_item_9 rfl rfl ?_
    refine s_iconst (v := (0 : Int32)) E dX11_item_10 (by decide) ?_
    refine s_iconst (v := (4 : Int32)) E dX11_item_11 (by decide) ?_
    refine s_bd (fun v2 hz => ?_)
    refine s_cS (rest := []) E (C_k_within (xl x) G a2 (0 : Int32) (4 : Int32) m hz) mdX11_within W404 W405 W91 W406 rfl rfl (Nat.le_of_ble_eq_true rfl) ⟨by decide, by decide⟩ dX11_item_12 ?_
    refine s_if_ne 20 E dX11_item_15 (by decide) ?_ ?_
    · refine s_aload_n 0 E dX11_item_20 rfl rfl ?_
      refine s_iload_n 1 E dX11_item_21 rfl rfl ?_
      refine s_iload_n 2 E dX11_item_22 rfl rfl ?_
      refine s_bd (fun v3 hz => ?_)
      refine s_cV (rest := []) E (C_k_isOfSort (xl x) G a1 a2 m hz) mdX11_isOfSort W1083 W1085 W25 W91 W1086 rfl rfl rfl rfl (Nat.le_of_ble_eq_true rfl) ⟨by decide, by decide⟩ dX11_item_23 ?_
      refine s_if_ne 35 E dX11_item_26 (by decide) ?_ ?_
      · refine s_aload_n 0 E dX11_item_35 rfl rfl ?_
        refine s_iload_n 1 E dX11_item_36 rfl rfl ?_
        refine s_iload_n 3 E dX11_item_37 rfl rfl ?_
        refine s_bd (fun v4 hz => ?_)
        refine s_cV (rest := []) E (C_k_isPlace (xl x) G a1 a3 m hz) mdX11_isPlace W1072 W1074 W24 W91 W1075 rfl rfl rfl rfl (Nat.le_of_ble_eq_true rfl) ⟨by decide, by decide⟩ dX11_item_38 ?_
        refine s_if_eq 55 E dX11_item_41 (by decide) ?_ ?_
        · refine s_bipush (v := (-12 : Int32)) E dX11_item_55 (by decide) ?_
          exact s_iret E rfl dX11_item_57
        · refine s_aload_n 0 E dX11_item_44 rfl rfl ?_
          refine s_getr (k := 9) (T := TX11) 0 E rfl rfl rfl inX11 (by decide) W369 dX11_item_45 ?_
          refine s_iload_n 1 E dX11_item_48 rfl rfl ?_
          refine s_aald E dX11_item_49 (fun p5 => ?_)
          refine s_iload_n 3 E dX11_item_50 rfl rfl ?_
          refine s_iald E dX11_item_51 (fun v6 => ?_)
          refine s_goto 57 E dX11_item_52 (by decide) ?_
          exact s_iret E rfl dX11_item_57
      · refine s_aload_n 0 E dX11_item_29 rfl rfl ?_
        refine s_iload_n 1 E dX11_item_30 rfl rfl ?_
        refine s_bd (fun v7 hz => ?_)
        refine s_cV (rest := []) E (C_k_refusalAs (xl x) G a1 m hz) mdX11_refusalAs W1087 W1089 W26 W91 W1090 rfl rfl rfl rfl (Nat.le_of_ble_eq_true rfl) ⟨by decide, by decide⟩ dX11_item_31 ?_
        exact s_iret E rfl dX11_item_34
    · refine s_iconst (v := (-1 : Int32)) E dX11_item_18 (by decide) ?_
      exact s_iret E rfl dX11_item_19
set_option maxRecDepth 20000 in
theorem C_k_item (l : Launch) (G : GG) (a1 : Int32) (a2 : Int32) (a3 : Int32) (m : M) {z : Int32} (hz : k_item a1 a2 a3 m = some z) : Ct l G yX11_item cX11_item 4 (some .int) 3 [.ref (G.2.1 0), .int a1, .int a2, .int a3] m (some (.int z)) m :=
  ct_of (K := (KRi m)) (by decide) (Nat.le_of_ble_eq_true rfl) (congrArg (fun q => Option.bind q _) hz) (fun x hl hn E => (t_k_item E hn a1 a2 a3 m))
theorem dX11_goAll_0 : decode cX11_goAll 0 = .ok (.iload_n 1, 1) := by decide +kernel
theorem dX11_goAll_1 : decode cX11_goAll 1 = .ok (.iconst 0, 1) := by decide +kernel
theorem dX11_goAll_2 : decode cX11_goAll 2 = .ok (.iconst 3, 1) := by decide +kernel
theorem dX11_goAll_3 : decode cX11_goAll 3 = .ok (.invokestatic 61, 3) := by decide +kernel
theorem dX11_goAll_6 : decode cX11_goAll 6 = .ok (.ifCond .eq 13, 3) := by decide +kernel
theorem dX11_goAll_9 : decode cX11_goAll 9 = .ok (.iload_n 3, 1) := by decide +kernel
theorem dX11_goAll_10 : decode cX11_goAll 10 = .ok (.iconst 0, 1) := by decide +kernel
theorem dX11_goAll_11 : decode cX11_goAll 11 = .ok (.bipush 20, 2) := by decide +kernel
theorem dX11_goAll_13 : decode cX11_goAll 13 = .ok (.invokestatic 61, 3) := by decide +kernel
theorem dX11_goAll_16 : decode cX11_goAll 16 = .ok (.ifCond .ne 5, 3) := by decide +kernel
theorem dX11_goAll_19 : decode cX11_goAll 19 = .ok (.iconst (-1), 1) := by decide +kernel
theorem dX11_goAll_20 : decode cX11_goAll 20 = .ok (.ireturn, 1) := by decide +kernel
theorem dX11_goAll_21 : decode cX11_goAll 21 = .ok (.aload_n 0, 1) := by decide +kernel
theorem dX11_goAll_22 : decode cX11_goAll 22 = .ok (.iload_n 1, 1) := by decide +kernel
theorem dX11_goAll_23 : decode cX11_goAll 23 = .ok (.iconst 0, 1) := by decide +kernel
theorem dX11_goAll_24 : decode cX11_goAll 24 = .ok (.invokevirtual 329, 3) := by decide +kernel
theorem dX11_goAll_27 : decode cX11_goAll 27 = .ok (.ifCond .ne 9, 3) := by decide +kernel
theorem dX11_goAll_30 : decode cX11_goAll 30 = .ok (.aload_n 0, 1) := by decide +kernel
theorem dX11_goAll_31 : decode cX11_goAll 31 = .ok (.iload_n 1, 1) := by decide +kernel
theorem dX11_goAll_32 : decode cX11_goAll 32 = .ok (.invokevirtual 332, 3) := by decide +kernel
theorem dX11_goAll_35 : decode cX11_goAll 35 = .ok (.ireturn, 1) := by decide +kernel
theorem dX11_goAll_36 : decode cX11_goAll 36 = .ok (.iconst 0, 1) := by decide +kernel
theorem dX11_goAll_37 : decode cX11_goAll 37 = .ok (.istore 4, 2) := by decide +kernel
theorem dX11_goAll_39 : decode cX11_goAll 39 = .ok (.iconst 0, 1) := by decide +kernel
theorem dX11_goAll_40 : decode cX11_goAll 40 = .ok (.istore 5, 2) := by decide +kernel
theorem dX11_goAll_42 : decode cX11_goAll 42 = .ok (.iload 5, 2) := by decide +kernel
theorem dX11_goAll_44 : decode cX11_goAll 44 = .ok (.iload_n 3, 1) := by decide +kernel
theorem dX11_goAll_45 : decode cX11_goAll 45 = .ok (.if_icmp .ge 98, 3) := by decide +kernel
theorem dX11_goAll_48 : decode cX11_goAll 48 = .ok (.aload_n 0, 1) := by decide +kernel
theorem dX11_goAll_49 : decode cX11_goAll 49 = .ok (.iload_n 1, 1) := by decide +kernel
theorem dX11_goAll_50 : decode cX11_goAll 50 = .ok (.iload_n 2, 1) := by decide +kernel
theorem dX11_goAll_51 : decode cX11_goAll 51 = .ok (.iload 5, 2) := by decide +kernel
theorem dX11_goAll_53 : decode cX11_goAll 53 = .ok (.iadd, 1) := by decide +kernel
theorem dX11_goAll_54 : decode cX11_goAll 54 = .ok (.invokevirtual 323, 3) := by decide +kernel
theorem dX11_goAll_57 : decode cX11_goAll 57 = .ok (.ifCond .ne 6, 3) := by decide +kernel
theorem dX11_goAll_60 : decode cX11_goAll 60 = .ok (.bipush (-12), 2) := by decide +kernel
theorem dX11_goAll_62 : decode cX11_goAll 62 = .ok (.ireturn, 1) := by decide +kernel
theorem dX11_goAll_63 : decode cX11_goAll 63 = .ok (.aload_n 0, 1) := by decide +kernel
theorem dX11_goAll_64 : decode cX11_goAll 64 = .ok (.getfield 45, 3) := by decide +kernel
theorem dX11_goAll_67 : decode cX11_goAll 67 = .ok (.iload_n 1, 1) := by decide +kernel
theorem dX11_goAll_68 : decode cX11_goAll 68 = .ok (.aaload, 1) := by decide +kernel
theorem dX11_goAll_69 : decode cX11_goAll 69 = .ok (.iload_n 2, 1) := by decide +kernel
theorem dX11_goAll_70 : decode cX11_goAll 70 = .ok (.iload 5, 2) := by decide +kernel
theorem dX11_goAll_72 : decode cX11_goAll 72 = .ok (.iadd, 1) := by decide +kernel
theorem dX11_goAll_73 : decode cX11_goAll 73 = .ok (.iaload, 1) := by decide +kernel
theorem dX11_goAll_74 : decode cX11_goAll 74 = .ok (.istore 6, 2) := by decide +kernel
theorem dX11_goAll_76 : decode cX11_goAll 76 = .ok (.aload_n 0, 1) := by decide +kernel
theorem dX11_goAll_77 : decode cX11_goAll 77 = .ok (.getfield 12, 3) := by decide +kernel
theorem dX11_goAll_80 : decode cX11_goAll 80 = .ok (.iload 6, 2) := by decide +kernel
theorem dX11_goAll_82 : decode cX11_goAll 82 = .ok (.invokevirtual 320, 3) := by decide +kernel
theorem dX11_goAll_85 : decode cX11_goAll 85 = .ok (.ifCond .eq 52, 3) := by decide +kernel
theorem dX11_goAll_88 : decode cX11_goAll 88 = .ok (.aload_n 0, 1) := by decide +kernel
theorem dX11_goAll_89 : decode cX11_goAll 89 = .ok (.getfield 12, 3) := by decide +kernel
theorem dX11_goAll_92 : decode cX11_goAll 92 = .ok (.invokevirtual 148, 3) := by decide +kernel
theorem dX11_goAll_95 : decode cX11_goAll 95 = .ok (.ifCond .ne 42, 3) := by decide +kernel
theorem dX11_goAll_98 : decode cX11_goAll 98 = .ok (.aload_n 0, 1) := by decide +kernel
theorem dX11_goAll_99 : decode cX11_goAll 99 = .ok (.getfield 12, 3) := by decide +kernel
theorem dX11_goAll_102 : decode cX11_goAll 102 = .ok (.iload 6, 2) := by decide +kernel
theorem dX11_goAll_104 : decode cX11_goAll 104 = .ok (.aload_n 0, 1) := by decide +kernel
theorem dX11_goAll_105 : decode cX11_goAll 105 = .ok (.getfield 12, 3) := by decide +kernel
theorem dX11_goAll_108 : decode cX11_goAll 108 = .ok (.invokevirtual 102, 3) := by decide +kernel
theorem dX11_goAll_111 : decode cX11_goAll 111 = .ok (.invokevirtual 254, 3) := by decide +kernel
theorem dX11_goAll_114 : decode cX11_goAll 114 = .ok (.istore 7, 2) := by decide +kernel
theorem dX11_goAll_116 : decode cX11_goAll 116 = .ok (.aload_n 0, 1) := by decide +kernel
theorem dX11_goAll_117 : decode cX11_goAll 117 = .ok (.getfield 12, 3) := by decide +kernel
theorem dX11_goAll_120 : decode cX11_goAll 120 = .ok (.dup, 1) := by decide +kernel
theorem dX11_goAll_121 : decode cX11_goAll 121 = .ok (.getfield 142, 3) := by decide +kernel
theorem dX11_goAll_124 : decode cX11_goAll 124 = .ok (.iload 7, 2) := by decide +kernel
theorem dX11_goAll_126 : decode cX11_goAll 126 = .ok (.iadd, 1) := by decide +kernel
theorem dX11_goAll_127 : decode cX11_goAll 127 = .ok (.putfield 142, 3) := by decide +kernel
theorem dX11_goAll_130 : decode cX11_goAll 130 = .ok (.iload 4, 2) := by decide +kernel
theorem dX11_goAll_132 : decode cX11_goAll 132 = .ok (.iload 7, 2) := by decide +kernel
theorem dX11_goAll_134 : decode cX11_goAll 134 = .ok (.iadd, 1) := by decide +kernel
theorem dX11_goAll_135 : decode cX11_goAll 135 = .ok (.istore 4, 2) := by decide +kernel
theorem dX11_goAll_137 : decode cX11_goAll 137 = .ok (.iinc 5 1, 3) := by decide +kernel
theorem dX11_goAll_140 : decode cX11_goAll 140 = .ok (.goto (-98), 3) := by decide +kernel
theorem dX11_goAll_143 : decode cX11_goAll 143 = .ok (.iload 4, 2) := by decide +kernel
theorem dX11_goAll_145 : decode cX11_goAll 145 = .ok (.ireturn, 1) := by decide +kernel
def k_goAll_137 (a1 : Int32) (a2 : Int32) (a3 : Int32) (a4 : Int32) (a5 : Int32) (m : M) : Option ((Int32 × Int32 × M) ⊕ ((Int32 × M) ⊕ ((M)))) :=
  lt (a5 + (1 : Int32)) (fun w1 : Int32 => some (.inl (a4, w1, m)))
set_option maxRecDepth 20000 in
theorem t_k_goAll_137 {G : GG} {x : Cx} {K : ((Int32 × Int32 × M) ⊕ ((Int32 × M) ⊕ ((M)))) → Option (Option Value × M)} (E : En G x cX11_goAll "WreckBoard" 6 (some .int)) (hn : xn x = 8) (a1 : Int32) (a2 : Int32) (a3 : Int32) (a4 : Int32) (a5 : Int32) (m : M) (hb : ∀ z : Int32 × Int32 × M, Sm G x 42 [(0, .ref (G.2.1 0)), (1, .int a1), (2, .int a2), (3, .int a3), (4, .int z.1), (5, .int z.2.1)] [] z.2.2 (some (.inl z)) K) (hx0 : ∀ z : Int32 × M, Sm G x 143 [(4, .int z.1)] [] z.2 (some (.inr (.inl z))) K) (hx1 : ∀ z : M, Sm G x 60 [] [] z (some (.inr (.inr z))) K) : Sm G x 137 [(0, .ref (G.2.1 0)), (1, .int a1), (2, .int a2), (3, .int a3), (4, .int a4), (5, .int a5)] [] m (k_goAll_137 a1 a2 a3 a4 a5 m) K := by
  unfold k_goAll_137
  refine s_iincL (v := (1 : Int32)) 5 [1, 2, 3, 4, 5, 0] (fun w1 => [(0, .ref (G.2.1 0)), (1, .int a1), (2, .int a2), (3, .int a3), (4, .int a4), (5, .int w1)]) E dX11_goAll_137 rfl (by decide) (by rw [hn]; decide) (fun _ => rfl) (fun w1 => ?_)
  refine s_goto 42 E dX11_goAll_140 (by decide) ?_
  exact hb (a4, w1, m)
def k_goAll_42b (a1 : Int32) (a2 : Int32) (a3 : Int32) (a4 : Int32) (a5 : Int32) (m : M) : Option ((Int32 × Int32 × M) ⊕ ((Int32 × M) ⊕ ((M)))) :=
  (if a3 ≤ a5 then some (.inr (.inl (a4, m))) else Option.bind (k_isPlace a1 (a2 + a5) m) (fun v1 => (if v1 = 0 then some (.inr (.inr m)) else Option.bind (rdR 55 a1) (fun p2 => Option.bind (rdI m p2 (a2 + a5)) (fun v3 => Option.bind (b_isAct v3 m) (fun v4 => (if v4 = 0 then k_goAll_137 a1 a2 a3 a4 a5 m else Option.bind (b_isOver m) (fun v5 => (if v5 = 0 then Option.bind (b_count m) (fun v6 => Option.bind (b_goesBy v3 v6 m) (fun z7 => lt (wrF z7.2 1 4 ((z7.2 1 4) + z7.1)) (fun m8 => lt (a4 + z7.1) (fun w9 : Int32 => k_goAll_137 a1 a2 a3 w9 a5 m8)))) else k_goAll_137 a1 a2 a3 a4 a5 m)))))))))
set_option maxRecDepth 20000 in
theorem t_k_goAll_42b {G : GG} {x : Cx} {K : ((Int32 × Int32 × M) ⊕ ((Int32 × M) ⊕ ((M)))) → Option (Option Value × M)} (E : En G x cX11_goAll "WreckBoard" 6 (some .int)) (hn : xn x = 8) (a1 : Int32) (a2 : Int32) (a3 : Int32) (a4 : Int32) (a5 : Int32) (m : M) (hb : ∀ z : Int32 × Int32 × M, Sm G x 42 [(0, .ref (G.2.1 0)), (1, .int a1), (2, .int a2), (3, .int a3), (4, .int z.1), (5, .int z.2.1)] [] z.2.2 (some (.inl z)) K) (hx0 : ∀ z : Int32 × M, Sm G x 143 [(4, .int z.1)] [] z.2 (some (.inr (.inl z))) K) (hx1 : ∀ z : M, Sm G x 60 [] [] z (some (.inr (.inr z))) K) : Sm G x 42 [(0, .ref (G.2.1 0)), (1, .int a1), (2, .int a2), (3, .int a3), (4, .int a4), (5, .int a5)] [] m (k_goAll_42b a1 a2 a3 a4 a5 m) K := by
  unfold k_goAll_42b
  refine s_iload 5 E dX11_goAll_42 rfl ?_
  refine s_iload_n 3 E dX11_goAll_44 rfl rfl ?_
  refine s_icmp_ge 143 E dX11_goAll_45 (by decide) ?_ ?_
  · refine s_sub (lv' := [(4, .int a4)]) [4] rfl ?_
    exact hx0 (a4, m)
  · refine s_aload_n 0 E dX11_goAll_48 rfl rfl ?_
    refine s_iload_n 1 E dX11_goAll_49 rfl rfl ?_
    refine s_iload_n 2 E dX11_goAll_50 rfl rfl ?_
    refine s_iload 5 E dX11_goAll_51 rfl ?_
    refine s_iadd E dX11_goAll_53 ?_
    refine s_bd (fun v1 hz => ?_)
    refine s_cV (rest := []) E (C_k_isPlace (xl x) G a1 (a2 + a5) m hz) mdX11_isPlace W1072 W1074 W24 W91 W1075 rfl rfl rfl rfl (Nat.le_of_ble_eq_true rfl) ⟨by decide, by decide⟩ dX11_goAll_54 ?_
    refine s_if_ne 63 E dX11_goAll_57 (by decide) ?_ ?_
    · refine s_aload_n 0 E dX11_goAll_63 rfl rfl ?_
      refine s_getr (k := 9) (T := TX11) 0 E rfl rfl rfl inX11 (by decide) W369 dX11_goAll_64 ?_
      refine s_iload_n 1 E dX11_goAll_67 rfl rfl ?_
      refine s_aald E dX11_goAll_68 (fun p2 => ?_)
      refine s_iload_n 2 E dX11_goAll_69 rfl rfl ?_
      refine s_iload 5 E dX11_goAll_70 rfl ?_
      refine s_iadd E dX11_goAll_72 ?_
      refine s_iald E dX11_goAll_73 (fun v3 => ?_)
      refine s_istore (lv' := [(0, .ref (G.2.1 0)), (1, .int a1), (2, .int a2), (3, .int a3), (4, .int a4), (5, .int a5), (6, .int v3)]) [1, 2, 3, 4, 5, 6, 0] E dX11_goAll_74 (by rw [hn]; decide) rfl ?_
      refine s_aload_n 0 E dX11_goAll_76 rfl rfl ?_
      refine s_getr (k := 0) (T := TX11) 0 E rfl rfl rfl inX11 (by decide) W360 dX11_goAll_77 ?_
      refine s_iload 6 E dX11_goAll_80 rfl ?_
      refine s_bd (fun v4 hz => ?_)
      refine s_cV (rest := []) E (C_b_isAct (xl x) G v3 m hz) mdX0_isAct W1060 W1061 W1062 W92 W1063 rfl rfl rfl rfl (Nat.le_of_ble_eq_true rfl) ⟨by decide, by decide⟩ dX11_goAll_82 ?_
      refine s_if_eq 137 E dX11_goAll_85 (by decide) ?_ ?_
      · refine s_sub (lv' := [(0, .ref (G.2.1 0)), (1, .int a1), (2, .int a2), (3, .int a3), (4, .int a4), (5, .int a5)]) [0, 1, 2, 3, 4, 5] rfl ?_
        exact t_k_goAll_137 E hn a1 a2 a3 a4 a5 m hb hx0 hx1
      · refine s_aload_n 0 E dX11_goAll_88 rfl rfl ?_
        refine s_getr (k := 0) (T := TX11) 0 E rfl rfl rfl inX11 (by decide) W360 dX11_goAll_89 ?_
        refine s_bd (fun v5 hz => ?_)
        refine s_cV (rest := []) E (C_b_isOver (xl x) G  m hz) mdX0_isOver W578 W579 W580 W92 W581 rfl rfl rfl rfl (Nat.le_of_ble_eq_true rfl) ⟨by decide, by decide⟩ dX11_goAll_92 ?_
        refine s_if_ne 137 E dX11_goAll_95 (by decide) ?_ ?_
        · refine s_sub (lv' := [(0, .ref (G.2.1 0)), (1, .int a1), (2, .int a2), (3, .int a3), (4, .int a4), (5, .int a5)]) [0, 1, 2, 3, 4, 5] rfl ?_
          exact t_k_goAll_137 E hn a1 a2 a3 a4 a5 m hb hx0 hx1
        · refine s_aload_n 0 E dX11_goAll_98 rfl rfl ?_
          refine s_getr (k := 0) (T := TX11) 0 E rfl rfl rfl inX11 (by decide) W360 dX11_goAll_99 ?_
          refine s_iload 6 E dX11_goAll_102 rfl ?_
          refine s_aload_n 0 E dX11_goAll_104 rfl rfl ?_
          refine s_getr (k := 0) (T := TX11) 0 E rfl rfl rfl inX11 (by decide) W360 dX11_goAll_105 ?_
          refine s_bd (fun v6 hz => ?_)
          refine s_cV (rest := [.int v3, .ref (G.2.1 1)]) E (C_b_count (xl x) G  m hz) mdX0_count W499 W500 W501 W92 W502 rfl rfl rfl rfl (Nat.le_of_ble_eq_true rfl) ⟨by decide, by decide⟩ dX11_goAll_108 ?_
          refine s_bd (fun z7 hz => ?_)
          refine s_cV (rest := []) E (C_b_goesBy (xl x) G v3 v6 m hz) mdX0_goesBy W909 W799 W800 W92 W801 rfl rfl rfl rfl (Nat.le_of_ble_eq_true rfl) ⟨by decide, by decide⟩ dX11_goAll_111 ?_
          refine s_istore (lv' := [(0, .ref (G.2.1 0)), (1, .int a1), (2, .int a2), (3, .int a3), (4, .int a4), (5, .int a5), (7, .int z7.1)]) [1, 2, 3, 4, 5, 6, 0] E dX11_goAll_114 (by rw [hn]; decide) rfl ?_
          refine s_aload_n 0 E dX11_goAll_116 rfl rfl ?_
          refine s_getr (k := 0) (T := TX11) 0 E rfl rfl rfl inX11 (by decide) W360 dX11_goAll_117 ?_
          refine s_dup E dX11_goAll_120 rfl ?_
          refine s_geti (k := 4) (T := TX0) 1 E rfl rfl rfl inX0 (by decide) W232 dX11_goAll_121 ?_
          refine s_iload 6 E dX11_goAll_124 rfl ?_
          refine s_iadd E dX11_goAll_126 ?_
          refine s_put (k := 4) (T := TX0) (ty := .int) 1 E rfl rfl rfl inX0 tyX0 tyX0_ok nmX0 (by decide) W232 rfl (by decide +kernel) rfl rfl dX11_goAll_127 ?_
          refine s_ltm rfl (fun m8 => ?_)
          refine s_iload 4 E dX11_goAll_130 rfl ?_
          refine s_iload 6 E dX11_goAll_132 rfl ?_
          refine s_iadd E dX11_goAll_134 ?_
          refine s_lt (fun w9 => [(0, .ref (G.2.1 0)), (1, .int a1), (2, .int a2), (3, .int a3), (4, .int a4), (5, .int a5), (7, .int z7.1)]) (fun w9 => [.int w9]) rfl rfl (fun w9 => ?_)
          refine s_istore (lv' := [(0, .ref (G.2.1 0)), (1, .int a1), (2, .int a2), (3, .int a3), (4, .int w9), (5, .int a5)]) [1, 2, 3, 4, 0, 5] E dX11_goAll_135 (by rw [hn]; decide) rfl ?_
          exact t_k_goAll_137 E hn a1 a2 a3 w9 a5 m8 hb hx0 hx1
    · refine s_sub (lv' := []) [] rfl ?_
      exact hx1 m
def k_goAll_42 (a1 : Int32) (a2 : Int32) (a3 : Int32) (a4 : Int32) (a5 : Int32) (m : M) : Option (Int32 × M) :=
  Option.bind (iter (fun z => k_goAll_42b a1 a2 a3 z.1 z.2.1 z.2.2) FU (a4, a5, m)) (fun r => (match r with
  | .inl r => some (r.1, r.2)
  | .inr r => some ((-12 : Int32), r)))
set_option maxRecDepth 20000 in
theorem t_k_goAll_42 {G : GG} {x : Cx} (E : En G x cX11_goAll "WreckBoard" 6 (some .int)) (hn : xn x = 8) (a1 : Int32) (a2 : Int32) (a3 : Int32) (a4 : Int32) (a5 : Int32) (m : M) : Sm G x 42 [(0, .ref (G.2.1 0)), (1, .int a1), (2, .int a2), (3, .int a3), (4, .int a4), (5, .int a5)] [] m (k_goAll_42 a1 a2 a3 a4 a5 m) KWi := by
  unfold k_goAll_42
  refine s_loop (fun z => [(0, .ref (G.2.1 0)), (1, .int a1), (2, .int a2), (3, .int a3), (4, .int z.1), (5, .int z.2.1)]) (fun z => z.2.2) (fun K2 hb2 hr2 z => ?_) FU (a4, a5, m)
  refine t_k_goAll_42b (K := K2) E hn a1 a2 a3 z.1 z.2.1 z.2.2 hb2 (fun r => s_out (hr2 (.inl r)) ?_) (fun r => s_out (hr2 (.inr r)) ?_)
  · refine s_iload 0 E dX11_goAll_143 rfl ?_
    exact s_iret E rfl dX11_goAll_145
  · refine s_bipush (v := (-12 : Int32)) E dX11_goAll_60 (by decide) ?_
    exact s_iret E rfl dX11_goAll_62
def k_goAll (a1 : Int32) (a2 : Int32) (a3 : Int32) (m : M) : Option (Int32 × M) :=
  Option.bind (k_within a1 (0 : Int32) (3 : Int32) m) (fun v1 => (if v1 = 0 then some ((-1 : Int32), m) else Option.bind (k_within a3 (0 : Int32) (20 : Int32) m) (fun v2 => (if v2 = 0 then some ((-1 : Int32), m) else Option.bind (k_isOfSort a1 (0 : Int32) m) (fun v3 => (if v3 = 0 then Option.bind (k_refusalAs a1 m) (fun v4 => some (v4, m)) else k_goAll_42 a1 a2 a3 (0 : Int32) (0 : Int32) m))))))
set_option maxRecDepth 20000 in
theorem t_k_goAll {G : GG} {x : Cx} (E : En G x cX11_goAll "WreckBoard" 6 (some .int)) (hn : xn x = 8) (a1 : Int32) (a2 : Int32) (a3 : Int32) (m : M) : Sm G x 0 [(0, .ref (G.2.1 0)), (1, .int a1), (2, .int a2), (3, .int a3)] [] m (k_goAll a1 a2 a3 m) KWi := by
  unfold k_goAll
  refine s_iload_n 1 E dX11_goAll_0 rfl rfl ?_
  refine s_iconst (v := (0 : Int32)) E dX11_goAll_1 (by decide) ?_
  refine s_iconst (v := (3 : Int32)) E dX11_goAll_2 (by decide) ?_
  refine s_bd (fun v1 hz => ?_)
  refine s_cS (rest := []) E (C_k_within (xl x) G a1 (0 : Int32) (3 : Int32) m hz) mdX11_within W404 W405 W91 W406 rfl rfl (Nat.le_of_ble_eq_true rfl) ⟨by decide, by decide⟩ dX11_goAll_3 ?_
  refine s_if_eq 19 E dX11_goAll_6 (by decide) ?_ ?_
  · refine s_iconst (v := (-1 : Int32)) E dX11_goAll_19 (by decide) ?_
    exact s_iret E rfl dX11_goAll_20
  · refine s_iload_n 3 E dX11_goAll_9 rfl rfl ?_
    refine s_iconst (v := (0 : Int32)) E dX11_goAll_10 (by decide) ?_
    refine s_bipush (v := (20 : Int32)) E dX11_goAll_11 (by decide) ?_
    refine s_bd (fun v2 hz => ?_)
    refine s_cS (rest := []) E (C_k_within (xl x) G a3 (0 : Int32) (20 : Int32) m hz) mdX11_within W404 W405 W91 W406 rfl rfl (Nat.le_of_ble_eq_true rfl) ⟨by decide, by decide⟩ dX11_goAll_13 ?_
    refine s_if_ne 21 E dX11_goAll_16 (by decide) ?_ ?_
    · refine s_aload_n 0 E dX11_goAll_21 rfl rfl ?_
      refine s_iload_n 1 E dX11_goAll_22 rfl rfl ?_
      refine s_iconst (v := (0 : Int32)) E dX11_goAll_23 (by decide) ?_
      refine s_bd (fun v3 hz => ?_)
      refine s_cV (rest := []) E (C_k_isOfSort (xl x) G a1 (0 : Int32) m hz) mdX11_isOfSort W1083 W1085 W25 W91 W1086 rfl rfl rfl rfl (Nat.le_of_ble_eq_true rfl) ⟨by decide, by decide⟩ dX11_goAll_24 ?_
      refine s_if_ne 36 E dX11_goAll_27 (by decide) ?_ ?_
      · refine s_iconst (v := (0 : Int32)) E dX11_goAll_36 (by decide) ?_
        refine s_istore (lv' := [(0, .ref (G.2.1 0)), (1, .int a1), (2, .int a2), (3, .int a3), (4, .int (0 : Int32))]) [1, 2, 3, 4, 0] E dX11_goAll_37 (by rw [hn]; decide) rfl ?_
        refine s_iconst (v := (0 : Int32)) E dX11_goAll_39 (by decide) ?_
        refine s_istore (lv' := [(0, .ref (G.2.1 0)), (1, .int a1), (2, .int a2), (3, .int a3), (4, .int (0 : Int32)), (5, .int (0 : Int32))]) [1, 2, 3, 4, 5, 0] E dX11_goAll_40 (by rw [hn]; decide) rfl ?_
        exact t_k_goAll_42 E hn a1 a2 a3 (0 : Int32) (0 : Int32) m
      · refine s_aload_n 0 E dX11_goAll_30 rfl rfl ?_
        refine s_iload_n 1 E dX11_goAll_31 rfl rfl ?_
        refine s_bd (fun v4 hz => ?_)
        refine s_cV (rest := []) E (C_k_refusalAs (xl x) G a1 m hz) mdX11_refusalAs W1087 W1089 W26 W91 W1090 rfl rfl rfl rfl (Nat.le_of_ble_eq_true rfl) ⟨by decide, by decide⟩ dX11_goAll_32 ?_
        exact s_iret E rfl dX11_goAll_35
    · refine s_iconst (v := (-1 : Int32)) E dX11_goAll_19 (by decide) ?_
      exact s_iret E rfl dX11_goAll_20
set_option maxRecDepth 20000 in
theorem C_k_goAll (l : Launch) (G : GG) (a1 : Int32) (a2 : Int32) (a3 : Int32) (m : M) {z : Int32 × M} (hz : k_goAll a1 a2 a3 m = some z) : Ct l G yX11_goAll cX11_goAll 8 (some .int) 6 [.ref (G.2.1 0), .int a1, .int a2, .int a3] m (some (.int z.1)) z.2 :=
  ct_of (K := KWi) (by decide) (Nat.le_of_ble_eq_true rfl) (congrArg (fun q => Option.bind q _) hz) (fun x hl hn E => (t_k_goAll E hn a1 a2 a3 m))
theorem dX11_wouldBe_0 : decode cX11_wouldBe 0 = .ok (.iload_n 1, 1) := by decide +kernel
theorem dX11_wouldBe_1 : decode cX11_wouldBe 1 = .ok (.iconst 0, 1) := by decide +kernel
theorem dX11_wouldBe_2 : decode cX11_wouldBe 2 = .ok (.iconst 3, 1) := by decide +kernel
theorem dX11_wouldBe_3 : decode cX11_wouldBe 3 = .ok (.invokestatic 61, 3) := by decide +kernel
theorem dX11_wouldBe_6 : decode cX11_wouldBe 6 = .ok (.ifCond .eq 13, 3) := by decide +kernel
theorem dX11_wouldBe_9 : decode cX11_wouldBe 9 = .ok (.iload_n 3, 1) := by decide +kernel
theorem dX11_wouldBe_10 : decode cX11_wouldBe 10 = .ok (.iconst 0, 1) := by decide +kernel
theorem dX11_wouldBe_11 : decode cX11_wouldBe 11 = .ok (.bipush 20, 2) := by decide +kernel
theorem dX11_wouldBe_13 : decode cX11_wouldBe 13 = .ok (.invokestatic 61, 3) := by decide +kernel
theorem dX11_wouldBe_16 : decode cX11_wouldBe 16 = .ok (.ifCond .ne 5, 3) := by decide +kernel
theorem dX11_wouldBe_19 : decode cX11_wouldBe 19 = .ok (.iconst (-1), 1) := by decide +kernel
theorem dX11_wouldBe_20 : decode cX11_wouldBe 20 = .ok (.ireturn, 1) := by decide +kernel
theorem dX11_wouldBe_21 : decode cX11_wouldBe 21 = .ok (.aload_n 0, 1) := by decide +kernel
theorem dX11_wouldBe_22 : decode cX11_wouldBe 22 = .ok (.iload_n 1, 1) := by decide +kernel
theorem dX11_wouldBe_23 : decode cX11_wouldBe 23 = .ok (.iconst 0, 1) := by decide +kernel
theorem dX11_wouldBe_24 : decode cX11_wouldBe 24 = .ok (.invokevirtual 329, 3) := by decide +kernel
theorem dX11_wouldBe_27 : decode cX11_wouldBe 27 = .ok (.ifCond .ne 9, 3) := by decide +kernel
theorem dX11_wouldBe_30 : decode cX11_wouldBe 30 = .ok (.aload_n 0, 1) := by decide +kernel
theorem dX11_wouldBe_31 : decode cX11_wouldBe 31 = .ok (.iload_n 1, 1) := by decide +kernel
theorem dX11_wouldBe_32 : decode cX11_wouldBe 32 = .ok (.invokevirtual 332, 3) := by decide +kernel
theorem dX11_wouldBe_35 : decode cX11_wouldBe 35 = .ok (.ireturn, 1) := by decide +kernel
theorem dX11_wouldBe_36 : decode cX11_wouldBe 36 = .ok (.aload_n 0, 1) := by decide +kernel
theorem dX11_wouldBe_37 : decode cX11_wouldBe 37 = .ok (.getfield 12, 3) := by decide +kernel
theorem dX11_wouldBe_40 : decode cX11_wouldBe 40 = .ok (.invokevirtual 178, 3) := by decide +kernel
theorem dX11_wouldBe_43 : decode cX11_wouldBe 43 = .ok (.lstore 4, 2) := by decide +kernel
theorem dX11_wouldBe_45 : decode cX11_wouldBe 45 = .ok (.iconst 0, 1) := by decide +kernel
theorem dX11_wouldBe_46 : decode cX11_wouldBe 46 = .ok (.istore 6, 2) := by decide +kernel
theorem dX11_wouldBe_48 : decode cX11_wouldBe 48 = .ok (.iconst 0, 1) := by decide +kernel
theorem dX11_wouldBe_49 : decode cX11_wouldBe 49 = .ok (.istore 7, 2) := by decide +kernel
theorem dX11_wouldBe_51 : decode cX11_wouldBe 51 = .ok (.iload 7, 2) := by decide +kernel
theorem dX11_wouldBe_53 : decode cX11_wouldBe 53 = .ok (.iload_n 3, 1) := by decide +kernel
theorem dX11_wouldBe_54 : decode cX11_wouldBe 54 = .ok (.if_icmp .ge 101, 3) := by decide +kernel
theorem dX11_wouldBe_57 : decode cX11_wouldBe 57 = .ok (.iload 6, 2) := by decide +kernel
theorem dX11_wouldBe_59 : decode cX11_wouldBe 59 = .ok (.ifCond .lt 96, 3) := by decide +kernel
theorem dX11_wouldBe_62 : decode cX11_wouldBe 62 = .ok (.aload_n 0, 1) := by decide +kernel
theorem dX11_wouldBe_63 : decode cX11_wouldBe 63 = .ok (.iload_n 1, 1) := by decide +kernel
theorem dX11_wouldBe_64 : decode cX11_wouldBe 64 = .ok (.iload_n 2, 1) := by decide +kernel
theorem dX11_wouldBe_65 : decode cX11_wouldBe 65 = .ok (.iload 7, 2) := by decide +kernel
theorem dX11_wouldBe_67 : decode cX11_wouldBe 67 = .ok (.iadd, 1) := by decide +kernel
theorem dX11_wouldBe_68 : decode cX11_wouldBe 68 = .ok (.invokevirtual 323, 3) := by decide +kernel
theorem dX11_wouldBe_71 : decode cX11_wouldBe 71 = .ok (.ifCond .ne 10, 3) := by decide +kernel
theorem dX11_wouldBe_74 : decode cX11_wouldBe 74 = .ok (.bipush (-12), 2) := by decide +kernel
theorem dX11_wouldBe_76 : decode cX11_wouldBe 76 = .ok (.istore 6, 2) := by decide +kernel
theorem dX11_wouldBe_78 : decode cX11_wouldBe 78 = .ok (.goto 71, 3) := by decide +kernel
theorem dX11_wouldBe_81 : decode cX11_wouldBe 81 = .ok (.aload_n 0, 1) := by decide +kernel
theorem dX11_wouldBe_82 : decode cX11_wouldBe 82 = .ok (.getfield 12, 3) := by decide +kernel
theorem dX11_wouldBe_85 : decode cX11_wouldBe 85 = .ok (.aload_n 0, 1) := by decide +kernel
theorem dX11_wouldBe_86 : decode cX11_wouldBe 86 = .ok (.getfield 45, 3) := by decide +kernel
theorem dX11_wouldBe_89 : decode cX11_wouldBe 89 = .ok (.iload_n 1, 1) := by decide +kernel
theorem dX11_wouldBe_90 : decode cX11_wouldBe 90 = .ok (.aaload, 1) := by decide +kernel
theorem dX11_wouldBe_91 : decode cX11_wouldBe 91 = .ok (.iload_n 2, 1) := by decide +kernel
theorem dX11_wouldBe_92 : decode cX11_wouldBe 92 = .ok (.iload 7, 2) := by decide +kernel
theorem dX11_wouldBe_94 : decode cX11_wouldBe 94 = .ok (.iadd, 1) := by decide +kernel
theorem dX11_wouldBe_95 : decode cX11_wouldBe 95 = .ok (.iaload, 1) := by decide +kernel
theorem dX11_wouldBe_96 : decode cX11_wouldBe 96 = .ok (.invokevirtual 320, 3) := by decide +kernel
theorem dX11_wouldBe_99 : decode cX11_wouldBe 99 = .ok (.ifCond .eq 13, 3) := by decide +kernel
theorem dX11_wouldBe_102 : decode cX11_wouldBe 102 = .ok (.aload_n 0, 1) := by decide +kernel
theorem dX11_wouldBe_103 : decode cX11_wouldBe 103 = .ok (.getfield 12, 3) := by decide +kernel
theorem dX11_wouldBe_106 : decode cX11_wouldBe 106 = .ok (.invokevirtual 148, 3) := by decide +kernel
theorem dX11_wouldBe_109 : decode cX11_wouldBe 109 = .ok (.ifCond .eq 10, 3) := by decide +kernel
theorem dX11_wouldBe_112 : decode cX11_wouldBe 112 = .ok (.bipush (-4), 2) := by decide +kernel
theorem dX11_wouldBe_114 : decode cX11_wouldBe 114 = .ok (.istore 6, 2) := by decide +kernel
theorem dX11_wouldBe_116 : decode cX11_wouldBe 116 = .ok (.goto 33, 3) := by decide +kernel
theorem dX11_wouldBe_119 : decode cX11_wouldBe 119 = .ok (.iload 6, 2) := by decide +kernel
theorem dX11_wouldBe_121 : decode cX11_wouldBe 121 = .ok (.aload_n 0, 1) := by decide +kernel
theorem dX11_wouldBe_122 : decode cX11_wouldBe 122 = .ok (.getfield 12, 3) := by decide +kernel
theorem dX11_wouldBe_125 : decode cX11_wouldBe 125 = .ok (.aload_n 0, 1) := by decide +kernel
theorem dX11_wouldBe_126 : decode cX11_wouldBe 126 = .ok (.getfield 45, 3) := by decide +kernel
theorem dX11_wouldBe_129 : decode cX11_wouldBe 129 = .ok (.iload_n 1, 1) := by decide +kernel
theorem dX11_wouldBe_130 : decode cX11_wouldBe 130 = .ok (.aaload, 1) := by decide +kernel
theorem dX11_wouldBe_131 : decode cX11_wouldBe 131 = .ok (.iload_n 2, 1) := by decide +kernel
theorem dX11_wouldBe_132 : decode cX11_wouldBe 132 = .ok (.iload 7, 2) := by decide +kernel
theorem dX11_wouldBe_134 : decode cX11_wouldBe 134 = .ok (.iadd, 1) := by decide +kernel
theorem dX11_wouldBe_135 : decode cX11_wouldBe 135 = .ok (.iaload, 1) := by decide +kernel
theorem dX11_wouldBe_136 : decode cX11_wouldBe 136 = .ok (.aload_n 0, 1) := by decide +kernel
theorem dX11_wouldBe_137 : decode cX11_wouldBe 137 = .ok (.getfield 12, 3) := by decide +kernel
theorem dX11_wouldBe_140 : decode cX11_wouldBe 140 = .ok (.invokevirtual 102, 3) := by decide +kernel
theorem dX11_wouldBe_143 : decode cX11_wouldBe 143 = .ok (.invokevirtual 254, 3) := by decide +kernel
theorem dX11_wouldBe_146 : decode cX11_wouldBe 146 = .ok (.iadd, 1) := by decide +kernel
theorem dX11_wouldBe_147 : decode cX11_wouldBe 147 = .ok (.istore 6, 2) := by decide +kernel
theorem dX11_wouldBe_149 : decode cX11_wouldBe 149 = .ok (.iinc 7 1, 3) := by decide +kernel
theorem dX11_wouldBe_152 : decode cX11_wouldBe 152 = .ok (.goto (-101), 3) := by decide +kernel
theorem dX11_wouldBe_155 : decode cX11_wouldBe 155 = .ok (.aload_n 0, 1) := by decide +kernel
theorem dX11_wouldBe_156 : decode cX11_wouldBe 156 = .ok (.getfield 12, 3) := by decide +kernel
theorem dX11_wouldBe_159 : decode cX11_wouldBe 159 = .ok (.lload 4, 2) := by decide +kernel
theorem dX11_wouldBe_161 : decode cX11_wouldBe 161 = .ok (.invokevirtual 185, 3) := by decide +kernel
theorem dX11_wouldBe_164 : decode cX11_wouldBe 164 = .ok (.iload 6, 2) := by decide +kernel
theorem dX11_wouldBe_166 : decode cX11_wouldBe 166 = .ok (.ireturn, 1) := by decide +kernel
def k_wouldBe_149 (a1 : Int32) (a2 : Int32) (a3 : Int32) (a4 : Int64) (a6 : Int32) (a7 : Int32) (m : M) : Option ((Int32 × Int32 × M) ⊕ ((Int32 × M))) :=
  lt (a7 + (1 : Int32)) (fun w1 : Int32 => some (.inl (a6, w1, m)))
set_option maxRecDepth 20000 in
theorem t_k_wouldBe_149 {G : GG} {x : Cx} {K : ((Int32 × Int32 × M) ⊕ ((Int32 × M))) → Option (Option Value × M)} (E : En G x cX11_wouldBe "WreckBoard" 6 (some .int)) (hn : xn x = 8) (a1 : Int32) (a2 : Int32) (a3 : Int32) (a4 : Int64) (a6 : Int32) (a7 : Int32) (m : M) (hb : ∀ z : Int32 × Int32 × M, Sm G x 51 [(0, .ref (G.2.1 0)), (1, .int a1), (2, .int a2), (3, .int a3), (4, .long a4), (6, .int z.1), (7, .int z.2.1)] [] z.2.2 (some (.inl z)) K) (hx0 : ∀ z : Int32 × M, Sm G x 155 [(0, .ref (G.2.1 0)), (4, .long a4), (6, .int z.1)] [] z.2 (some (.inr z)) K) : Sm G x 149 [(0, .ref (G.2.1 0)), (1, .int a1), (2, .int a2), (3, .int a3), (4, .long a4), (6, .int a6), (7, .int a7)] [] m (k_wouldBe_149 a1 a2 a3 a4 a6 a7 m) K := by
  unfold k_wouldBe_149
  refine s_iincL (v := (1 : Int32)) 6 [1, 2, 3, 4, 5, 6, 0] (fun w1 => [(0, .ref (G.2.1 0)), (1, .int a1), (2, .int a2), (3, .int a3), (4, .long a4), (6, .int a6), (7, .int w1)]) E dX11_wouldBe_149 rfl (by decide) (by rw [hn]; decide) (fun _ => rfl) (fun w1 => ?_)
  refine s_goto 51 E dX11_wouldBe_152 (by decide) ?_
  exact hb (a6, w1, m)
def k_wouldBe_112 (a1 : Int32) (a2 : Int32) (a3 : Int32) (a4 : Int64) (a7 : Int32) (m : M) : Option ((Int32 × Int32 × M) ⊕ ((Int32 × M))) :=
  k_wouldBe_149 a1 a2 a3 a4 (-4 : Int32) a7 m
set_option maxRecDepth 20000 in
theorem t_k_wouldBe_112 {G : GG} {x : Cx} {K : ((Int32 × Int32 × M) ⊕ ((Int32 × M))) → Option (Option Value × M)} (E : En G x cX11_wouldBe "WreckBoard" 6 (some .int)) (hn : xn x = 8) (a1 : Int32) (a2 : Int32) (a3 : Int32) (a4 : Int64) (a7 : Int32) (m : M) (hb : ∀ z : Int32 × Int32 × M, Sm G x 51 [(0, .ref (G.2.1 0)), (1, .int a1), (2, .int a2), (3, .int a3), (4, .long a4), (6, .int z.1), (7, .int z.2.1)] [] z.2.2 (some (.inl z)) K) (hx0 : ∀ z : Int32 × M, Sm G x 155 [(0, .ref (G.2.1 0)), (4, .long a4), (6, .int z.1)] [] z.2 (some (.inr z)) K) : Sm G x 112 [(0, .ref (G.2.1 0)), (1, .int a1), (2, .int a2), (3, .int a3), (4, .long a4), (7, .int a7)] [] m (k_wouldBe_112 a1 a2 a3 a4 a7 m) K := by
  unfold k_wouldBe_112
  refine s_bipush (v := (-4 : Int32)) E dX11_wouldBe_112 (by decide) ?_
  refine s_istore (lv' := [(0, .ref (G.2.1 0)), (1, .int a1), (2, .int a2), (3, .int a3), (4, .long a4), (6, .int (-4 : Int32)), (7, .int a7)]) [1, 2, 3, 4, 5, 0, 6] E dX11_wouldBe_114 (by rw [hn]; decide) rfl ?_
  refine s_goto 149 E dX11_wouldBe_116 (by decide) ?_
  exact t_k_wouldBe_149 E hn a1 a2 a3 a4 (-4 : Int32) a7 m hb hx0
def k_wouldBe_51b (a1 : Int32) (a2 : Int32) (a3 : Int32) (a4 : Int64) (a6 : Int32) (a7 : Int32) (m : M) : Option ((Int32 × Int32 × M) ⊕ ((Int32 × M))) :=
  (if a3 ≤ a7 then some (.inr (a6, m)) else (if a6 < 0 then some (.inr (a6, m)) else Option.bind (k_isPlace a1 (a2 + a7) m) (fun v1 => (if v1 = 0 then k_wouldBe_149 a1 a2 a3 a4 (-12 : Int32) a7 m else Option.bind (rdR 55 a1) (fun p2 => Option.bind (rdI m p2 (a2 + a7)) (fun v3 => Option.bind (b_isAct v3 m) (fun v4 => (if v4 = 0 then k_wouldBe_112 a1 a2 a3 a4 a7 m else Option.bind (b_isOver m) (fun v5 => (if v5 = 0 then Option.bind (rdR 55 a1) (fun p6 => Option.bind (rdI m p6 (a2 + a7)) (fun v7 => Option.bind (b_count m) (fun v8 => Option.bind (b_goesBy v7 v8 m) (fun z9 => lt (a6 + z9.1) (fun w10 : Int32 => k_wouldBe_149 a1 a2 a3 a4 w10 a7 z9.2))))) else k_wouldBe_112 a1 a2 a3 a4 a7 m))))))))))
set_option maxRecDepth 20000 in
theorem t_k_wouldBe_51b {G : GG} {x : Cx} {K : ((Int32 × Int32 × M) ⊕ ((Int32 × M))) → Option (Option Value × M)} (E : En G x cX11_wouldBe "WreckBoard" 6 (some .int)) (hn : xn x = 8) (a1 : Int32) (a2 : Int32) (a3 : Int32) (a4 : Int64) (a6 : Int32) (a7 : Int32) (m : M) (hb : ∀ z : Int32 × Int32 × M, Sm G x 51 [(0, .ref (G.2.1 0)), (1, .int a1), (2, .int a2), (3, .int a3), (4, .long a4), (6, .int z.1), (7, .int z.2.1)] [] z.2.2 (some (.inl z)) K) (hx0 : ∀ z : Int32 × M, Sm G x 155 [(0, .ref (G.2.1 0)), (4, .long a4), (6, .int z.1)] [] z.2 (some (.inr z)) K) : Sm G x 51 [(0, .ref (G.2.1 0)), (1, .int a1), (2, .int a2), (3, .int a3), (4, .long a4), (6, .int a6), (7, .int a7)] [] m (k_wouldBe_51b a1 a2 a3 a4 a6 a7 m) K := by
  unfold k_wouldBe_51b
  refine s_iload 6 E dX11_wouldBe_51 rfl ?_
  refine s_iload_n 3 E dX11_wouldBe_53 rfl rfl ?_
  refine s_icmp_ge 155 E dX11_wouldBe_54 (by decide) ?_ ?_
  · refine s_sub (lv' := [(0, .ref (G.2.1 0)), (4, .long a4), (6, .int a6)]) [0, 4, 5] rfl ?_
    exact hx0 (a6, m)
  · refine s_iload 5 E dX11_wouldBe_57 rfl ?_
    refine s_if_lt 155 E dX11_wouldBe_59 (by decide) ?_ ?_
    · refine s_sub (lv' := [(0, .ref (G.2.1 0)), (4, .long a4), (6, .int a6)]) [0, 4, 5] rfl ?_
      exact hx0 (a6, m)
    · refine s_aload_n 0 E dX11_wouldBe_62 rfl rfl ?_
      refine s_iload_n 1 E dX11_wouldBe_63 rfl rfl ?_
      refine s_iload_n 2 E dX11_wouldBe_64 rfl rfl ?_
      refine s_iload 6 E dX11_wouldBe_65 rfl ?_
      refine s_iadd E dX11_wouldBe_67 ?_
      refine s_bd (fun v1 hz => ?_)
      refine s_cV (rest := []) E (C_k_isPlace (xl x) G a1 (a2 + a7) m hz) mdX11_isPlace W1072 W1074 W24 W91 W1075 rfl rfl rfl rfl (Nat.le_of_ble_eq_true rfl) ⟨by decide, by decide⟩ dX11_wouldBe_68 ?_
      refine s_if_ne 81 E dX11_wouldBe_71 (by decide) ?_ ?_
      · refine s_aload_n 0 E dX11_wouldBe_81 rfl rfl ?_
        refine s_getr (k := 0) (T := TX11) 0 E rfl rfl rfl inX11 (by decide) W360 dX11_wouldBe_82 ?_
        refine s_aload_n 0 E dX11_wouldBe_85 rfl rfl ?_
        refine s_getr (k := 9) (T := TX11) 0 E rfl rfl rfl inX11 (by decide) W369 dX11_wouldBe_86 ?_
        refine s_iload_n 1 E dX11_wouldBe_89 rfl rfl ?_
        refine s_aald E dX11_wouldBe_90 (fun p2 => ?_)
        refine s_iload_n 2 E dX11_wouldBe_91 rfl rfl ?_
        refine s_iload 6 E dX11_wouldBe_92 rfl ?_
        refine s_iadd E dX11_wouldBe_94 ?_
        refine s_iald E dX11_wouldBe_95 (fun v3 => ?_)
        refine s_bd (fun v4 hz => ?_)
        refine s_cV (rest := []) E (C_b_isAct (xl x) G v3 m hz) mdX0_isAct W1060 W1061 W1062 W92 W1063 rfl rfl rfl rfl (Nat.le_of_ble_eq_true rfl) ⟨by decide, by decide⟩ dX11_wouldBe_96 ?_
        refine s_if_eq 112 E dX11_wouldBe_99 (by decide) ?_ ?_
        · refine s_sub (lv' := [(0, .ref (G.2.1 0)), (1, .int a1), (2, .int a2), (3, .int a3), (4, .long a4), (7, .int a7)]) [0, 1, 2, 3, 4, 6] rfl ?_
          exact t_k_wouldBe_112 E hn a1 a2 a3 a4 a7 m hb hx0
        · refine s_aload_n 0 E dX11_wouldBe_102 rfl rfl ?_
          refine s_getr (k := 0) (T := TX11) 0 E rfl rfl rfl inX11 (by decide) W360 dX11_wouldBe_103 ?_
          refine s_bd (fun v5 hz => ?_)
          refine s_cV (rest := []) E (C_b_isOver (xl x) G  m hz) mdX0_isOver W578 W579 W580 W92 W581 rfl rfl rfl rfl (Nat.le_of_ble_eq_true rfl) ⟨by decide, by decide⟩ dX11_wouldBe_106 ?_
          refine s_if_eq 119 E dX11_wouldBe_109 (by decide) ?_ ?_
          · refine s_iload 5 E dX11_wouldBe_119 rfl ?_
            refine s_aload_n 0 E dX11_wouldBe_121 rfl rfl ?_
            refine s_getr (k := 0) (T := TX11) 0 E rfl rfl rfl inX11 (by decide) W360 dX11_wouldBe_122 ?_
            refine s_aload_n 0 E dX11_wouldBe_125 rfl rfl ?_
            refine s_getr (k := 9) (T := TX11) 0 E rfl rfl rfl inX11 (by decide) W369 dX11_wouldBe_126 ?_
            refine s_iload_n 1 E dX11_wouldBe_129 rfl rfl ?_
            refine s_aald E dX11_wouldBe_130 (fun p6 => ?_)
            refine s_iload_n 2 E dX11_wouldBe_131 rfl rfl ?_
            refine s_iload 6 E dX11_wouldBe_132 rfl ?_
            refine s_iadd E dX11_wouldBe_134 ?_
            refine s_iald E dX11_wouldBe_135 (fun v7 => ?_)
            refine s_aload_n 0 E dX11_wouldBe_136 rfl rfl ?_
            refine s_getr (k := 0) (T := TX11) 0 E rfl rfl rfl inX11 (by decide) W360 dX11_wouldBe_137 ?_
            refine s_bd (fun v8 hz => ?_)
            refine s_cV (rest := [.int v7, .ref (G.2.1 1), .int a6]) E (C_b_count (xl x) G  m hz) mdX0_count W499 W500 W501 W92 W502 rfl rfl rfl rfl (Nat.le_of_ble_eq_true rfl) ⟨by decide, by decide⟩ dX11_wouldBe_140 ?_
            refine s_bd (fun z9 hz => ?_)
            refine s_cV (rest := [.int a6]) E (C_b_goesBy (xl x) G v7 v8 m hz) mdX0_goesBy W909 W799 W800 W92 W801 rfl rfl rfl rfl (Nat.le_of_ble_eq_true rfl) ⟨by decide, by decide⟩ dX11_wouldBe_143 ?_
            refine s_iadd E dX11_wouldBe_146 ?_
            refine s_lt (fun w10 => [(0, .ref (G.2.1 0)), (1, .int a1), (2, .int a2), (3, .int a3), (4, .long a4), (6, .int a6), (7, .int a7)]) (fun w10 => [.int w10]) rfl rfl (fun w10 => ?_)
            refine s_istore (lv' := [(0, .ref (G.2.1 0)), (1, .int a1), (2, .int a2), (3, .int a3), (4, .long a4), (6, .int w10), (7, .int a7)]) [1, 2, 3, 4, 5, 0, 6] E dX11_wouldBe_147 (by rw [hn]; decide) rfl ?_
            exact t_k_wouldBe_149 E hn a1 a2 a3 a4 w10 a7 z9.2 hb hx0
          · refine s_sub (lv' := [(0, .ref (G.2.1 0)), (1, .int a1), (2, .int a2), (3, .int a3), (4, .long a4), (7, .int a7)]) [0, 1, 2, 3, 4, 6] rfl ?_
            exact t_k_wouldBe_112 E hn a1 a2 a3 a4 a7 m hb hx0
      · refine s_bipush (v := (-12 : Int32)) E dX11_wouldBe_74 (by decide) ?_
        refine s_istore (lv' := [(0, .ref (G.2.1 0)), (1, .int a1), (2, .int a2), (3, .int a3), (4, .long a4), (6, .int (-12 : Int32)), (7, .int a7)]) [1, 2, 3, 4, 5, 0, 6] E dX11_wouldBe_76 (by rw [hn]; decide) rfl ?_
        refine s_goto 149 E dX11_wouldBe_78 (by decide) ?_
        exact t_k_wouldBe_149 E hn a1 a2 a3 a4 (-12 : Int32) a7 m hb hx0
def k_wouldBe_155 (a4 : Int64) (a6 : Int32) (m : M) : Option (Int32 × M) :=
  Option.bind (b_goBackTo a4 m) (fun m1 => some (a6, m1))
set_option maxRecDepth 20000 in
theorem t_k_wouldBe_155 {G : GG} {x : Cx} (E : En G x cX11_wouldBe "WreckBoard" 6 (some .int)) (hn : xn x = 8) (a4 : Int64) (a6 : Int32) (m : M) : Sm G x 155 [(0, .ref (G.2.1 0)), (4, .long a4), (6, .int a6)] [] m (k_wouldBe_155 a4 a6 m) KWi := by
  unfold k_wouldBe_155
  refine s_aload_n 0 E dX11_wouldBe_155 rfl rfl ?_
  refine s_getr (k := 0) (T := TX11) 0 E rfl rfl rfl inX11 (by decide) W360 dX11_wouldBe_156 ?_
  refine s_lload 1 E dX11_wouldBe_159 rfl ?_
  refine s_bd (fun m1 hz => ?_)
  refine s_cV (rest := []) E (C_b_goBackTo (xl x) G a4 m hz) mdX0_goBackTo W835 W836 W837 W92 W838 rfl rfl rfl rfl (Nat.le_of_ble_eq_true rfl) ⟨by decide, by decide⟩ dX11_wouldBe_161 ?_
  refine s_iload 2 E dX11_wouldBe_164 rfl ?_
  exact s_iret E rfl dX11_wouldBe_166
def k_wouldBe_51 (a1 : Int32) (a2 : Int32) (a3 : Int32) (a4 : Int64) (a6 : Int32) (a7 : Int32) (m : M) : Option (Int32 × M) :=
  Option.bind (iter (fun z => k_wouldBe_51b a1 a2 a3 a4 z.1 z.2.1 z.2.2) FU (a6, a7, m)) (fun r => k_wouldBe_155 a4 r.1 r.2)
set_option maxRecDepth 20000 in
theorem t_k_wouldBe_51 {G : GG} {x : Cx} (E : En G x cX11_wouldBe "WreckBoard" 6 (some .int)) (hn : xn x = 8) (a1 : Int32) (a2 : Int32) (a3 : Int32) (a4 : Int64) (a6 : Int32) (a7 : Int32) (m : M) : Sm G x 51 [(0, .ref (G.2.1 0)), (1, .int a1), (2, .int a2), (3, .int a3), (4, .long a4), (6, .int a6), (7, .int a7)] [] m (k_wouldBe_51 a1 a2 a3 a4 a6 a7 m) KWi := by
  unfold k_wouldBe_51
  refine s_loop (fun z => [(0, .ref (G.2.1 0)), (1, .int a1), (2, .int a2), (3, .int a3), (4, .long a4), (6, .int z.1), (7, .int z.2.1)]) (fun z => z.2.2) (fun K2 hb2 hr2 z => ?_) FU (a6, a7, m)
  refine t_k_wouldBe_51b (K := K2) E hn a1 a2 a3 a4 z.1 z.2.1 z.2.2 hb2 (fun r => s_out (hr2 r) ?_)
  · exact t_k_wouldBe_155 E hn a4 r.1 r.2
def k_wouldBe (a1 : Int32) (a2 : Int32) (a3 : Int32) (m : M) : Option (Int32 × M) :=
  Option.bind (k_within a1 (0 : Int32) (3 : Int32) m) (fun v1 => (if v1 = 0 then some ((-1 : Int32), m) else Option.bind (k_within a3 (0 : Int32) (20 : Int32) m) (fun v2 => (if v2 = 0 then some ((-1 : Int32), m) else Option.bind (k_isOfSort a1 (0 : Int32) m) (fun v3 => (if v3 = 0 then Option.bind (k_refusalAs a1 m) (fun v5 => some (v5, m)) else Option.bind (b_moment m) (fun v4 => k_wouldBe_51 a1 a2 a3 v4 (0 : Int32) (0 : Int32) m)))))))
set_option maxRecDepth 20000 in
theorem t_k_wouldBe {G : GG} {x : Cx} (E : En G x cX11_wouldBe "WreckBoard" 6 (some .int)) (hn : xn x = 8) (a1 : Int32) (a2 : Int32) (a3 : Int32) (m : M) : Sm G x 0 [(0, .ref (G.2.1 0)), (1, .int a1), (2, .int a2), (3, .int a3)] [] m (k_wouldBe a1 a2 a3 m) KWi := by
  unfold k_wouldBe
  refine s_iload_n 1 E dX11_wouldBe_0 rfl rfl ?_
  refine s_iconst (v := (0 : Int32)) E dX11_wouldBe_1 (by decide) ?_
  refine s_iconst (v := (3 : Int32)) E dX11_wouldBe_2 (by decide) ?_
  refine s_bd (fun v1 hz => ?_)
  refine s_cS (rest := []) E (C_k_within (xl x) G a1 (0 : Int32) (3 : Int32) m hz) mdX11_within W404 W405 W91 W406 rfl rfl (Nat.le_of_ble_eq_true rfl) ⟨by decide, by decide⟩ dX11_wouldBe_3 ?_
  refine s_if_eq 19 E dX11_wouldBe_6 (by decide) ?_ ?_
  · refine s_iconst (v := (-1 : Int32)) E dX11_wouldBe_19 (by decide) ?_
    exact s_iret E rfl dX11_wouldBe_20
  · refine s_iload_n 3 E dX11_wouldBe_9 rfl rfl ?_
    refine s_iconst (v := (0 : Int32)) E dX11_wouldBe_10 (by decide) ?_
    refine s_bipush (v := (20 : Int32)) E dX11_wouldBe_11 (by decide) ?_
    refine s_bd (fun v2 hz => ?_)
    refine s_cS (rest := []) E (C_k_within (xl x) G a3 (0 : Int32) (20 : Int32) m hz) mdX11_within W404 W405 W91 W406 rfl rfl (Nat.le_of_ble_eq_true rfl) ⟨by decide, by decide⟩ dX11_wouldBe_13 ?_
    refine s_if_ne 21 E dX11_wouldBe_16 (by decide) ?_ ?_
    · refine s_aload_n 0 E dX11_wouldBe_21 rfl rfl ?_
      refine s_iload_n 1 E dX11_wouldBe_22 rfl rfl ?_
      refine s_iconst (v := (0 : Int32)) E dX11_wouldBe_23 (by decide) ?_
      refine s_bd (fun v3 hz => ?_)
      refine s_cV (rest := []) E (C_k_isOfSort (xl x) G a1 (0 : Int32) m hz) mdX11_isOfSort W1083 W1085 W25 W91 W1086 rfl rfl rfl rfl (Nat.le_of_ble_eq_true rfl) ⟨by decide, by decide⟩ dX11_wouldBe_24 ?_
      refine s_if_ne 36 E dX11_wouldBe_27 (by decide) ?_ ?_
      · refine s_aload_n 0 E dX11_wouldBe_36 rfl rfl ?_
        refine s_getr (k := 0) (T := TX11) 0 E rfl rfl rfl inX11 (by decide) W360 dX11_wouldBe_37 ?_
        refine s_bd (fun v4 hz => ?_)
        refine s_cV (rest := []) E (C_b_moment (xl x) G  m hz) mdX0_moment W822 W823 W824 W92 W825 rfl rfl rfl rfl (Nat.le_of_ble_eq_true rfl) ⟨by decide, by decide⟩ dX11_wouldBe_40 ?_
        refine s_lstore (lv' := [(0, .ref (G.2.1 0)), (1, .int a1), (2, .int a2), (3, .int a3), (4, .long v4)]) [1, 2, 3, 4, 0] E dX11_wouldBe_43 (by rw [hn]; decide) rfl ?_
        refine s_iconst (v := (0 : Int32)) E dX11_wouldBe_45 (by decide) ?_
        refine s_istore (lv' := [(0, .ref (G.2.1 0)), (1, .int a1), (2, .int a2), (3, .int a3), (4, .long v4), (6, .int (0 : Int32))]) [1, 2, 3, 4, 5, 0] E dX11_wouldBe_46 (by rw [hn]; decide) rfl ?_
        refine s_iconst (v := (0 : Int32)) E dX11_wouldBe_48 (by decide) ?_
        refine s_istore (lv' := [(0, .ref (G.2.1 0)), (1, .int a1), (2, .int a2), (3, .int a3), (4, .long v4), (6, .int (0 : Int32)), (7, .int (0 : Int32))]) [1, 2, 3, 4, 5, 6, 0] E dX11_wouldBe_49 (by rw [hn]; decide) rfl ?_
        exact t_k_wouldBe_51 E hn a1 a2 a3 v4 (0 : Int32) (0 : Int32) m
      · refine s_aload_n 0 E dX11_wouldBe_30 rfl rfl ?_
        refine s_iload_n 1 E dX11_wouldBe_31 rfl rfl ?_
        refine s_bd (fun v5 hz => ?_)
        refine s_cV (rest := []) E (C_k_refusalAs (xl x) G a1 m hz) mdX11_refusalAs W1087 W1089 W26 W91 W1090 rfl rfl rfl rfl (Nat.le_of_ble_eq_true rfl) ⟨by decide, by decide⟩ dX11_wouldBe_32 ?_
        exact s_iret E rfl dX11_wouldBe_35
    · refine s_iconst (v := (-1 : Int32)) E dX11_wouldBe_19 (by decide) ?_
      exact s_iret E rfl dX11_wouldBe_20
set_option maxRecDepth 20000 in
theorem C_k_wouldBe (l : Launch) (G : GG) (a1 : Int32) (a2 : Int32) (a3 : Int32) (m : M) {z : Int32 × M} (hz : k_wouldBe a1 a2 a3 m = some z) : Ct l G yX11_wouldBe cX11_wouldBe 8 (some .int) 6 [.ref (G.2.1 0), .int a1, .int a2, .int a3] m (some (.int z.1)) z.2 :=
  ct_of (K := KWi) (by decide) (Nat.le_of_ble_eq_true rfl) (congrArg (fun q => Option.bind q _) hz) (fun x hl hn E => (t_k_wouldBe E hn a1 a2 a3 m))
theorem dX11_putOn_0 : decode cX11_putOn 0 = .ok (.aload_n 0, 1) := by decide +kernel
theorem dX11_putOn_1 : decode cX11_putOn 1 = .ok (.getfield 48, 3) := by decide +kernel
theorem dX11_putOn_4 : decode cX11_putOn 4 = .ok (.iload_n 1, 1) := by decide +kernel
theorem dX11_putOn_5 : decode cX11_putOn 5 = .ok (.iload_n 2, 1) := by decide +kernel
theorem dX11_putOn_6 : decode cX11_putOn 6 = .ok (.iastore, 1) := by decide +kernel
theorem dX11_putOn_7 : decode cX11_putOn 7 = .ok (.aload_n 0, 1) := by decide +kernel
theorem dX11_putOn_8 : decode cX11_putOn 8 = .ok (.getfield 51, 3) := by decide +kernel
theorem dX11_putOn_11 : decode cX11_putOn 11 = .ok (.iload_n 1, 1) := by decide +kernel
theorem dX11_putOn_12 : decode cX11_putOn 12 = .ok (.iload_n 3, 1) := by decide +kernel
theorem dX11_putOn_13 : decode cX11_putOn 13 = .ok (.iastore, 1) := by decide +kernel
theorem dX11_putOn_14 : decode cX11_putOn 14 = .ok (.iconst 1, 1) := by decide +kernel
theorem dX11_putOn_15 : decode cX11_putOn 15 = .ok (.ireturn, 1) := by decide +kernel
def k_putOn (a1 : Int32) (a2 : Int32) (a3 : Int32) (m : M) : Option (Int32 × M) :=
  Option.bind (wrI m 62 a1 a2) (fun m1 => Option.bind (wrI m1 63 a1 a3) (fun m2 => some ((1 : Int32), m2)))
set_option maxRecDepth 20000 in
theorem t_k_putOn {G : GG} {x : Cx} (E : En G x cX11_putOn "WreckBoard" 1 (some .int)) (hn : xn x = 4) (a1 : Int32) (a2 : Int32) (a3 : Int32) (m : M) : Sm G x 0 [(0, .ref (G.2.1 0)), (1, .int a1), (2, .int a2), (3, .int a3)] [] m (k_putOn a1 a2 a3 m) KWi := by
  unfold k_putOn
  refine s_aload_n 0 E dX11_putOn_0 rfl rfl ?_
  refine s_getr (k := 10) (T := TX11) 0 E rfl rfl rfl inX11 (by decide) W370 dX11_putOn_1 ?_
  refine s_iload_n 1 E dX11_putOn_4 rfl rfl ?_
  refine s_iload_n 2 E dX11_putOn_5 rfl rfl ?_
  refine s_iast E dX11_putOn_6 (fun m1 => ?_)
  refine s_aload_n 0 E dX11_putOn_7 rfl rfl ?_
  refine s_getr (k := 11) (T := TX11) 0 E rfl rfl rfl inX11 (by decide) W371 dX11_putOn_8 ?_
  refine s_iload_n 1 E dX11_putOn_11 rfl rfl ?_
  refine s_iload_n 3 E dX11_putOn_12 rfl rfl ?_
  refine s_iast E dX11_putOn_13 (fun m2 => ?_)
  refine s_iconst (v := (1 : Int32)) E dX11_putOn_14 (by decide) ?_
  exact s_iret E rfl dX11_putOn_15
set_option maxRecDepth 20000 in
theorem C_k_putOn (l : Launch) (G : GG) (a1 : Int32) (a2 : Int32) (a3 : Int32) (m : M) {z : Int32 × M} (hz : k_putOn a1 a2 a3 m = some z) : Ct l G yX11_putOn cX11_putOn 4 (some .int) 1 [.ref (G.2.1 0), .int a1, .int a2, .int a3] m (some (.int z.1)) z.2 :=
  ct_of (K := KWi) (by decide) (Nat.le_of_ble_eq_true rfl) (congrArg (fun q => Option.bind q _) hz) (fun x hl hn E => (t_k_putOn E hn a1 a2 a3 m))
theorem mdX11_putOn : mdq yX11_putOn 3 := ⟨by decide, by decide, by decide +kernel⟩
theorem dX11_shelf_0 : decode cX11_shelf 0 = .ok (.iload_n 1, 1) := by decide +kernel
theorem dX11_shelf_1 : decode cX11_shelf 1 = .ok (.iconst 0, 1) := by decide +kernel
theorem dX11_shelf_2 : decode cX11_shelf 2 = .ok (.iconst 3, 1) := by decide +kernel
theorem dX11_shelf_3 : decode cX11_shelf 3 = .ok (.invokestatic 61, 3) := by decide +kernel
theorem dX11_shelf_6 : decode cX11_shelf 6 = .ok (.ifCond .ne 5, 3) := by decide +kernel
theorem dX11_shelf_9 : decode cX11_shelf 9 = .ok (.iconst (-1), 1) := by decide +kernel
theorem dX11_shelf_10 : decode cX11_shelf 10 = .ok (.ireturn, 1) := by decide +kernel
theorem dX11_shelf_11 : decode cX11_shelf 11 = .ok (.iload_n 2, 1) := by decide +kernel
theorem dX11_shelf_12 : decode cX11_shelf 12 = .ok (.tableswitch 90 0 2 #[28, 51, 82], 28) := by decide +kernel
theorem dX11_shelf_40 : decode cX11_shelf 40 = .ok (.aload_n 0, 1) := by decide +kernel
theorem dX11_shelf_41 : decode cX11_shelf 41 = .ok (.getfield 12, 3) := by decide +kernel
theorem dX11_shelf_44 : decode cX11_shelf 44 = .ok (.iload_n 3, 1) := by decide +kernel
theorem dX11_shelf_45 : decode cX11_shelf 45 = .ok (.invokevirtual 73, 3) := by decide +kernel
theorem dX11_shelf_48 : decode cX11_shelf 48 = .ok (.ifCond .eq 13, 3) := by decide +kernel
theorem dX11_shelf_51 : decode cX11_shelf 51 = .ok (.aload_n 0, 1) := by decide +kernel
theorem dX11_shelf_52 : decode cX11_shelf 52 = .ok (.iload_n 1, 1) := by decide +kernel
theorem dX11_shelf_53 : decode cX11_shelf 53 = .ok (.iconst 5, 1) := by decide +kernel
theorem dX11_shelf_54 : decode cX11_shelf 54 = .ok (.iload_n 3, 1) := by decide +kernel
theorem dX11_shelf_55 : decode cX11_shelf 55 = .ok (.invokevirtual 335, 3) := by decide +kernel
theorem dX11_shelf_58 : decode cX11_shelf 58 = .ok (.goto 4, 3) := by decide +kernel
theorem dX11_shelf_61 : decode cX11_shelf 61 = .ok (.iconst (-1), 1) := by decide +kernel
theorem dX11_shelf_62 : decode cX11_shelf 62 = .ok (.ireturn, 1) := by decide +kernel
theorem dX11_shelf_63 : decode cX11_shelf 63 = .ok (.iload_n 3, 1) := by decide +kernel
theorem dX11_shelf_64 : decode cX11_shelf 64 = .ok (.iconst 0, 1) := by decide +kernel
theorem dX11_shelf_65 : decode cX11_shelf 65 = .ok (.iconst 3, 1) := by decide +kernel
theorem dX11_shelf_66 : decode cX11_shelf 66 = .ok (.invokestatic 61, 3) := by decide +kernel
theorem dX11_shelf_69 : decode cX11_shelf 69 = .ok (.ifCond .eq 23, 3) := by decide +kernel
theorem dX11_shelf_72 : decode cX11_shelf 72 = .ok (.aload_n 0, 1) := by decide +kernel
theorem dX11_shelf_73 : decode cX11_shelf 73 = .ok (.iload_n 1, 1) := by decide +kernel
theorem dX11_shelf_74 : decode cX11_shelf 74 = .ok (.aload_n 0, 1) := by decide +kernel
theorem dX11_shelf_75 : decode cX11_shelf 75 = .ok (.getfield 38, 3) := by decide +kernel
theorem dX11_shelf_78 : decode cX11_shelf 78 = .ok (.iload_n 3, 1) := by decide +kernel
theorem dX11_shelf_79 : decode cX11_shelf 79 = .ok (.iaload, 1) := by decide +kernel
theorem dX11_shelf_80 : decode cX11_shelf 80 = .ok (.aload_n 0, 1) := by decide +kernel
theorem dX11_shelf_81 : decode cX11_shelf 81 = .ok (.getfield 42, 3) := by decide +kernel
theorem dX11_shelf_84 : decode cX11_shelf 84 = .ok (.iload_n 3, 1) := by decide +kernel
theorem dX11_shelf_85 : decode cX11_shelf 85 = .ok (.iaload, 1) := by decide +kernel
theorem dX11_shelf_86 : decode cX11_shelf 86 = .ok (.invokevirtual 335, 3) := by decide +kernel
theorem dX11_shelf_89 : decode cX11_shelf 89 = .ok (.goto 4, 3) := by decide +kernel
theorem dX11_shelf_92 : decode cX11_shelf 92 = .ok (.iconst (-1), 1) := by decide +kernel
theorem dX11_shelf_93 : decode cX11_shelf 93 = .ok (.ireturn, 1) := by decide +kernel
theorem dX11_shelf_94 : decode cX11_shelf 94 = .ok (.aload_n 0, 1) := by decide +kernel
theorem dX11_shelf_95 : decode cX11_shelf 95 = .ok (.iload_n 1, 1) := by decide +kernel
theorem dX11_shelf_96 : decode cX11_shelf 96 = .ok (.iconst (-1), 1) := by decide +kernel
theorem dX11_shelf_97 : decode cX11_shelf 97 = .ok (.iconst 0, 1) := by decide +kernel
theorem dX11_shelf_98 : decode cX11_shelf 98 = .ok (.invokevirtual 335, 3) := by decide +kernel
theorem dX11_shelf_101 : decode cX11_shelf 101 = .ok (.ireturn, 1) := by decide +kernel
theorem dX11_shelf_102 : decode cX11_shelf 102 = .ok (.iconst (-1), 1) := by decide +kernel
theorem dX11_shelf_103 : decode cX11_shelf 103 = .ok (.ireturn, 1) := by decide +kernel
def k_shelf (a1 : Int32) (a2 : Int32) (a3 : Int32) (m : M) : Option (Int32 × M) :=
  Option.bind (k_within a1 (0 : Int32) (3 : Int32) m) (fun v1 => (if v1 = 0 then some ((-1 : Int32), m) else (if a2 = (0 : Int32) then Option.bind (b_isMember a3 m) (fun v2 => (if v2 = 0 then some ((-1 : Int32), m) else Option.bind (k_putOn a1 (5 : Int32) a3 m) (fun z3 => some (z3.1, z3.2)))) else (if a2 = (1 : Int32) then Option.bind (k_within a3 (0 : Int32) (3 : Int32) m) (fun v4 => (if v4 = 0 then some ((-1 : Int32), m) else Option.bind (rdI m 60 a3) (fun v5 => Option.bind (rdI m 61 a3) (fun v6 => Option.bind (k_putOn a1 v5 v6 m) (fun z7 => some (z7.1, z7.2)))))) else (if a2 = (2 : Int32) then Option.bind (k_putOn a1 (-1 : Int32) (0 : Int32) m) (fun z8 => some (z8.1, z8.2)) else some ((-1 : Int32), m))))))
set_option maxRecDepth 20000 in
theorem t_k_shelf {G : GG} {x : Cx} (E : En G x cX11_shelf "WreckBoard" 3 (some .int)) (hn : xn x = 4) (a1 : Int32) (a2 : Int32) (a3 : Int32) (m : M) : Sm G x 0 [(0, .ref (G.2.1 0)), (1, .int a1), (2, .int a2), (3, .int a3)] [] m (k_shelf a1 a2 a3 m) KWi := by
  unfold k_shelf
  refine s_iload_n 1 E dX11_shelf_0 rfl rfl ?_
  refine s_iconst (v := (0 : Int32)) E dX11_shelf_1 (by decide) ?_
  refine s_iconst (v := (3 : Int32)) E dX11_shelf_2 (by decide) ?_
  refine s_bd (fun v1 hz => ?_)
  refine s_cS (rest := []) E (C_k_within (xl x) G a1 (0 : Int32) (3 : Int32) m hz) mdX11_within W404 W405 W91 W406 rfl rfl (Nat.le_of_ble_eq_true rfl) ⟨by decide, by decide⟩ dX11_shelf_3 ?_
  refine s_if_ne 11 E dX11_shelf_6 (by decide) ?_ ?_
  · refine s_iload_n 2 E dX11_shelf_11 rfl rfl ?_
    refine s_case (fun h12_0 => ?_) (fun h12_0 => ?_)
    · refine s_tabIn 40 E dX11_shelf_12 h12_0 (by decide) (by decide) rfl (by decide) ?_
      refine s_aload_n 0 E dX11_shelf_40 rfl rfl ?_
      refine s_getr (k := 0) (T := TX11) 0 E rfl rfl rfl inX11 (by decide) W360 dX11_shelf_41 ?_
      refine s_iload_n 3 E dX11_shelf_44 rfl rfl ?_
      refine s_bd (fun v2 hz => ?_)
      refine s_cV (rest := []) E (C_b_isMember (xl x) G a3 m hz) mdX0_isMember W415 W416 W417 W92 W418 rfl rfl rfl rfl (Nat.le_of_ble_eq_true rfl) ⟨by decide, by decide⟩ dX11_shelf_45 ?_
      refine s_if_eq 61 E dX11_shelf_48 (by decide) ?_ ?_
      · refine s_iconst (v := (-1 : Int32)) E dX11_shelf_61 (by decide) ?_
        exact s_iret E rfl dX11_shelf_62
      · refine s_aload_n 0 E dX11_shelf_51 rfl rfl ?_
        refine s_iload_n 1 E dX11_shelf_52 rfl rfl ?_
        refine s_iconst (v := (5 : Int32)) E dX11_shelf_53 (by decide) ?_
        refine s_iload_n 3 E dX11_shelf_54 rfl rfl ?_
        refine s_bd (fun z3 hz => ?_)
        refine s_cV (rest := []) E (C_k_putOn (xl x) G a1 (5 : Int32) a3 m hz) mdX11_putOn W1103 W1105 W27 W91 W1106 rfl rfl rfl rfl (Nat.le_of_ble_eq_true rfl) ⟨by decide, by decide⟩ dX11_shelf_55 ?_
        refine s_goto 62 E dX11_shelf_58 (by decide) ?_
        exact s_iret E rfl dX11_shelf_62
    · refine s_case (fun h12_1 => ?_) (fun h12_1 => ?_)
      · refine s_tabIn 63 E dX11_shelf_12 h12_1 (by decide) (by decide) rfl (by decide) ?_
        refine s_iload_n 3 E dX11_shelf_63 rfl rfl ?_
        refine s_iconst (v := (0 : Int32)) E dX11_shelf_64 (by decide) ?_
        refine s_iconst (v := (3 : Int32)) E dX11_shelf_65 (by decide) ?_
        refine s_bd (fun v4 hz => ?_)
        refine s_cS (rest := []) E (C_k_within (xl x) G a3 (0 : Int32) (3 : Int32) m hz) mdX11_within W404 W405 W91 W406 rfl rfl (Nat.le_of_ble_eq_true rfl) ⟨by decide, by decide⟩ dX11_shelf_66 ?_
        refine s_if_eq 92 E dX11_shelf_69 (by decide) ?_ ?_
        · refine s_iconst (v := (-1 : Int32)) E dX11_shelf_92 (by decide) ?_
          exact s_iret E rfl dX11_shelf_93
        · refine s_aload_n 0 E dX11_shelf_72 rfl rfl ?_
          refine s_iload_n 1 E dX11_shelf_73 rfl rfl ?_
          refine s_aload_n 0 E dX11_shelf_74 rfl rfl ?_
          refine s_getr (k := 7) (T := TX11) 0 E rfl rfl rfl inX11 (by decide) W367 dX11_shelf_75 ?_
          refine s_iload_n 3 E dX11_shelf_78 rfl rfl ?_
          refine s_iald E dX11_shelf_79 (fun v5 => ?_)
          refine s_aload_n 0 E dX11_shelf_80 rfl rfl ?_
          refine s_getr (k := 8) (T := TX11) 0 E rfl rfl rfl inX11 (by decide) W368 dX11_shelf_81 ?_
          refine s_iload_n 3 E dX11_shelf_84 rfl rfl ?_
          refine s_iald E dX11_shelf_85 (fun v6 => ?_)
          refine s_bd (fun z7 hz => ?_)
          refine s_cV (rest := []) E (C_k_putOn (xl x) G a1 v5 v6 m hz) mdX11_putOn W1103 W1105 W27 W91 W1106 rfl rfl rfl rfl (Nat.le_of_ble_eq_true rfl) ⟨by decide, by decide⟩ dX11_shelf_86 ?_
          refine s_goto 93 E dX11_shelf_89 (by decide) ?_
          exact s_iret E rfl dX11_shelf_93
      · refine s_case (fun h12_2 => ?_) (fun h12_2 => ?_)
        · refine s_tabIn 94 E dX11_shelf_12 h12_2 (by decide) (by decide) rfl (by decide) ?_
          refine s_aload_n 0 E dX11_shelf_94 rfl rfl ?_
          refine s_iload_n 1 E dX11_shelf_95 rfl rfl ?_
          refine s_iconst (v := (-1 : Int32)) E dX11_shelf_96 (by decide) ?_
          refine s_iconst (v := (0 : Int32)) E dX11_shelf_97 (by decide) ?_
          refine s_bd (fun z8 hz => ?_)
          refine s_cV (rest := []) E (C_k_putOn (xl x) G a1 (-1 : Int32) (0 : Int32) m hz) mdX11_putOn W1103 W1105 W27 W91 W1106 rfl rfl rfl rfl (Nat.le_of_ble_eq_true rfl) ⟨by decide, by decide⟩ dX11_shelf_98 ?_
          exact s_iret E rfl dX11_shelf_101
        · refine s_tabOut 102 E dX11_shelf_12 (by have e0 := ne_toIntK h12_0 (k := 0) (by decide); have e1 := ne_toIntK h12_1 (k := 1) (by decide); have e2 := ne_toIntK h12_2 (k := 2) (by decide); omega) (by decide) ?_
          refine s_iconst (v := (-1 : Int32)) E dX11_shelf_102 (by decide) ?_
          exact s_iret E rfl dX11_shelf_103
  · refine s_iconst (v := (-1 : Int32)) E dX11_shelf_9 (by decide) ?_
    exact s_iret E rfl dX11_shelf_10
set_option maxRecDepth 20000 in
theorem C_k_shelf (l : Launch) (G : GG) (a1 : Int32) (a2 : Int32) (a3 : Int32) (m : M) {z : Int32 × M} (hz : k_shelf a1 a2 a3 m = some z) : Ct l G yX11_shelf cX11_shelf 4 (some .int) 3 [.ref (G.2.1 0), .int a1, .int a2, .int a3] m (some (.int z.1)) z.2 :=
  ct_of (K := KWi) (by decide) (Nat.le_of_ble_eq_true rfl) (congrArg (fun q => Option.bind q _) hz) (fun x hl hn E => (t_k_shelf E hn a1 a2 a3 m))
theorem dX11_taken_0 : decode cX11_taken 0 = .ok (.iload_n 2, 1) := by decide +kernel
theorem dX11_taken_1 : decode cX11_taken 1 = .ok (.iconst 0, 1) := by decide +kernel
theorem dX11_taken_2 : decode cX11_taken 2 = .ok (.iconst 5, 1) := by decide +kernel
theorem dX11_taken_3 : decode cX11_taken 3 = .ok (.invokestatic 61, 3) := by decide +kernel
theorem dX11_taken_6 : decode cX11_taken 6 = .ok (.istore_n 3, 1) := by decide +kernel
theorem dX11_taken_7 : decode cX11_taken 7 = .ok (.iload_n 1, 1) := by decide +kernel
theorem dX11_taken_8 : decode cX11_taken 8 = .ok (.iconst 0, 1) := by decide +kernel
theorem dX11_taken_9 : decode cX11_taken 9 = .ok (.iconst 3, 1) := by decide +kernel
theorem dX11_taken_10 : decode cX11_taken 10 = .ok (.invokestatic 61, 3) := by decide +kernel
theorem dX11_taken_13 : decode cX11_taken 13 = .ok (.ifCond .eq 18, 3) := by decide +kernel
theorem dX11_taken_16 : decode cX11_taken 16 = .ok (.iload_n 3, 1) := by decide +kernel
theorem dX11_taken_17 : decode cX11_taken 17 = .ok (.ifCond .ne 16, 3) := by decide +kernel
theorem dX11_taken_20 : decode cX11_taken 20 = .ok (.iload_n 2, 1) := by decide +kernel
theorem dX11_taken_21 : decode cX11_taken 21 = .ok (.bipush 10, 2) := by decide +kernel
theorem dX11_taken_23 : decode cX11_taken 23 = .ok (.bipush 14, 2) := by decide +kernel
theorem dX11_taken_25 : decode cX11_taken 25 = .ok (.invokestatic 61, 3) := by decide +kernel
theorem dX11_taken_28 : decode cX11_taken 28 = .ok (.ifCond .ne 5, 3) := by decide +kernel
theorem dX11_taken_31 : decode cX11_taken 31 = .ok (.iconst (-1), 1) := by decide +kernel
theorem dX11_taken_32 : decode cX11_taken 32 = .ok (.ireturn, 1) := by decide +kernel
theorem dX11_taken_33 : decode cX11_taken 33 = .ok (.aload_n 0, 1) := by decide +kernel
theorem dX11_taken_34 : decode cX11_taken 34 = .ok (.getfield 48, 3) := by decide +kernel
theorem dX11_taken_37 : decode cX11_taken 37 = .ok (.iload_n 1, 1) := by decide +kernel
theorem dX11_taken_38 : decode cX11_taken 38 = .ok (.iaload, 1) := by decide +kernel
theorem dX11_taken_39 : decode cX11_taken 39 = .ok (.istore 4, 2) := by decide +kernel
theorem dX11_taken_41 : decode cX11_taken 41 = .ok (.aload_n 0, 1) := by decide +kernel
theorem dX11_taken_42 : decode cX11_taken 42 = .ok (.getfield 51, 3) := by decide +kernel
theorem dX11_taken_45 : decode cX11_taken 45 = .ok (.iload_n 1, 1) := by decide +kernel
theorem dX11_taken_46 : decode cX11_taken 46 = .ok (.iaload, 1) := by decide +kernel
theorem dX11_taken_47 : decode cX11_taken 47 = .ok (.istore 5, 2) := by decide +kernel
theorem dX11_taken_49 : decode cX11_taken 49 = .ok (.iload 4, 2) := by decide +kernel
theorem dX11_taken_51 : decode cX11_taken 51 = .ok (.iconst (-1), 1) := by decide +kernel
theorem dX11_taken_52 : decode cX11_taken 52 = .ok (.if_icmp .eq 21, 3) := by decide +kernel
theorem dX11_taken_55 : decode cX11_taken 55 = .ok (.iload 4, 2) := by decide +kernel
theorem dX11_taken_57 : decode cX11_taken 57 = .ok (.iconst 5, 1) := by decide +kernel
theorem dX11_taken_58 : decode cX11_taken 58 = .ok (.if_icmp .ne 18, 3) := by decide +kernel
theorem dX11_taken_61 : decode cX11_taken 61 = .ok (.aload_n 0, 1) := by decide +kernel
theorem dX11_taken_62 : decode cX11_taken 62 = .ok (.getfield 12, 3) := by decide +kernel
theorem dX11_taken_65 : decode cX11_taken 65 = .ok (.iload 5, 2) := by decide +kernel
theorem dX11_taken_67 : decode cX11_taken 67 = .ok (.invokevirtual 73, 3) := by decide +kernel
theorem dX11_taken_70 : decode cX11_taken 70 = .ok (.ifCond .ne 6, 3) := by decide +kernel
theorem dX11_taken_73 : decode cX11_taken 73 = .ok (.bipush (-11), 2) := by decide +kernel
theorem dX11_taken_75 : decode cX11_taken 75 = .ok (.ireturn, 1) := by decide +kernel
theorem dX11_taken_76 : decode cX11_taken 76 = .ok (.iload 4, 2) := by decide +kernel
theorem dX11_taken_78 : decode cX11_taken 78 = .ok (.iconst 5, 1) := by decide +kernel
theorem dX11_taken_79 : decode cX11_taken 79 = .ok (.if_icmp .ne 32, 3) := by decide +kernel
theorem dX11_taken_82 : decode cX11_taken 82 = .ok (.iload_n 3, 1) := by decide +kernel
theorem dX11_taken_83 : decode cX11_taken 83 = .ok (.ifCond .eq 25, 3) := by decide +kernel
theorem dX11_taken_86 : decode cX11_taken 86 = .ok (.aload_n 0, 1) := by decide +kernel
theorem dX11_taken_87 : decode cX11_taken 87 = .ok (.getfield 12, 3) := by decide +kernel
theorem dX11_taken_90 : decode cX11_taken 90 = .ok (.getfield 77, 3) := by decide +kernel
theorem dX11_taken_93 : decode cX11_taken 93 = .ok (.iload 5, 2) := by decide +kernel
theorem dX11_taken_95 : decode cX11_taken 95 = .ok (.iaload, 1) := by decide +kernel
theorem dX11_taken_96 : decode cX11_taken 96 = .ok (.iload_n 2, 1) := by decide +kernel
theorem dX11_taken_97 : decode cX11_taken 97 = .ok (.invokestatic 339, 3) := by decide +kernel
theorem dX11_taken_100 : decode cX11_taken 100 = .ok (.ifCond .eq 8, 3) := by decide +kernel
theorem dX11_taken_103 : decode cX11_taken 103 = .ok (.iload 5, 2) := by decide +kernel
theorem dX11_taken_105 : decode cX11_taken 105 = .ok (.goto 5, 3) := by decide +kernel
theorem dX11_taken_108 : decode cX11_taken 108 = .ok (.bipush (-13), 2) := by decide +kernel
theorem dX11_taken_110 : decode cX11_taken 110 = .ok (.ireturn, 1) := by decide +kernel
theorem dX11_taken_111 : decode cX11_taken 111 = .ok (.iload_n 2, 1) := by decide +kernel
theorem dX11_taken_112 : decode cX11_taken 112 = .ok (.bipush 10, 2) := by decide +kernel
theorem dX11_taken_114 : decode cX11_taken 114 = .ok (.iload 4, 2) := by decide +kernel
theorem dX11_taken_116 : decode cX11_taken 116 = .ok (.iadd, 1) := by decide +kernel
theorem dX11_taken_117 : decode cX11_taken 117 = .ok (.if_icmp .ne 8, 3) := by decide +kernel
theorem dX11_taken_120 : decode cX11_taken 120 = .ok (.iload 5, 2) := by decide +kernel
theorem dX11_taken_122 : decode cX11_taken 122 = .ok (.goto 5, 3) := by decide +kernel
theorem dX11_taken_125 : decode cX11_taken 125 = .ok (.bipush (-13), 2) := by decide +kernel
theorem dX11_taken_127 : decode cX11_taken 127 = .ok (.ireturn, 1) := by decide +kernel
def k_taken_76 (a2 : Int32) (a3 : Int32) (a4 : Int32) (a5 : Int32) (m : M) : Option (Int32) :=
  (if a4 = (5 : Int32) then (if a3 = 0 then some (-13 : Int32) else Option.bind (rdI m 10 a5) (fun v1 => Option.bind (k_isKindOrUnder v1 a2 m) (fun v2 => (if v2 = 0 then some (-13 : Int32) else some a5)))) else (if a2 = ((10 : Int32) + a4) then some a5 else some (-13 : Int32)))
set_option maxRecDepth 20000 in
theorem t_k_taken_76 {G : GG} {x : Cx} (E : En G x cX11_taken "WreckBoard" 3 (some .int)) (hn : xn x = 6) (a2 : Int32) (a3 : Int32) (a4 : Int32) (a5 : Int32) (m : M) : Sm G x 76 [(0, .ref (G.2.1 0)), (2, .int a2), (3, .int a3), (4, .int a4), (5, .int a5)] [] m (k_taken_76 a2 a3 a4 a5 m) (KRi m) := by
  unfold k_taken_76
  refine s_iload 3 E dX11_taken_76 rfl ?_
  refine s_iconst (v := (5 : Int32)) E dX11_taken_78 (by decide) ?_
  refine s_icmp_ne 111 E dX11_taken_79 (by decide) ?_ ?_
  · refine s_iload_n 1 E dX11_taken_111 rfl rfl ?_
    refine s_bipush (v := (10 : Int32)) E dX11_taken_112 (by decide) ?_
    refine s_iload 3 E dX11_taken_114 rfl ?_
    refine s_iadd E dX11_taken_116 ?_
    refine s_icmp_ne 125 E dX11_taken_117 (by decide) ?_ ?_
    · refine s_bipush (v := (-13 : Int32)) E dX11_taken_125 (by decide) ?_
      exact s_iret E rfl dX11_taken_127
    · refine s_iload 4 E dX11_taken_120 rfl ?_
      refine s_goto 127 E dX11_taken_122 (by decide) ?_
      exact s_iret E rfl dX11_taken_127
  · refine s_iload_n 2 E dX11_taken_82 rfl rfl ?_
    refine s_if_eq 108 E dX11_taken_83 (by decide) ?_ ?_
    · refine s_bipush (v := (-13 : Int32)) E dX11_taken_108 (by decide) ?_
      exact s_iret E rfl dX11_taken_110
    · refine s_aload_n 0 E dX11_taken_86 rfl rfl ?_
      refine s_getr (k := 0) (T := TX11) 0 E rfl rfl rfl inX11 (by decide) W360 dX11_taken_87 ?_
      refine s_getr (k := 9) (T := TX0) 1 E rfl rfl rfl inX0 (by decide) W243 dX11_taken_90 ?_
      refine s_iload 4 E dX11_taken_93 rfl ?_
      refine s_iald E dX11_taken_95 (fun v1 => ?_)
      refine s_iload_n 1 E dX11_taken_96 rfl rfl ?_
      refine s_bd (fun v2 hz => ?_)
      refine s_cS (rest := []) E (C_k_isKindOrUnder (xl x) G v1 a2 m hz) mdX11_isKindOrUnder W1111 W516 W91 W517 rfl rfl (Nat.le_of_ble_eq_true rfl) ⟨by decide, by decide⟩ dX11_taken_97 ?_
      refine s_if_eq 108 E dX11_taken_100 (by decide) ?_ ?_
      · refine s_bipush (v := (-13 : Int32)) E dX11_taken_108 (by decide) ?_
        exact s_iret E rfl dX11_taken_110
      · refine s_iload 4 E dX11_taken_103 rfl ?_
        refine s_goto 110 E dX11_taken_105 (by decide) ?_
        exact s_iret E rfl dX11_taken_110
def k_taken_33 (a1 : Int32) (a2 : Int32) (a3 : Int32) (m : M) : Option (Int32) :=
  Option.bind (rdI m 62 a1) (fun v1 => Option.bind (rdI m 63 a1) (fun v2 => (if v1 = (-1 : Int32) then some (-11 : Int32) else (if v1 = (5 : Int32) then Option.bind (b_isMember v2 m) (fun v3 => (if v3 = 0 then some (-11 : Int32) else k_taken_76 a2 a3 v1 v2 m)) else k_taken_76 a2 a3 v1 v2 m))))
set_option maxRecDepth 20000 in
theorem t_k_taken_33 {G : GG} {x : Cx} (E : En G x cX11_taken "WreckBoard" 3 (some .int)) (hn : xn x = 6) (a1 : Int32) (a2 : Int32) (a3 : Int32) (m : M) : Sm G x 33 [(0, .ref (G.2.1 0)), (1, .int a1), (2, .int a2), (3, .int a3)] [] m (k_taken_33 a1 a2 a3 m) (KRi m) := by
  unfold k_taken_33
  refine s_aload_n 0 E dX11_taken_33 rfl rfl ?_
  refine s_getr (k := 10) (T := TX11) 0 E rfl rfl rfl inX11 (by decide) W370 dX11_taken_34 ?_
  refine s_iload_n 1 E dX11_taken_37 rfl rfl ?_
  refine s_iald E dX11_taken_38 (fun v1 => ?_)
  refine s_istore (lv' := [(0, .ref (G.2.1 0)), (1, .int a1), (2, .int a2), (3, .int a3), (4, .int v1)]) [1, 2, 3, 4, 0] E dX11_taken_39 (by rw [hn]; decide) rfl ?_
  refine s_aload_n 0 E dX11_taken_41 rfl rfl ?_
  refine s_getr (k := 11) (T := TX11) 0 E rfl rfl rfl inX11 (by decide) W371 dX11_taken_42 ?_
  refine s_iload_n 1 E dX11_taken_45 rfl rfl ?_
  refine s_iald E dX11_taken_46 (fun v2 => ?_)
  refine s_istore (lv' := [(0, .ref (G.2.1 0)), (2, .int a2), (3, .int a3), (4, .int v1), (5, .int v2)]) [1, 3, 4, 5, 0] E dX11_taken_47 (by rw [hn]; decide) rfl ?_
  refine s_iload 3 E dX11_taken_49 rfl ?_
  refine s_iconst (v := (-1 : Int32)) E dX11_taken_51 (by decide) ?_
  refine s_icmp_eq 73 E dX11_taken_52 (by decide) ?_ ?_
  · refine s_bipush (v := (-11 : Int32)) E dX11_taken_73 (by decide) ?_
    exact s_iret E rfl dX11_taken_75
  · refine s_iload 3 E dX11_taken_55 rfl ?_
    refine s_iconst (v := (5 : Int32)) E dX11_taken_57 (by decide) ?_
    refine s_icmp_ne 76 E dX11_taken_58 (by decide) ?_ ?_
    · exact t_k_taken_76 E hn a2 a3 v1 v2 m
    · refine s_aload_n 0 E dX11_taken_61 rfl rfl ?_
      refine s_getr (k := 0) (T := TX11) 0 E rfl rfl rfl inX11 (by decide) W360 dX11_taken_62 ?_
      refine s_iload 4 E dX11_taken_65 rfl ?_
      refine s_bd (fun v3 hz => ?_)
      refine s_cV (rest := []) E (C_b_isMember (xl x) G v2 m hz) mdX0_isMember W415 W416 W417 W92 W418 rfl rfl rfl rfl (Nat.le_of_ble_eq_true rfl) ⟨by decide, by decide⟩ dX11_taken_67 ?_
      refine s_if_ne 76 E dX11_taken_70 (by decide) ?_ ?_
      · exact t_k_taken_76 E hn a2 a3 v1 v2 m
      · refine s_bipush (v := (-11 : Int32)) E dX11_taken_73 (by decide) ?_
        exact s_iret E rfl dX11_taken_75
def k_taken (a1 : Int32) (a2 : Int32) (m : M) : Option (Int32) :=
  Option.bind (k_within a2 (0 : Int32) (5 : Int32) m) (fun v1 => Option.bind (k_within a1 (0 : Int32) (3 : Int32) m) (fun v2 => (if v2 = 0 then some (-1 : Int32) else (if v1 = 0 then Option.bind (k_within a2 (10 : Int32) (14 : Int32) m) (fun v3 => (if v3 = 0 then some (-1 : Int32) else k_taken_33 a1 a2 v1 m)) else k_taken_33 a1 a2 v1 m))))
set_option maxRecDepth 20000 in
theorem t_k_taken {G : GG} {x : Cx} (E : En G x cX11_taken "WreckBoard" 3 (some .int)) (hn : xn x = 6) (a1 : Int32) (a2 : Int32) (m : M) : Sm G x 0 [(0, .ref (G.2.1 0)), (1, .int a1), (2, .int a2)] [] m (k_taken a1 a2 m) (KRi m) := by
  unfold k_taken
  refine s_iload_n 2 E dX11_taken_0 rfl rfl ?_
  refine s_iconst (v := (0 : Int32)) E dX11_taken_1 (by decide) ?_
  refine s_iconst (v := (5 : Int32)) E dX11_taken_2 (by decide) ?_
  refine s_bd (fun v1 hz => ?_)
  refine s_cS (rest := []) E (C_k_within (xl x) G a2 (0 : Int32) (5 : Int32) m hz) mdX11_within W404 W405 W91 W406 rfl rfl (Nat.le_of_ble_eq_true rfl) ⟨by decide, by decide⟩ dX11_taken_3 ?_
  refine s_istore_n (lv' := [(0, .ref (G.2.1 0)), (1, .int a1), (2, .int a2), (3, .int v1)]) [1, 2, 3, 0] E dX11_taken_6 rfl (by rw [hn]; decide) rfl ?_
  refine s_iload_n 1 E dX11_taken_7 rfl rfl ?_
  refine s_iconst (v := (0 : Int32)) E dX11_taken_8 (by decide) ?_
  refine s_iconst (v := (3 : Int32)) E dX11_taken_9 (by decide) ?_
  refine s_bd (fun v2 hz => ?_)
  refine s_cS (rest := []) E (C_k_within (xl x) G a1 (0 : Int32) (3 : Int32) m hz) mdX11_within W404 W405 W91 W406 rfl rfl (Nat.le_of_ble_eq_true rfl) ⟨by decide, by decide⟩ dX11_taken_10 ?_
  refine s_if_eq 31 E dX11_taken_13 (by decide) ?_ ?_
  · refine s_iconst (v := (-1 : Int32)) E dX11_taken_31 (by decide) ?_
    exact s_iret E rfl dX11_taken_32
  · refine s_iload_n 3 E dX11_taken_16 rfl rfl ?_
    refine s_if_ne 33 E dX11_taken_17 (by decide) ?_ ?_
    · exact t_k_taken_33 E hn a1 a2 v1 m
    · refine s_iload_n 2 E dX11_taken_20 rfl rfl ?_
      refine s_bipush (v := (10 : Int32)) E dX11_taken_21 (by decide) ?_
      refine s_bipush (v := (14 : Int32)) E dX11_taken_23 (by decide) ?_
      refine s_bd (fun v3 hz => ?_)
      refine s_cS (rest := []) E (C_k_within (xl x) G a2 (10 : Int32) (14 : Int32) m hz) mdX11_within W404 W405 W91 W406 rfl rfl (Nat.le_of_ble_eq_true rfl) ⟨by decide, by decide⟩ dX11_taken_25 ?_
      refine s_if_ne 33 E dX11_taken_28 (by decide) ?_ ?_
      · exact t_k_taken_33 E hn a1 a2 v1 m
      · refine s_iconst (v := (-1 : Int32)) E dX11_taken_31 (by decide) ?_
        exact s_iret E rfl dX11_taken_32
set_option maxRecDepth 20000 in
theorem C_k_taken (l : Launch) (G : GG) (a1 : Int32) (a2 : Int32) (m : M) {z : Int32} (hz : k_taken a1 a2 m = some z) : Ct l G yX11_taken cX11_taken 6 (some .int) 3 [.ref (G.2.1 0), .int a1, .int a2] m (some (.int z)) m :=
  ct_of (K := (KRi m)) (by decide) (Nat.le_of_ble_eq_true rfl) (congrArg (fun q => Option.bind q _) hz) (fun x hl hn E => (t_k_taken E hn a1 a2 m))
theorem dX2_clear_0 : decode cX2_clear 0 = .ok (.aload_n 0, 1) := by decide +kernel
theorem dX2_clear_1 : decode cX2_clear 1 = .ok (.iconst 0, 1) := by decide +kernel
theorem dX2_clear_2 : decode cX2_clear 2 = .ok (.putfield 13, 3) := by decide +kernel
theorem dX2_clear_5 : decode cX2_clear 5 = .ok (.aload_n 0, 1) := by decide +kernel
theorem dX2_clear_6 : decode cX2_clear 6 = .ok (.iconst 0, 1) := by decide +kernel
theorem dX2_clear_7 : decode cX2_clear 7 = .ok (.putfield 17, 3) := by decide +kernel
theorem dX2_clear_10 : decode cX2_clear 10 = .ok (.return_, 1) := by decide +kernel
def d_clear  (m : M) : Option (M) :=
  lt (wrF m 9 2 (0 : Int32)) (fun m1 => lt (wrF m1 9 4 (0 : Int32)) (fun m2 => some m2))
set_option maxRecDepth 20000 in
theorem t_d_clear {G : GG} {x : Cx} (E : En G x cX2_clear "WreckBoard$Deed" 1 none) (hn : xn x = 1)  (m : M) : Sm G x 0 [(0, .ref (G.2.1 9))] [] m (d_clear m) KWv := by
  unfold d_clear
  refine s_aload_n 0 E dX2_clear_0 rfl rfl ?_
  refine s_iconst (v := (0 : Int32)) E dX2_clear_1 (by decide) ?_
  refine s_put (k := 2) (T := TX2) (ty := .boolean) 9 E rfl rfl rfl inX2 tyX2 tyX2_ok nmX2 (by decide) W342 rfl (by decide +kernel) (by decide) (by decide) dX2_clear_2 ?_
  refine s_ltm rfl (fun m1 => ?_)
  refine s_aload_n 0 E dX2_clear_5 rfl rfl ?_
  refine s_iconst (v := (0 : Int32)) E dX2_clear_6 (by decide) ?_
  refine s_put (k := 4) (T := TX2) (ty := .int) 9 E rfl rfl rfl inX2 tyX2 tyX2_ok nmX2 (by decide) W347 rfl (by decide +kernel) rfl rfl dX2_clear_7 ?_
  refine s_ltm rfl (fun m2 => ?_)
  exact s_vret E rfl dX2_clear_10
set_option maxRecDepth 20000 in
theorem C_d_clear (l : Launch) (G : GG)  (m : M) {z : M} (hz : d_clear m = some z) : Ct l G yX2_clear cX2_clear 1 none 1 [.ref (G.2.1 9)] m none z :=
  ct_of (K := KWv) (by decide) (Nat.le_of_ble_eq_true rfl) (congrArg (fun q => Option.bind q _) hz) (fun x hl hn E => (t_d_clear E hn  m))
theorem mdX2_clear : mdq yX2_clear 0 := ⟨by decide, by decide, by decide +kernel⟩
theorem dX2_begins_0 : decode cX2_begins 0 = .ok (.aload_n 0, 1) := by decide +kernel
theorem dX2_begins_1 : decode cX2_begins 1 = .ok (.getfield 13, 3) := by decide +kernel
theorem dX2_begins_4 : decode cX2_begins 4 = .ok (.ifCond .ne 35, 3) := by decide +kernel
theorem dX2_begins_7 : decode cX2_begins 7 = .ok (.aload_n 0, 1) := by decide +kernel
theorem dX2_begins_8 : decode cX2_begins 8 = .ok (.getfield 17, 3) := by decide +kernel
theorem dX2_begins_11 : decode cX2_begins 11 = .ok (.aload_n 0, 1) := by decide +kernel
theorem dX2_begins_12 : decode cX2_begins 12 = .ok (.getfield 7, 3) := by decide +kernel
theorem dX2_begins_15 : decode cX2_begins 15 = .ok (.arraylength, 1) := by decide +kernel
theorem dX2_begins_16 : decode cX2_begins 16 = .ok (.if_icmp .ge 23, 3) := by decide +kernel
theorem dX2_begins_19 : decode cX2_begins 19 = .ok (.aload_n 0, 1) := by decide +kernel
theorem dX2_begins_20 : decode cX2_begins 20 = .ok (.getfield 7, 3) := by decide +kernel
theorem dX2_begins_23 : decode cX2_begins 23 = .ok (.aload_n 0, 1) := by decide +kernel
theorem dX2_begins_24 : decode cX2_begins 24 = .ok (.getfield 17, 3) := by decide +kernel
theorem dX2_begins_27 : decode cX2_begins 27 = .ok (.iload_n 1, 1) := by decide +kernel
theorem dX2_begins_28 : decode cX2_begins 28 = .ok (.iastore, 1) := by decide +kernel
theorem dX2_begins_29 : decode cX2_begins 29 = .ok (.aload_n 0, 1) := by decide +kernel
theorem dX2_begins_30 : decode cX2_begins 30 = .ok (.dup, 1) := by decide +kernel
theorem dX2_begins_31 : decode cX2_begins 31 = .ok (.getfield 17, 3) := by decide +kernel
theorem dX2_begins_34 : decode cX2_begins 34 = .ok (.iconst 1, 1) := by decide +kernel
theorem dX2_begins_35 : decode cX2_begins 35 = .ok (.iadd, 1) := by decide +kernel
theorem dX2_begins_36 : decode cX2_begins 36 = .ok (.putfield 17, 3) := by decide +kernel
theorem dX2_begins_39 : decode cX2_begins 39 = .ok (.return_, 1) := by decide +kernel
def d_begins (a1 : Int32) (m : M) : Option (M) :=
  (if (m 9 2) = 0 then (if (30 : Int32) ≤ (m 9 4) then some m else Option.bind (wrI m 49 (m 9 4) a1) (fun m1 => lt (wrF m1 9 4 ((m1 9 4) + (1 : Int32))) (fun m2 => some m2))) else some m)
set_option maxRecDepth 20000 in
theorem t_d_begins {G : GG} {x : Cx} (E : En G x cX2_begins "WreckBoard$Deed" 1 none) (hn : xn x = 2) (a1 : Int32) (m : M) : Sm G x 0 [(0, .ref (G.2.1 9)), (1, .int a1)] [] m (d_begins a1 m) KWv := by
  unfold d_begins
  refine s_aload_n 0 E dX2_begins_0 rfl rfl ?_
  refine s_geti (k := 2) (T := TX2) 9 E rfl rfl rfl inX2 (by decide) W342 dX2_begins_1 ?_
  refine s_if_ne 39 E dX2_begins_4 (by decide) ?_ ?_
  · exact s_vret E rfl dX2_begins_39
  · refine s_aload_n 0 E dX2_begins_7 rfl rfl ?_
    refine s_geti (k := 4) (T := TX2) 9 E rfl rfl rfl inX2 (by decide) W347 dX2_begins_8 ?_
    refine s_aload_n 0 E dX2_begins_11 rfl rfl ?_
    refine s_getr (k := 3) (T := TX2) 9 E rfl rfl rfl inX2 (by decide) W345 dX2_begins_12 ?_
    refine s_alen (n := 30) (v := (30 : Int32)) E rfl (by decide) (by decide) dX2_begins_15 ?_
    refine s_icmp_ge 39 E dX2_begins_16 (by decide) ?_ ?_
    · exact s_vret E rfl dX2_begins_39
    · refine s_aload_n 0 E dX2_begins_19 rfl rfl ?_
      refine s_getr (k := 3) (T := TX2) 9 E rfl rfl rfl inX2 (by decide) W345 dX2_begins_20 ?_
      refine s_aload_n 0 E dX2_begins_23 rfl rfl ?_
      refine s_geti (k := 4) (T := TX2) 9 E rfl rfl rfl inX2 (by decide) W347 dX2_begins_24 ?_
      refine s_iload_n 1 E dX2_begins_27 rfl rfl ?_
      refine s_iast E dX2_begins_28 (fun m1 => ?_)
      refine s_aload_n 0 E dX2_begins_29 rfl rfl ?_
      refine s_dup E dX2_begins_30 rfl ?_
      refine s_geti (k := 4) (T := TX2) 9 E rfl rfl rfl inX2 (by decide) W347 dX2_begins_31 ?_
      refine s_iconst (v := (1 : Int32)) E dX2_begins_34 (by decide) ?_
      refine s_iadd E dX2_begins_35 ?_
      refine s_put (k := 4) (T := TX2) (ty := .int) 9 E rfl rfl rfl inX2 tyX2 tyX2_ok nmX2 (by decide) W347 rfl (by decide +kernel) rfl rfl dX2_begins_36 ?_
      refine s_ltm rfl (fun m2 => ?_)
      exact s_vret E rfl dX2_begins_39
set_option maxRecDepth 20000 in
theorem C_d_begins (l : Launch) (G : GG) (a1 : Int32) (m : M) {z : M} (hz : d_begins a1 m = some z) : Ct l G yX2_begins cX2_begins 2 none 1 [.ref (G.2.1 9), .int a1] m none z :=
  ct_of (K := KWv) (by decide) (Nat.le_of_ble_eq_true rfl) (congrArg (fun q => Option.bind q _) hz) (fun x hl hn E => (t_d_begins E hn a1 m))
theorem mdX2_begins : mdq yX2_begins 1 := ⟨by decide, by decide, by decide +kernel⟩
theorem dX5_moves_0 : decode cX5_moves 0 = .ok (.aload_n 1, 1) := by decide +kernel
theorem dX5_moves_1 : decode cX5_moves 1 = .ok (.bipush 10, 2) := by decide +kernel
theorem dX5_moves_3 : decode cX5_moves 3 = .ok (.invokevirtual 7, 3) := by decide +kernel
theorem dX5_moves_6 : decode cX5_moves 6 = .ok (.iload_n 2, 1) := by decide +kernel
theorem dX5_moves_7 : decode cX5_moves 7 = .ok (.iconst 2, 1) := by decide +kernel
theorem dX5_moves_8 : decode cX5_moves 8 = .ok (.imul, 1) := by decide +kernel
theorem dX5_moves_9 : decode cX5_moves 9 = .ok (.aload_n 1, 1) := by decide +kernel
theorem dX5_moves_10 : decode cX5_moves 10 = .ok (.getfield 13, 3) := by decide +kernel
theorem dX5_moves_13 : decode cX5_moves 13 = .ok (.isub, 1) := by decide +kernel
theorem dX5_moves_14 : decode cX5_moves 14 = .ok (.ireturn, 1) := by decide +kernel
def m0_moves (a2 : Int32) (m : M) : Option (Int32 × M) :=
  Option.bind (d_begins (10 : Int32) m) (fun m1 => some (((a2 * (2 : Int32)) - (m1 9 0)), m1))
set_option maxRecDepth 20000 in
theorem t_m0_moves {G : GG} {x : Cx} (E : En G x cX5_moves "WreckBoard$Member" 2 (some .int)) (hn : xn x = 3) (a2 : Int32) (m : M) : Sm G x 0 [(1, .ref (G.2.1 9)), (2, .int a2)] [] m (m0_moves a2 m) KWi := by
  unfold m0_moves
  refine s_aload_n 0 E dX5_moves_0 rfl rfl ?_
  refine s_bipush (v := (10 : Int32)) E dX5_moves_1 (by decide) ?_
  refine s_bd (fun m1 hz => ?_)
  refine s_cV (rest := []) E (C_d_begins (xl x) G (10 : Int32) m hz) mdX2_begins W1143 W1128 W1129 W102 W1130 rfl rfl rfl rfl (Nat.le_of_ble_eq_true rfl) ⟨by decide, by decide⟩ dX5_moves_3 ?_
  refine s_iload_n 1 E dX5_moves_6 rfl rfl ?_
  refine s_iconst (v := (2 : Int32)) E dX5_moves_7 (by decide) ?_
  refine s_imul E dX5_moves_8 ?_
  refine s_aload_n 0 E dX5_moves_9 rfl rfl ?_
  refine s_geti (k := 0) (T := TX2) 9 E rfl rfl rfl inX2 (by decide) W336 dX5_moves_10 ?_
  refine s_isub E dX5_moves_13 ?_
  exact s_iret E rfl dX5_moves_14
set_option maxRecDepth 20000 in
theorem C_m0_moves (l : Launch) (G : GG) (a2 : Int32) (m : M) {z : Int32 × M} (hz : m0_moves a2 m = some z) : Ct l G yX5_moves cX5_moves 3 (some .int) 2 [.ref (G.2.1 64), .ref (G.2.1 9), .int a2] m (some (.int z.1)) z.2 :=
  ct_of (K := KWi) (by decide) (Nat.le_of_ble_eq_true rfl) (congrArg (fun q => Option.bind q _) hz) (fun x hl hn E => s_sub [1, 2] rfl (t_m0_moves E hn a2 m))
def m0_moves_65_9 (a2 : Int32) (m : M) : Option (Int32 × M) :=
  Option.bind (d_begins (10 : Int32) m) (fun m1 => some (((a2 * (2 : Int32)) - (m1 9 0)), m1))
set_option maxRecDepth 20000 in
theorem t_m0_moves_65_9 {G : GG} {x : Cx} (E : En G x cX5_moves "WreckBoard$Member" 2 (some .int)) (hn : xn x = 3) (a2 : Int32) (m : M) : Sm G x 0 [(1, .ref (G.2.1 9)), (2, .int a2)] [] m (m0_moves_65_9 a2 m) KWi := by
  unfold m0_moves_65_9
  refine s_aload_n 0 E dX5_moves_0 rfl rfl ?_
  refine s_bipush (v := (10 : Int32)) E dX5_moves_1 (by decide) ?_
  refine s_bd (fun m1 hz => ?_)
  refine s_cV (rest := []) E (C_d_begins (xl x) G (10 : Int32) m hz) mdX2_begins W1143 W1128 W1129 W102 W1130 rfl rfl rfl rfl (Nat.le_of_ble_eq_true rfl) ⟨by decide, by decide⟩ dX5_moves_3 ?_
  refine s_iload_n 1 E dX5_moves_6 rfl rfl ?_
  refine s_iconst (v := (2 : Int32)) E dX5_moves_7 (by decide) ?_
  refine s_imul E dX5_moves_8 ?_
  refine s_aload_n 0 E dX5_moves_9 rfl rfl ?_
  refine s_geti (k := 0) (T := TX2) 9 E rfl rfl rfl inX2 (by decide) W336 dX5_moves_10 ?_
  refine s_isub E dX5_moves_13 ?_
  exact s_iret E rfl dX5_moves_14
set_option maxRecDepth 20000 in
theorem C_m0_moves_65_9 (l : Launch) (G : GG) (a2 : Int32) (m : M) {z : Int32 × M} (hz : m0_moves_65_9 a2 m = some z) : Ct l G yX5_moves cX5_moves 3 (some .int) 2 [.ref (G.2.1 65), .ref (G.2.1 9), .int a2] m (some (.int z.1)) z.2 :=
  ct_of (K := KWi) (by decide) (Nat.le_of_ble_eq_true rfl) (congrArg (fun q => Option.bind q _) hz) (fun x hl hn E => s_sub [1, 2] rfl (t_m0_moves_65_9 E hn a2 m))
theorem mdX5_moves : mdq yX5_moves 2 := ⟨by decide, by decide, by decide +kernel⟩
theorem dX10_moves_0 : decode cX10_moves 0 = .ok (.aload_n 1, 1) := by decide +kernel
theorem dX10_moves_1 : decode cX10_moves 1 = .ok (.bipush 20, 2) := by decide +kernel
theorem dX10_moves_3 : decode cX10_moves 3 = .ok (.invokevirtual 11, 3) := by decide +kernel
theorem dX10_moves_6 : decode cX10_moves 6 = .ok (.aload_n 0, 1) := by decide +kernel
theorem dX10_moves_7 : decode cX10_moves 7 = .ok (.aload_n 1, 1) := by decide +kernel
theorem dX10_moves_8 : decode cX10_moves 8 = .ok (.iload_n 2, 1) := by decide +kernel
theorem dX10_moves_9 : decode cX10_moves 9 = .ok (.invokespecial 17, 3) := by decide +kernel
theorem dX10_moves_12 : decode cX10_moves 12 = .ok (.bipush 6, 2) := by decide +kernel
theorem dX10_moves_14 : decode cX10_moves 14 = .ok (.ixor, 1) := by decide +kernel
theorem dX10_moves_15 : decode cX10_moves 15 = .ok (.ireturn, 1) := by decide +kernel
def m1_moves (a2 : Int32) (m : M) : Option (Int32 × M) :=
  Option.bind (d_begins (20 : Int32) m) (fun m1 => Option.bind (m0_moves_65_9 a2 m1) (fun z2 => some ((z2.1 ^^^ (6 : Int32)), z2.2)))
set_option maxRecDepth 20000 in
theorem t_m1_moves {G : GG} {x : Cx} (E : En G x cX10_moves "WreckBoard$Wrecker" 3 (some .int)) (hn : xn x = 3) (a2 : Int32) (m : M) : Sm G x 0 [(0, .ref (G.2.1 65)), (1, .ref (G.2.1 9)), (2, .int a2)] [] m (m1_moves a2 m) KWi := by
  unfold m1_moves
  refine s_aload_n 1 E dX10_moves_0 rfl rfl ?_
  refine s_bipush (v := (20 : Int32)) E dX10_moves_1 (by decide) ?_
  refine s_bd (fun m1 hz => ?_)
  refine s_cV (rest := []) E (C_d_begins (xl x) G (20 : Int32) m hz) mdX2_begins W1140 W1128 W1129 W102 W1130 rfl rfl rfl rfl (Nat.le_of_ble_eq_true rfl) ⟨by decide, by decide⟩ dX10_moves_3 ?_
  refine s_aload_n 0 E dX10_moves_6 rfl rfl ?_
  refine s_aload_n 1 E dX10_moves_7 rfl rfl ?_
  refine s_iload_n 2 E dX10_moves_8 rfl rfl ?_
  refine s_bd (fun z2 hz => ?_)
  refine s_cSU (n := 2) (rest := []) E (C_m0_moves_65_9 (xl x) G a2 m1 hz) ⟨by decide, by decide +kernel⟩ W1141 W1123 W193 W1121 W95 W1142 rfl rfl rfl rfl (Nat.le_of_ble_eq_true rfl) ⟨by decide, by decide⟩ dX10_moves_9 ?_
  refine s_bipush (v := (6 : Int32)) E dX10_moves_12 (by decide) ?_
  refine s_ixor E dX10_moves_14 ?_
  exact s_iret E rfl dX10_moves_15
set_option maxRecDepth 20000 in
theorem C_m1_moves (l : Launch) (G : GG) (a2 : Int32) (m : M) {z : Int32 × M} (hz : m1_moves a2 m = some z) : Ct l G yX10_moves cX10_moves 3 (some .int) 3 [.ref (G.2.1 65), .ref (G.2.1 9), .int a2] m (some (.int z.1)) z.2 :=
  ct_of (K := KWi) (by decide) (Nat.le_of_ble_eq_true rfl) (congrArg (fun q => Option.bind q _) hz) (fun x hl hn E => (t_m1_moves E hn a2 m))
def m0_moves_66_9 (a2 : Int32) (m : M) : Option (Int32 × M) :=
  Option.bind (d_begins (10 : Int32) m) (fun m1 => some (((a2 * (2 : Int32)) - (m1 9 0)), m1))
set_option maxRecDepth 20000 in
theorem t_m0_moves_66_9 {G : GG} {x : Cx} (E : En G x cX5_moves "WreckBoard$Member" 2 (some .int)) (hn : xn x = 3) (a2 : Int32) (m : M) : Sm G x 0 [(1, .ref (G.2.1 9)), (2, .int a2)] [] m (m0_moves_66_9 a2 m) KWi := by
  unfold m0_moves_66_9
  refine s_aload_n 0 E dX5_moves_0 rfl rfl ?_
  refine s_bipush (v := (10 : Int32)) E dX5_moves_1 (by decide) ?_
  refine s_bd (fun m1 hz => ?_)
  refine s_cV (rest := []) E (C_d_begins (xl x) G (10 : Int32) m hz) mdX2_begins W1143 W1128 W1129 W102 W1130 rfl rfl rfl rfl (Nat.le_of_ble_eq_true rfl) ⟨by decide, by decide⟩ dX5_moves_3 ?_
  refine s_iload_n 1 E dX5_moves_6 rfl rfl ?_
  refine s_iconst (v := (2 : Int32)) E dX5_moves_7 (by decide) ?_
  refine s_imul E dX5_moves_8 ?_
  refine s_aload_n 0 E dX5_moves_9 rfl rfl ?_
  refine s_geti (k := 0) (T := TX2) 9 E rfl rfl rfl inX2 (by decide) W336 dX5_moves_10 ?_
  refine s_isub E dX5_moves_13 ?_
  exact s_iret E rfl dX5_moves_14
set_option maxRecDepth 20000 in
theorem C_m0_moves_66_9 (l : Launch) (G : GG) (a2 : Int32) (m : M) {z : Int32 × M} (hz : m0_moves_66_9 a2 m = some z) : Ct l G yX5_moves cX5_moves 3 (some .int) 2 [.ref (G.2.1 66), .ref (G.2.1 9), .int a2] m (some (.int z.1)) z.2 :=
  ct_of (K := KWi) (by decide) (Nat.le_of_ble_eq_true rfl) (congrArg (fun q => Option.bind q _) hz) (fun x hl hn E => s_sub [1, 2] rfl (t_m0_moves_66_9 E hn a2 m))
def m0_moves_67_9 (a2 : Int32) (m : M) : Option (Int32 × M) :=
  Option.bind (d_begins (10 : Int32) m) (fun m1 => some (((a2 * (2 : Int32)) - (m1 9 0)), m1))
set_option maxRecDepth 20000 in
theorem t_m0_moves_67_9 {G : GG} {x : Cx} (E : En G x cX5_moves "WreckBoard$Member" 2 (some .int)) (hn : xn x = 3) (a2 : Int32) (m : M) : Sm G x 0 [(1, .ref (G.2.1 9)), (2, .int a2)] [] m (m0_moves_67_9 a2 m) KWi := by
  unfold m0_moves_67_9
  refine s_aload_n 0 E dX5_moves_0 rfl rfl ?_
  refine s_bipush (v := (10 : Int32)) E dX5_moves_1 (by decide) ?_
  refine s_bd (fun m1 hz => ?_)
  refine s_cV (rest := []) E (C_d_begins (xl x) G (10 : Int32) m hz) mdX2_begins W1143 W1128 W1129 W102 W1130 rfl rfl rfl rfl (Nat.le_of_ble_eq_true rfl) ⟨by decide, by decide⟩ dX5_moves_3 ?_
  refine s_iload_n 1 E dX5_moves_6 rfl rfl ?_
  refine s_iconst (v := (2 : Int32)) E dX5_moves_7 (by decide) ?_
  refine s_imul E dX5_moves_8 ?_
  refine s_aload_n 0 E dX5_moves_9 rfl rfl ?_
  refine s_geti (k := 0) (T := TX2) 9 E rfl rfl rfl inX2 (by decide) W336 dX5_moves_10 ?_
  refine s_isub E dX5_moves_13 ?_
  exact s_iret E rfl dX5_moves_14
set_option maxRecDepth 20000 in
theorem C_m0_moves_67_9 (l : Launch) (G : GG) (a2 : Int32) (m : M) {z : Int32 × M} (hz : m0_moves_67_9 a2 m = some z) : Ct l G yX5_moves cX5_moves 3 (some .int) 2 [.ref (G.2.1 67), .ref (G.2.1 9), .int a2] m (some (.int z.1)) z.2 :=
  ct_of (K := KWi) (by decide) (Nat.le_of_ble_eq_true rfl) (congrArg (fun q => Option.bind q _) hz) (fun x hl hn E => s_sub [1, 2] rfl (t_m0_moves_67_9 E hn a2 m))
theorem dX1_moves_0 : decode cX1_moves 0 = .ok (.aload_n 1, 1) := by decide +kernel
theorem dX1_moves_1 : decode cX1_moves 1 = .ok (.bipush 50, 2) := by decide +kernel
theorem dX1_moves_3 : decode cX1_moves 3 = .ok (.invokevirtual 15, 3) := by decide +kernel
theorem dX1_moves_6 : decode cX1_moves 6 = .ok (.aload_n 0, 1) := by decide +kernel
theorem dX1_moves_7 : decode cX1_moves 7 = .ok (.aload_n 1, 1) := by decide +kernel
theorem dX1_moves_8 : decode cX1_moves 8 = .ok (.iload_n 2, 1) := by decide +kernel
theorem dX1_moves_9 : decode cX1_moves 9 = .ok (.bipush 9, 2) := by decide +kernel
theorem dX1_moves_11 : decode cX1_moves 11 = .ok (.isub, 1) := by decide +kernel
theorem dX1_moves_12 : decode cX1_moves 12 = .ok (.invokespecial 21, 3) := by decide +kernel
theorem dX1_moves_15 : decode cX1_moves 15 = .ok (.ireturn, 1) := by decide +kernel
def m3_moves (a2 : Int32) (m : M) : Option (Int32 × M) :=
  Option.bind (d_begins (50 : Int32) m) (fun m1 => Option.bind (m0_moves_67_9 (a2 - (9 : Int32)) m1) (fun z2 => some (z2.1, z2.2)))
set_option maxRecDepth 20000 in
theorem t_m3_moves {G : GG} {x : Cx} (E : En G x cX1_moves "WreckBoard$Chair" 3 (some .int)) (hn : xn x = 3) (a2 : Int32) (m : M) : Sm G x 0 [(0, .ref (G.2.1 67)), (1, .ref (G.2.1 9)), (2, .int a2)] [] m (m3_moves a2 m) KWi := by
  unfold m3_moves
  refine s_aload_n 1 E dX1_moves_0 rfl rfl ?_
  refine s_bipush (v := (50 : Int32)) E dX1_moves_1 (by decide) ?_
  refine s_bd (fun m1 hz => ?_)
  refine s_cV (rest := []) E (C_d_begins (xl x) G (50 : Int32) m hz) mdX2_begins W1127 W1128 W1129 W102 W1130 rfl rfl rfl rfl (Nat.le_of_ble_eq_true rfl) ⟨by decide, by decide⟩ dX1_moves_3 ?_
  refine s_aload_n 0 E dX1_moves_6 rfl rfl ?_
  refine s_aload_n 1 E dX1_moves_7 rfl rfl ?_
  refine s_iload_n 2 E dX1_moves_8 rfl rfl ?_
  refine s_bipush (v := (9 : Int32)) E dX1_moves_9 (by decide) ?_
  refine s_isub E dX1_moves_11 ?_
  refine s_bd (fun z2 hz => ?_)
  refine s_cSU2 (n := 2) (rest := []) (z := ⟨"WreckBoard$Saver", "moves", "(LWreckBoard$Deed;I)I"⟩) (owner := "WreckBoard$Member") E (C_m0_moves_67_9 (xl x) G (a2 - (9 : Int32)) m1 hz) rfl ⟨by decide, by decide +kernel⟩ W1131 W1132 W207 W200 W1121 W95 W1142 rfl rfl rfl rfl (Nat.le_of_ble_eq_true rfl) ⟨by decide, by decide⟩ dX1_moves_12 ?_
  exact s_iret E rfl dX1_moves_15
set_option maxRecDepth 20000 in
theorem C_m3_moves (l : Launch) (G : GG) (a2 : Int32) (m : M) {z : Int32 × M} (hz : m3_moves a2 m = some z) : Ct l G yX1_moves cX1_moves 3 (some .int) 3 [.ref (G.2.1 67), .ref (G.2.1 9), .int a2] m (some (.int z.1)) z.2 :=
  ct_of (K := KWi) (by decide) (Nat.le_of_ble_eq_true rfl) (congrArg (fun q => Option.bind q _) hz) (fun x hl hn E => (t_m3_moves E hn a2 m))
def m0_moves_68_9 (a2 : Int32) (m : M) : Option (Int32 × M) :=
  Option.bind (d_begins (10 : Int32) m) (fun m1 => some (((a2 * (2 : Int32)) - (m1 9 0)), m1))
set_option maxRecDepth 20000 in
theorem t_m0_moves_68_9 {G : GG} {x : Cx} (E : En G x cX5_moves "WreckBoard$Member" 2 (some .int)) (hn : xn x = 3) (a2 : Int32) (m : M) : Sm G x 0 [(1, .ref (G.2.1 9)), (2, .int a2)] [] m (m0_moves_68_9 a2 m) KWi := by
  unfold m0_moves_68_9
  refine s_aload_n 0 E dX5_moves_0 rfl rfl ?_
  refine s_bipush (v := (10 : Int32)) E dX5_moves_1 (by decide) ?_
  refine s_bd (fun m1 hz => ?_)
  refine s_cV (rest := []) E (C_d_begins (xl x) G (10 : Int32) m hz) mdX2_begins W1143 W1128 W1129 W102 W1130 rfl rfl rfl rfl (Nat.le_of_ble_eq_true rfl) ⟨by decide, by decide⟩ dX5_moves_3 ?_
  refine s_iload_n 1 E dX5_moves_6 rfl rfl ?_
  refine s_iconst (v := (2 : Int32)) E dX5_moves_7 (by decide) ?_
  refine s_imul E dX5_moves_8 ?_
  refine s_aload_n 0 E dX5_moves_9 rfl rfl ?_
  refine s_geti (k := 0) (T := TX2) 9 E rfl rfl rfl inX2 (by decide) W336 dX5_moves_10 ?_
  refine s_isub E dX5_moves_13 ?_
  exact s_iret E rfl dX5_moves_14
set_option maxRecDepth 20000 in
theorem C_m0_moves_68_9 (l : Launch) (G : GG) (a2 : Int32) (m : M) {z : Int32 × M} (hz : m0_moves_68_9 a2 m = some z) : Ct l G yX5_moves cX5_moves 3 (some .int) 2 [.ref (G.2.1 68), .ref (G.2.1 9), .int a2] m (some (.int z.1)) z.2 :=
  ct_of (K := KWi) (by decide) (Nat.le_of_ble_eq_true rfl) (congrArg (fun q => Option.bind q _) hz) (fun x hl hn E => s_sub [1, 2] rfl (t_m0_moves_68_9 E hn a2 m))
def m0_moves_69_9 (a2 : Int32) (m : M) : Option (Int32 × M) :=
  Option.bind (d_begins (10 : Int32) m) (fun m1 => some (((a2 * (2 : Int32)) - (m1 9 0)), m1))
set_option maxRecDepth 20000 in
theorem t_m0_moves_69_9 {G : GG} {x : Cx} (E : En G x cX5_moves "WreckBoard$Member" 2 (some .int)) (hn : xn x = 3) (a2 : Int32) (m : M) : Sm G x 0 [(1, .ref (G.2.1 9)), (2, .int a2)] [] m (m0_moves_69_9 a2 m) KWi := by
  unfold m0_moves_69_9
  refine s_aload_n 0 E dX5_moves_0 rfl rfl ?_
  refine s_bipush (v := (10 : Int32)) E dX5_moves_1 (by decide) ?_
  refine s_bd (fun m1 hz => ?_)
  refine s_cV (rest := []) E (C_d_begins (xl x) G (10 : Int32) m hz) mdX2_begins W1143 W1128 W1129 W102 W1130 rfl rfl rfl rfl (Nat.le_of_ble_eq_true rfl) ⟨by decide, by decide⟩ dX5_moves_3 ?_
  refine s_iload_n 1 E dX5_moves_6 rfl rfl ?_
  refine s_iconst (v := (2 : Int32)) E dX5_moves_7 (by decide) ?_
  refine s_imul E dX5_moves_8 ?_
  refine s_aload_n 0 E dX5_moves_9 rfl rfl ?_
  refine s_geti (k := 0) (T := TX2) 9 E rfl rfl rfl inX2 (by decide) W336 dX5_moves_10 ?_
  refine s_isub E dX5_moves_13 ?_
  exact s_iret E rfl dX5_moves_14
set_option maxRecDepth 20000 in
theorem C_m0_moves_69_9 (l : Launch) (G : GG) (a2 : Int32) (m : M) {z : Int32 × M} (hz : m0_moves_69_9 a2 m = some z) : Ct l G yX5_moves cX5_moves 3 (some .int) 2 [.ref (G.2.1 69), .ref (G.2.1 9), .int a2] m (some (.int z.1)) z.2 :=
  ct_of (K := KWi) (by decide) (Nat.le_of_ble_eq_true rfl) (congrArg (fun q => Option.bind q _) hz) (fun x hl hn E => s_sub [1, 2] rfl (t_m0_moves_69_9 E hn a2 m))
def vd_moves (p : Nat) (a2 : Int32) (m : M) : Option (Int32 × M) :=
  if p = 64 then m0_moves a2 m else if p = 65 then m1_moves a2 m else if p = 66 then m0_moves_66_9 a2 m else if p = 67 then m3_moves a2 m else if p = 68 then m0_moves_68_9 a2 m else if p = 69 then m0_moves_69_9 a2 m else none
theorem D_vd_moves {α : Type} {G : GG} {x : Cx} {cc : ByteArray} {own : String} {lev : Nat} {ret : Option FieldType} {pc : Nat} {lv : List (Nat × Value)} {m : M} {o : Option α} {K : α → Option (Option Value × M)} {index : Nat} (rest : List Value) (E : En G x cc own lev ret) (p : Nat) (a2 : Int32) {z : Int32 × M} (hz : vd_moves p a2 m = some z) (hl : Cond.methodLink own index ({ cls := "WreckBoard$Member", name := "moves", desc := "(LWreckBoard$Deed;I)I" } : MethodName) ∈ gw) (hroom : (rest.map fun v => v.category).sum ≤ 8) (hlev : 3 + 1 ≤ lev) (d : decode cc pc = .ok (.invokevirtual index, 3)) (k : Sm G x (pc + 3) lv ((.int z.1) :: rest) z.2 o K) : Sm G x pc lv (.int a2 :: .ref (G.2.1 9) :: .ref (G.2.1 p) :: rest) m o K := by
  unfold vd_moves at hz
  by_cases h : p = 64
  · rw [if_pos h] at hz
    subst h
    exact s_cU (n := 2) (rest := rest) (z := ⟨"WreckBoard$Member", "moves", "(LWreckBoard$Deed;I)I"⟩) (owner := "WreckBoard$Member") E (C_m0_moves (xl x) G a2 m hz) ⟨by decide, by decide, by decide +kernel⟩ hl W1123 W1121 W1142 W1122 W1121 W95 W1142 rfl rfl rfl rfl hroom ⟨by omega, by omega⟩ d k
  rw [if_neg h] at hz
  clear h
  by_cases h : p = 65
  · rw [if_pos h] at hz
    subst h
    exact s_cU (n := 2) (rest := rest) (z := ⟨"WreckBoard$Member", "moves", "(LWreckBoard$Deed;I)I"⟩) (owner := "WreckBoard$Member") E (C_m1_moves (xl x) G a2 m hz) ⟨by decide, by decide, by decide +kernel⟩ hl W1123 W1121 W1142 W1137 W1138 W96 W1139 rfl rfl rfl rfl hroom ⟨by omega, by omega⟩ d k
  rw [if_neg h] at hz
  clear h
  by_cases h : p = 66
  · rw [if_pos h] at hz
    subst h
    exact s_cU (n := 2) (rest := rest) (z := ⟨"WreckBoard$Member", "moves", "(LWreckBoard$Deed;I)I"⟩) (owner := "WreckBoard$Member") E (C_m0_moves_66_9 (xl x) G a2 m hz) ⟨by decide, by decide, by decide +kernel⟩ hl W1123 W1121 W1142 W1136 W1121 W95 W1142 rfl rfl rfl rfl hroom ⟨by omega, by omega⟩ d k
  rw [if_neg h] at hz
  clear h
  by_cases h : p = 67
  · rw [if_pos h] at hz
    subst h
    exact s_cU (n := 2) (rest := rest) (z := ⟨"WreckBoard$Member", "moves", "(LWreckBoard$Deed;I)I"⟩) (owner := "WreckBoard$Member") E (C_m3_moves (xl x) G a2 m hz) ⟨by decide, by decide, by decide +kernel⟩ hl W1123 W1121 W1142 W1124 W1125 W98 W1126 rfl rfl rfl rfl hroom ⟨by omega, by omega⟩ d k
  rw [if_neg h] at hz
  clear h
  by_cases h : p = 68
  · rw [if_pos h] at hz
    subst h
    exact s_cU (n := 2) (rest := rest) (z := ⟨"WreckBoard$Member", "moves", "(LWreckBoard$Deed;I)I"⟩) (owner := "WreckBoard$Member") E (C_m0_moves_68_9 (xl x) G a2 m hz) ⟨by decide, by decide, by decide +kernel⟩ hl W1123 W1121 W1142 W1134 W1121 W95 W1142 rfl rfl rfl rfl hroom ⟨by omega, by omega⟩ d k
  rw [if_neg h] at hz
  clear h
  by_cases h : p = 69
  · rw [if_pos h] at hz
    subst h
    exact s_cU (n := 2) (rest := rest) (z := ⟨"WreckBoard$Member", "moves", "(LWreckBoard$Deed;I)I"⟩) (owner := "WreckBoard$Member") E (C_m0_moves_69_9 (xl x) G a2 m hz) ⟨by decide, by decide, by decide +kernel⟩ hl W1123 W1121 W1142 W1135 W1121 W95 W1142 rfl rfl rfl rfl hroom ⟨by omega, by omega⟩ d k
  rw [if_neg h] at hz
  clear h
  cases hz
theorem dX5_seconds_0 : decode cX5_seconds 0 = .ok (.aload_n 1, 1) := by decide +kernel
theorem dX5_seconds_1 : decode cX5_seconds 1 = .ok (.bipush 11, 2) := by decide +kernel
theorem dX5_seconds_3 : decode cX5_seconds 3 = .ok (.invokevirtual 7, 3) := by decide +kernel
theorem dX5_seconds_6 : decode cX5_seconds 6 = .ok (.aload_n 0, 1) := by decide +kernel
theorem dX5_seconds_7 : decode cX5_seconds 7 = .ok (.aload_n 1, 1) := by decide +kernel
theorem dX5_seconds_8 : decode cX5_seconds 8 = .ok (.iload_n 2, 1) := by decide +kernel
theorem dX5_seconds_9 : decode cX5_seconds 9 = .ok (.invokevirtual 17, 3) := by decide +kernel
theorem dX5_seconds_12 : decode cX5_seconds 12 = .ok (.iconst 3, 1) := by decide +kernel
theorem dX5_seconds_13 : decode cX5_seconds 13 = .ok (.aload_n 1, 1) := by decide +kernel
theorem dX5_seconds_14 : decode cX5_seconds 14 = .ok (.getfield 23, 3) := by decide +kernel
theorem dX5_seconds_17 : decode cX5_seconds 17 = .ok (.imul, 1) := by decide +kernel
theorem dX5_seconds_18 : decode cX5_seconds 18 = .ok (.iadd, 1) := by decide +kernel
theorem dX5_seconds_19 : decode cX5_seconds 19 = .ok (.ireturn, 1) := by decide +kernel
def m0_seconds (a2 : Int32) (m : M) : Option (Int32 × M) :=
  Option.bind (d_begins (11 : Int32) m) (fun m1 => Option.bind (m0_moves a2 m1) (fun z2 => some ((z2.1 + ((3 : Int32) * (z2.2 9 1))), z2.2)))
set_option maxRecDepth 20000 in
theorem t_m0_seconds {G : GG} {x : Cx} (E : En G x cX5_seconds "WreckBoard$Member" 3 (some .int)) (hn : xn x = 3) (a2 : Int32) (m : M) : Sm G x 0 [(0, .ref (G.2.1 64)), (1, .ref (G.2.1 9)), (2, .int a2)] [] m (m0_seconds a2 m) KWi := by
  unfold m0_seconds
  refine s_aload_n 1 E dX5_seconds_0 rfl rfl ?_
  refine s_bipush (v := (11 : Int32)) E dX5_seconds_1 (by decide) ?_
  refine s_bd (fun m1 hz => ?_)
  refine s_cV (rest := []) E (C_d_begins (xl x) G (11 : Int32) m hz) mdX2_begins W1143 W1128 W1129 W102 W1130 rfl rfl rfl rfl (Nat.le_of_ble_eq_true rfl) ⟨by decide, by decide⟩ dX5_seconds_3 ?_
  refine s_aload_n 0 E dX5_seconds_6 rfl rfl ?_
  refine s_aload_n 1 E dX5_seconds_7 rfl rfl ?_
  refine s_iload_n 2 E dX5_seconds_8 rfl rfl ?_
  refine s_bd (fun z2 hz => ?_)
  refine s_cV (rest := []) E (C_m0_moves (xl x) G a2 m1 hz) mdX5_moves W1164 W1121 W1122 W95 W1142 rfl rfl rfl rfl (Nat.le_of_ble_eq_true rfl) ⟨by decide, by decide⟩ dX5_seconds_9 ?_
  refine s_iconst (v := (3 : Int32)) E dX5_seconds_12 (by decide) ?_
  refine s_aload_n 1 E dX5_seconds_13 rfl rfl ?_
  refine s_geti (k := 1) (T := TX2) 9 E rfl rfl rfl inX2 (by decide) W339 dX5_seconds_14 ?_
  refine s_imul E dX5_seconds_17 ?_
  refine s_iadd E dX5_seconds_18 ?_
  exact s_iret E rfl dX5_seconds_19
set_option maxRecDepth 20000 in
theorem C_m0_seconds (l : Launch) (G : GG) (a2 : Int32) (m : M) {z : Int32 × M} (hz : m0_seconds a2 m = some z) : Ct l G yX5_seconds cX5_seconds 3 (some .int) 3 [.ref (G.2.1 64), .ref (G.2.1 9), .int a2] m (some (.int z.1)) z.2 :=
  ct_of (K := KWi) (by decide) (Nat.le_of_ble_eq_true rfl) (congrArg (fun q => Option.bind q _) hz) (fun x hl hn E => (t_m0_seconds E hn a2 m))
theorem mdX10_moves : mdq yX10_moves 2 := ⟨by decide, by decide, by decide +kernel⟩
def m0_seconds_65_9 (a2 : Int32) (m : M) : Option (Int32 × M) :=
  Option.bind (d_begins (11 : Int32) m) (fun m1 => Option.bind (m1_moves a2 m1) (fun z2 => some ((z2.1 + ((3 : Int32) * (z2.2 9 1))), z2.2)))
set_option maxRecDepth 20000 in
theorem t_m0_seconds_65_9 {G : GG} {x : Cx} (E : En G x cX5_seconds "WreckBoard$Member" 4 (some .int)) (hn : xn x = 3) (a2 : Int32) (m : M) : Sm G x 0 [(0, .ref (G.2.1 65)), (1, .ref (G.2.1 9)), (2, .int a2)] [] m (m0_seconds_65_9 a2 m) KWi := by
  unfold m0_seconds_65_9
  refine s_aload_n 1 E dX5_seconds_0 rfl rfl ?_
  refine s_bipush (v := (11 : Int32)) E dX5_seconds_1 (by decide) ?_
  refine s_bd (fun m1 hz => ?_)
  refine s_cV (rest := []) E (C_d_begins (xl x) G (11 : Int32) m hz) mdX2_begins W1143 W1128 W1129 W102 W1130 rfl rfl rfl rfl (Nat.le_of_ble_eq_true rfl) ⟨by decide, by decide⟩ dX5_seconds_3 ?_
  refine s_aload_n 0 E dX5_seconds_6 rfl rfl ?_
  refine s_aload_n 1 E dX5_seconds_7 rfl rfl ?_
  refine s_iload_n 2 E dX5_seconds_8 rfl rfl ?_
  refine s_bd (fun z2 hz => ?_)
  refine s_cU (n := 2) (rest := []) (z := ⟨"WreckBoard$Member", "moves", "(LWreckBoard$Deed;I)I"⟩) (owner := "WreckBoard$Member") E (C_m1_moves (xl x) G a2 m1 hz) ⟨by decide, by decide, by decide +kernel⟩ W1164 W1123 W1121 W1142 W1137 W1138 W96 W1139 rfl rfl rfl rfl (Nat.le_of_ble_eq_true rfl) ⟨by decide, by decide⟩ dX5_seconds_9 ?_
  refine s_iconst (v := (3 : Int32)) E dX5_seconds_12 (by decide) ?_
  refine s_aload_n 1 E dX5_seconds_13 rfl rfl ?_
  refine s_geti (k := 1) (T := TX2) 9 E rfl rfl rfl inX2 (by decide) W339 dX5_seconds_14 ?_
  refine s_imul E dX5_seconds_17 ?_
  refine s_iadd E dX5_seconds_18 ?_
  exact s_iret E rfl dX5_seconds_19
set_option maxRecDepth 20000 in
theorem C_m0_seconds_65_9 (l : Launch) (G : GG) (a2 : Int32) (m : M) {z : Int32 × M} (hz : m0_seconds_65_9 a2 m = some z) : Ct l G yX5_seconds cX5_seconds 3 (some .int) 4 [.ref (G.2.1 65), .ref (G.2.1 9), .int a2] m (some (.int z.1)) z.2 :=
  ct_of (K := KWi) (by decide) (Nat.le_of_ble_eq_true rfl) (congrArg (fun q => Option.bind q _) hz) (fun x hl hn E => (t_m0_seconds_65_9 E hn a2 m))
def m0_seconds_66_9 (a2 : Int32) (m : M) : Option (Int32 × M) :=
  Option.bind (d_begins (11 : Int32) m) (fun m1 => Option.bind (m0_moves_66_9 a2 m1) (fun z2 => some ((z2.1 + ((3 : Int32) * (z2.2 9 1))), z2.2)))
set_option maxRecDepth 20000 in
theorem t_m0_seconds_66_9 {G : GG} {x : Cx} (E : En G x cX5_seconds "WreckBoard$Member" 3 (some .int)) (hn : xn x = 3) (a2 : Int32) (m : M) : Sm G x 0 [(0, .ref (G.2.1 66)), (1, .ref (G.2.1 9)), (2, .int a2)] [] m (m0_seconds_66_9 a2 m) KWi := by
  unfold m0_seconds_66_9
  refine s_aload_n 1 E dX5_seconds_0 rfl rfl ?_
  refine s_bipush (v := (11 : Int32)) E dX5_seconds_1 (by decide) ?_
  refine s_bd (fun m1 hz => ?_)
  refine s_cV (rest := []) E (C_d_begins (xl x) G (11 : Int32) m hz) mdX2_begins W1143 W1128 W1129 W102 W1130 rfl rfl rfl rfl (Nat.le_of_ble_eq_true rfl) ⟨by decide, by decide⟩ dX5_seconds_3 ?_
  refine s_aload_n 0 E dX5_seconds_6 rfl rfl ?_
  refine s_aload_n 1 E dX5_seconds_7 rfl rfl ?_
  refine s_iload_n 2 E dX5_seconds_8 rfl rfl ?_
  refine s_bd (fun z2 hz => ?_)
  refine s_cU (n := 2) (rest := []) (z := ⟨"WreckBoard$Member", "moves", "(LWreckBoard$Deed;I)I"⟩) (owner := "WreckBoard$Member") E (C_m0_moves_66_9 (xl x) G a2 m1 hz) ⟨by decide, by decide, by decide +kernel⟩ W1164 W1123 W1121 W1142 W1136 W1121 W95 W1142 rfl rfl rfl rfl (Nat.le_of_ble_eq_true rfl) ⟨by decide, by decide⟩ dX5_seconds_9 ?_
  refine s_iconst (v := (3 : Int32)) E dX5_seconds_12 (by decide) ?_
  refine s_aload_n 1 E dX5_seconds_13 rfl rfl ?_
  refine s_geti (k := 1) (T := TX2) 9 E rfl rfl rfl inX2 (by decide) W339 dX5_seconds_14 ?_
  refine s_imul E dX5_seconds_17 ?_
  refine s_iadd E dX5_seconds_18 ?_
  exact s_iret E rfl dX5_seconds_19
set_option maxRecDepth 20000 in
theorem C_m0_seconds_66_9 (l : Launch) (G : GG) (a2 : Int32) (m : M) {z : Int32 × M} (hz : m0_seconds_66_9 a2 m = some z) : Ct l G yX5_seconds cX5_seconds 3 (some .int) 3 [.ref (G.2.1 66), .ref (G.2.1 9), .int a2] m (some (.int z.1)) z.2 :=
  ct_of (K := KWi) (by decide) (Nat.le_of_ble_eq_true rfl) (congrArg (fun q => Option.bind q _) hz) (fun x hl hn E => (t_m0_seconds_66_9 E hn a2 m))
theorem mdX5_seconds : mdq yX5_seconds 2 := ⟨by decide, by decide, by decide +kernel⟩
theorem dX8_seconds_0 : decode cX8_seconds 0 = .ok (.aload_n 1, 1) := by decide +kernel
theorem dX8_seconds_1 : decode cX8_seconds 1 = .ok (.bipush 30, 2) := by decide +kernel
theorem dX8_seconds_3 : decode cX8_seconds 3 = .ok (.invokevirtual 11, 3) := by decide +kernel
theorem dX8_seconds_6 : decode cX8_seconds 6 = .ok (.aload_n 0, 1) := by decide +kernel
theorem dX8_seconds_7 : decode cX8_seconds 7 = .ok (.aload_n 1, 1) := by decide +kernel
theorem dX8_seconds_8 : decode cX8_seconds 8 = .ok (.iload_n 2, 1) := by decide +kernel
theorem dX8_seconds_9 : decode cX8_seconds 9 = .ok (.invokespecial 17, 3) := by decide +kernel
theorem dX8_seconds_12 : decode cX8_seconds 12 = .ok (.iconst 2, 1) := by decide +kernel
theorem dX8_seconds_13 : decode cX8_seconds 13 = .ok (.imul, 1) := by decide +kernel
theorem dX8_seconds_14 : decode cX8_seconds 14 = .ok (.ireturn, 1) := by decide +kernel
def m2_seconds (a2 : Int32) (m : M) : Option (Int32 × M) :=
  Option.bind (d_begins (30 : Int32) m) (fun m1 => Option.bind (m0_seconds_66_9 a2 m1) (fun z2 => some ((z2.1 * (2 : Int32)), z2.2)))
set_option maxRecDepth 20000 in
theorem t_m2_seconds {G : GG} {x : Cx} (E : En G x cX8_seconds "WreckBoard$Saver" 4 (some .int)) (hn : xn x = 3) (a2 : Int32) (m : M) : Sm G x 0 [(0, .ref (G.2.1 66)), (1, .ref (G.2.1 9)), (2, .int a2)] [] m (m2_seconds a2 m) KWi := by
  unfold m2_seconds
  refine s_aload_n 1 E dX8_seconds_0 rfl rfl ?_
  refine s_bipush (v := (30 : Int32)) E dX8_seconds_1 (by decide) ?_
  refine s_bd (fun m1 hz => ?_)
  refine s_cV (rest := []) E (C_d_begins (xl x) G (30 : Int32) m hz) mdX2_begins W1151 W1128 W1129 W102 W1130 rfl rfl rfl rfl (Nat.le_of_ble_eq_true rfl) ⟨by decide, by decide⟩ dX8_seconds_3 ?_
  refine s_aload_n 0 E dX8_seconds_6 rfl rfl ?_
  refine s_aload_n 1 E dX8_seconds_7 rfl rfl ?_
  refine s_iload_n 2 E dX8_seconds_8 rfl rfl ?_
  refine s_bd (fun z2 hz => ?_)
  refine s_cSU (n := 2) (rest := []) E (C_m0_seconds_66_9 (xl x) G a2 m1 hz) ⟨by decide, by decide +kernel⟩ W1152 W1147 W200 W1145 W95 W1163 rfl rfl rfl rfl (Nat.le_of_ble_eq_true rfl) ⟨by decide, by decide⟩ dX8_seconds_9 ?_
  refine s_iconst (v := (2 : Int32)) E dX8_seconds_12 (by decide) ?_
  refine s_imul E dX8_seconds_13 ?_
  exact s_iret E rfl dX8_seconds_14
set_option maxRecDepth 20000 in
theorem C_m2_seconds (l : Launch) (G : GG) (a2 : Int32) (m : M) {z : Int32 × M} (hz : m2_seconds a2 m = some z) : Ct l G yX8_seconds cX8_seconds 3 (some .int) 4 [.ref (G.2.1 66), .ref (G.2.1 9), .int a2] m (some (.int z.1)) z.2 :=
  ct_of (K := KWi) (by decide) (Nat.le_of_ble_eq_true rfl) (congrArg (fun q => Option.bind q _) hz) (fun x hl hn E => (t_m2_seconds E hn a2 m))
theorem mdX1_moves : mdq yX1_moves 2 := ⟨by decide, by decide, by decide +kernel⟩
def m0_seconds_67_9 (a2 : Int32) (m : M) : Option (Int32 × M) :=
  Option.bind (d_begins (11 : Int32) m) (fun m1 => Option.bind (m3_moves a2 m1) (fun z2 => some ((z2.1 + ((3 : Int32) * (z2.2 9 1))), z2.2)))
set_option maxRecDepth 20000 in
theorem t_m0_seconds_67_9 {G : GG} {x : Cx} (E : En G x cX5_seconds "WreckBoard$Member" 4 (some .int)) (hn : xn x = 3) (a2 : Int32) (m : M) : Sm G x 0 [(0, .ref (G.2.1 67)), (1, .ref (G.2.1 9)), (2, .int a2)] [] m (m0_seconds_67_9 a2 m) KWi := by
  unfold m0_seconds_67_9
  refine s_aload_n 1 E dX5_seconds_0 rfl rfl ?_
  refine s_bipush (v := (11 : Int32)) E dX5_seconds_1 (by decide) ?_
  refine s_bd (fun m1 hz => ?_)
  refine s_cV (rest := []) E (C_d_begins (xl x) G (11 : Int32) m hz) mdX2_begins W1143 W1128 W1129 W102 W1130 rfl rfl rfl rfl (Nat.le_of_ble_eq_true rfl) ⟨by decide, by decide⟩ dX5_seconds_3 ?_
  refine s_aload_n 0 E dX5_seconds_6 rfl rfl ?_
  refine s_aload_n 1 E dX5_seconds_7 rfl rfl ?_
  refine s_iload_n 2 E dX5_seconds_8 rfl rfl ?_
  refine s_bd (fun z2 hz => ?_)
  refine s_cU (n := 2) (rest := []) (z := ⟨"WreckBoard$Member", "moves", "(LWreckBoard$Deed;I)I"⟩) (owner := "WreckBoard$Member") E (C_m3_moves (xl x) G a2 m1 hz) ⟨by decide, by decide, by decide +kernel⟩ W1164 W1123 W1121 W1142 W1124 W1125 W98 W1126 rfl rfl rfl rfl (Nat.le_of_ble_eq_true rfl) ⟨by decide, by decide⟩ dX5_seconds_9 ?_
  refine s_iconst (v := (3 : Int32)) E dX5_seconds_12 (by decide) ?_
  refine s_aload_n 1 E dX5_seconds_13 rfl rfl ?_
  refine s_geti (k := 1) (T := TX2) 9 E rfl rfl rfl inX2 (by decide) W339 dX5_seconds_14 ?_
  refine s_imul E dX5_seconds_17 ?_
  refine s_iadd E dX5_seconds_18 ?_
  exact s_iret E rfl dX5_seconds_19
set_option maxRecDepth 20000 in
theorem C_m0_seconds_67_9 (l : Launch) (G : GG) (a2 : Int32) (m : M) {z : Int32 × M} (hz : m0_seconds_67_9 a2 m = some z) : Ct l G yX5_seconds cX5_seconds 3 (some .int) 4 [.ref (G.2.1 67), .ref (G.2.1 9), .int a2] m (some (.int z.1)) z.2 :=
  ct_of (K := KWi) (by decide) (Nat.le_of_ble_eq_true rfl) (congrArg (fun q => Option.bind q _) hz) (fun x hl hn E => (t_m0_seconds_67_9 E hn a2 m))
def m2_seconds_67_9 (a2 : Int32) (m : M) : Option (Int32 × M) :=
  Option.bind (d_begins (30 : Int32) m) (fun m1 => Option.bind (m0_seconds_67_9 a2 m1) (fun z2 => some ((z2.1 * (2 : Int32)), z2.2)))
set_option maxRecDepth 20000 in
theorem t_m2_seconds_67_9 {G : GG} {x : Cx} (E : En G x cX8_seconds "WreckBoard$Saver" 5 (some .int)) (hn : xn x = 3) (a2 : Int32) (m : M) : Sm G x 0 [(0, .ref (G.2.1 67)), (1, .ref (G.2.1 9)), (2, .int a2)] [] m (m2_seconds_67_9 a2 m) KWi := by
  unfold m2_seconds_67_9
  refine s_aload_n 1 E dX8_seconds_0 rfl rfl ?_
  refine s_bipush (v := (30 : Int32)) E dX8_seconds_1 (by decide) ?_
  refine s_bd (fun m1 hz => ?_)
  refine s_cV (rest := []) E (C_d_begins (xl x) G (30 : Int32) m hz) mdX2_begins W1151 W1128 W1129 W102 W1130 rfl rfl rfl rfl (Nat.le_of_ble_eq_true rfl) ⟨by decide, by decide⟩ dX8_seconds_3 ?_
  refine s_aload_n 0 E dX8_seconds_6 rfl rfl ?_
  refine s_aload_n 1 E dX8_seconds_7 rfl rfl ?_
  refine s_iload_n 2 E dX8_seconds_8 rfl rfl ?_
  refine s_bd (fun z2 hz => ?_)
  refine s_cSU (n := 2) (rest := []) E (C_m0_seconds_67_9 (xl x) G a2 m1 hz) ⟨by decide, by decide +kernel⟩ W1152 W1147 W200 W1145 W95 W1163 rfl rfl rfl rfl (Nat.le_of_ble_eq_true rfl) ⟨by decide, by decide⟩ dX8_seconds_9 ?_
  refine s_iconst (v := (2 : Int32)) E dX8_seconds_12 (by decide) ?_
  refine s_imul E dX8_seconds_13 ?_
  exact s_iret E rfl dX8_seconds_14
set_option maxRecDepth 20000 in
theorem C_m2_seconds_67_9 (l : Launch) (G : GG) (a2 : Int32) (m : M) {z : Int32 × M} (hz : m2_seconds_67_9 a2 m = some z) : Ct l G yX8_seconds cX8_seconds 3 (some .int) 5 [.ref (G.2.1 67), .ref (G.2.1 9), .int a2] m (some (.int z.1)) z.2 :=
  ct_of (K := KWi) (by decide) (Nat.le_of_ble_eq_true rfl) (congrArg (fun q => Option.bind q _) hz) (fun x hl hn E => (t_m2_seconds_67_9 E hn a2 m))
def m0_seconds_68_9 (a2 : Int32) (m : M) : Option (Int32 × M) :=
  Option.bind (d_begins (11 : Int32) m) (fun m1 => Option.bind (m0_moves_68_9 a2 m1) (fun z2 => some ((z2.1 + ((3 : Int32) * (z2.2 9 1))), z2.2)))
set_option maxRecDepth 20000 in
theorem t_m0_seconds_68_9 {G : GG} {x : Cx} (E : En G x cX5_seconds "WreckBoard$Member" 3 (some .int)) (hn : xn x = 3) (a2 : Int32) (m : M) : Sm G x 0 [(0, .ref (G.2.1 68)), (1, .ref (G.2.1 9)), (2, .int a2)] [] m (m0_seconds_68_9 a2 m) KWi := by
  unfold m0_seconds_68_9
  refine s_aload_n 1 E dX5_seconds_0 rfl rfl ?_
  refine s_bipush (v := (11 : Int32)) E dX5_seconds_1 (by decide) ?_
  refine s_bd (fun m1 hz => ?_)
  refine s_cV (rest := []) E (C_d_begins (xl x) G (11 : Int32) m hz) mdX2_begins W1143 W1128 W1129 W102 W1130 rfl rfl rfl rfl (Nat.le_of_ble_eq_true rfl) ⟨by decide, by decide⟩ dX5_seconds_3 ?_
  refine s_aload_n 0 E dX5_seconds_6 rfl rfl ?_
  refine s_aload_n 1 E dX5_seconds_7 rfl rfl ?_
  refine s_iload_n 2 E dX5_seconds_8 rfl rfl ?_
  refine s_bd (fun z2 hz => ?_)
  refine s_cU (n := 2) (rest := []) (z := ⟨"WreckBoard$Member", "moves", "(LWreckBoard$Deed;I)I"⟩) (owner := "WreckBoard$Member") E (C_m0_moves_68_9 (xl x) G a2 m1 hz) ⟨by decide, by decide, by decide +kernel⟩ W1164 W1123 W1121 W1142 W1134 W1121 W95 W1142 rfl rfl rfl rfl (Nat.le_of_ble_eq_true rfl) ⟨by decide, by decide⟩ dX5_seconds_9 ?_
  refine s_iconst (v := (3 : Int32)) E dX5_seconds_12 (by decide) ?_
  refine s_aload_n 1 E dX5_seconds_13 rfl rfl ?_
  refine s_geti (k := 1) (T := TX2) 9 E rfl rfl rfl inX2 (by decide) W339 dX5_seconds_14 ?_
  refine s_imul E dX5_seconds_17 ?_
  refine s_iadd E dX5_seconds_18 ?_
  exact s_iret E rfl dX5_seconds_19
set_option maxRecDepth 20000 in
theorem C_m0_seconds_68_9 (l : Launch) (G : GG) (a2 : Int32) (m : M) {z : Int32 × M} (hz : m0_seconds_68_9 a2 m = some z) : Ct l G yX5_seconds cX5_seconds 3 (some .int) 3 [.ref (G.2.1 68), .ref (G.2.1 9), .int a2] m (some (.int z.1)) z.2 :=
  ct_of (K := KWi) (by decide) (Nat.le_of_ble_eq_true rfl) (congrArg (fun q => Option.bind q _) hz) (fun x hl hn E => (t_m0_seconds_68_9 E hn a2 m))
def m0_seconds_69_9 (a2 : Int32) (m : M) : Option (Int32 × M) :=
  Option.bind (d_begins (11 : Int32) m) (fun m1 => Option.bind (m0_moves_69_9 a2 m1) (fun z2 => some ((z2.1 + ((3 : Int32) * (z2.2 9 1))), z2.2)))
set_option maxRecDepth 20000 in
theorem t_m0_seconds_69_9 {G : GG} {x : Cx} (E : En G x cX5_seconds "WreckBoard$Member" 3 (some .int)) (hn : xn x = 3) (a2 : Int32) (m : M) : Sm G x 0 [(0, .ref (G.2.1 69)), (1, .ref (G.2.1 9)), (2, .int a2)] [] m (m0_seconds_69_9 a2 m) KWi := by
  unfold m0_seconds_69_9
  refine s_aload_n 1 E dX5_seconds_0 rfl rfl ?_
  refine s_bipush (v := (11 : Int32)) E dX5_seconds_1 (by decide) ?_
  refine s_bd (fun m1 hz => ?_)
  refine s_cV (rest := []) E (C_d_begins (xl x) G (11 : Int32) m hz) mdX2_begins W1143 W1128 W1129 W102 W1130 rfl rfl rfl rfl (Nat.le_of_ble_eq_true rfl) ⟨by decide, by decide⟩ dX5_seconds_3 ?_
  refine s_aload_n 0 E dX5_seconds_6 rfl rfl ?_
  refine s_aload_n 1 E dX5_seconds_7 rfl rfl ?_
  refine s_iload_n 2 E dX5_seconds_8 rfl rfl ?_
  refine s_bd (fun z2 hz => ?_)
  refine s_cU (n := 2) (rest := []) (z := ⟨"WreckBoard$Member", "moves", "(LWreckBoard$Deed;I)I"⟩) (owner := "WreckBoard$Member") E (C_m0_moves_69_9 (xl x) G a2 m1 hz) ⟨by decide, by decide, by decide +kernel⟩ W1164 W1123 W1121 W1142 W1135 W1121 W95 W1142 rfl rfl rfl rfl (Nat.le_of_ble_eq_true rfl) ⟨by decide, by decide⟩ dX5_seconds_9 ?_
  refine s_iconst (v := (3 : Int32)) E dX5_seconds_12 (by decide) ?_
  refine s_aload_n 1 E dX5_seconds_13 rfl rfl ?_
  refine s_geti (k := 1) (T := TX2) 9 E rfl rfl rfl inX2 (by decide) W339 dX5_seconds_14 ?_
  refine s_imul E dX5_seconds_17 ?_
  refine s_iadd E dX5_seconds_18 ?_
  exact s_iret E rfl dX5_seconds_19
set_option maxRecDepth 20000 in
theorem C_m0_seconds_69_9 (l : Launch) (G : GG) (a2 : Int32) (m : M) {z : Int32 × M} (hz : m0_seconds_69_9 a2 m = some z) : Ct l G yX5_seconds cX5_seconds 3 (some .int) 3 [.ref (G.2.1 69), .ref (G.2.1 9), .int a2] m (some (.int z.1)) z.2 :=
  ct_of (K := KWi) (by decide) (Nat.le_of_ble_eq_true rfl) (congrArg (fun q => Option.bind q _) hz) (fun x hl hn E => (t_m0_seconds_69_9 E hn a2 m))
theorem dX4_seconds_0 : decode cX4_seconds 0 = .ok (.aload_n 1, 1) := by decide +kernel
theorem dX4_seconds_1 : decode cX4_seconds 1 = .ok (.bipush 60, 2) := by decide +kernel
theorem dX4_seconds_3 : decode cX4_seconds 3 = .ok (.invokevirtual 20, 3) := by decide +kernel
theorem dX4_seconds_6 : decode cX4_seconds 6 = .ok (.iconst 0, 1) := by decide +kernel
theorem dX4_seconds_7 : decode cX4_seconds 7 = .ok (.aload_n 0, 1) := by decide +kernel
theorem dX4_seconds_8 : decode cX4_seconds 8 = .ok (.aload_n 1, 1) := by decide +kernel
theorem dX4_seconds_9 : decode cX4_seconds 9 = .ok (.iload_n 2, 1) := by decide +kernel
theorem dX4_seconds_10 : decode cX4_seconds 10 = .ok (.invokespecial 26, 3) := by decide +kernel
theorem dX4_seconds_13 : decode cX4_seconds 13 = .ok (.isub, 1) := by decide +kernel
theorem dX4_seconds_14 : decode cX4_seconds 14 = .ok (.ireturn, 1) := by decide +kernel
def m5_seconds (a2 : Int32) (m : M) : Option (Int32 × M) :=
  Option.bind (d_begins (60 : Int32) m) (fun m1 => Option.bind (m0_seconds_69_9 a2 m1) (fun z2 => some (((0 : Int32) - z2.1), z2.2)))
set_option maxRecDepth 20000 in
theorem t_m5_seconds {G : GG} {x : Cx} (E : En G x cX4_seconds "WreckBoard$Lad" 4 (some .int)) (hn : xn x = 3) (a2 : Int32) (m : M) : Sm G x 0 [(0, .ref (G.2.1 69)), (1, .ref (G.2.1 9)), (2, .int a2)] [] m (m5_seconds a2 m) KWi := by
  unfold m5_seconds
  refine s_aload_n 1 E dX4_seconds_0 rfl rfl ?_
  refine s_bipush (v := (60 : Int32)) E dX4_seconds_1 (by decide) ?_
  refine s_bd (fun m1 hz => ?_)
  refine s_cV (rest := []) E (C_d_begins (xl x) G (60 : Int32) m hz) mdX2_begins W1157 W1128 W1129 W102 W1130 rfl rfl rfl rfl (Nat.le_of_ble_eq_true rfl) ⟨by decide, by decide⟩ dX4_seconds_3 ?_
  refine s_iconst (v := (0 : Int32)) E dX4_seconds_6 (by decide) ?_
  refine s_aload_n 0 E dX4_seconds_7 rfl rfl ?_
  refine s_aload_n 1 E dX4_seconds_8 rfl rfl ?_
  refine s_iload_n 2 E dX4_seconds_9 rfl rfl ?_
  refine s_bd (fun z2 hz => ?_)
  refine s_cSU2 (n := 2) (rest := [.int (0 : Int32)]) (z := ⟨"WreckBoard$Farmer", "seconds", "(LWreckBoard$Deed;I)I"⟩) (owner := "WreckBoard$Member") E (C_m0_seconds_69_9 (xl x) G a2 m1 hz) rfl ⟨by decide, by decide +kernel⟩ W1158 W1159 W221 W214 W1145 W95 W1163 rfl rfl rfl rfl (Nat.le_of_ble_eq_true rfl) ⟨by decide, by decide⟩ dX4_seconds_10 ?_
  refine s_isub E dX4_seconds_13 ?_
  exact s_iret E rfl dX4_seconds_14
set_option maxRecDepth 20000 in
theorem C_m5_seconds (l : Launch) (G : GG) (a2 : Int32) (m : M) {z : Int32 × M} (hz : m5_seconds a2 m = some z) : Ct l G yX4_seconds cX4_seconds 3 (some .int) 4 [.ref (G.2.1 69), .ref (G.2.1 9), .int a2] m (some (.int z.1)) z.2 :=
  ct_of (K := KWi) (by decide) (Nat.le_of_ble_eq_true rfl) (congrArg (fun q => Option.bind q _) hz) (fun x hl hn E => (t_m5_seconds E hn a2 m))
def vd_seconds (p : Nat) (a2 : Int32) (m : M) : Option (Int32 × M) :=
  if p = 64 then m0_seconds a2 m else if p = 65 then m0_seconds_65_9 a2 m else if p = 66 then m2_seconds a2 m else if p = 67 then m2_seconds_67_9 a2 m else if p = 68 then m0_seconds_68_9 a2 m else if p = 69 then m5_seconds a2 m else none
theorem D_vd_seconds {α : Type} {G : GG} {x : Cx} {cc : ByteArray} {own : String} {lev : Nat} {ret : Option FieldType} {pc : Nat} {lv : List (Nat × Value)} {m : M} {o : Option α} {K : α → Option (Option Value × M)} {index : Nat} (rest : List Value) (E : En G x cc own lev ret) (p : Nat) (a2 : Int32) {z : Int32 × M} (hz : vd_seconds p a2 m = some z) (hl : Cond.methodLink own index ({ cls := "WreckBoard$Member", name := "seconds", desc := "(LWreckBoard$Deed;I)I" } : MethodName) ∈ gw) (hroom : (rest.map fun v => v.category).sum ≤ 8) (hlev : 5 + 1 ≤ lev) (d : decode cc pc = .ok (.invokevirtual index, 3)) (k : Sm G x (pc + 3) lv ((.int z.1) :: rest) z.2 o K) : Sm G x pc lv (.int a2 :: .ref (G.2.1 9) :: .ref (G.2.1 p) :: rest) m o K := by
  unfold vd_seconds at hz
  by_cases h : p = 64
  · rw [if_pos h] at hz
    subst h
    exact s_cU (n := 2) (rest := rest) (z := ⟨"WreckBoard$Member", "seconds", "(LWreckBoard$Deed;I)I"⟩) (owner := "WreckBoard$Member") E (C_m0_seconds (xl x) G a2 m hz) ⟨by decide, by decide, by decide +kernel⟩ hl W1147 W1145 W1163 W1146 W1145 W95 W1163 rfl rfl rfl rfl hroom ⟨by omega, by omega⟩ d k
  rw [if_neg h] at hz
  clear h
  by_cases h : p = 65
  · rw [if_pos h] at hz
    subst h
    exact s_cU (n := 2) (rest := rest) (z := ⟨"WreckBoard$Member", "seconds", "(LWreckBoard$Deed;I)I"⟩) (owner := "WreckBoard$Member") E (C_m0_seconds_65_9 (xl x) G a2 m hz) ⟨by decide, by decide, by decide +kernel⟩ hl W1147 W1145 W1163 W1162 W1145 W95 W1163 rfl rfl rfl rfl hroom ⟨by omega, by omega⟩ d k
  rw [if_neg h] at hz
  clear h
  by_cases h : p = 66
  · rw [if_pos h] at hz
    subst h
    exact s_cU (n := 2) (rest := rest) (z := ⟨"WreckBoard$Member", "seconds", "(LWreckBoard$Deed;I)I"⟩) (owner := "WreckBoard$Member") E (C_m2_seconds (xl x) G a2 m hz) ⟨by decide, by decide, by decide +kernel⟩ hl W1147 W1145 W1163 W1161 W1149 W97 W1150 rfl rfl rfl rfl hroom ⟨by omega, by omega⟩ d k
  rw [if_neg h] at hz
  clear h
  by_cases h : p = 67
  · rw [if_pos h] at hz
    subst h
    exact s_cU (n := 2) (rest := rest) (z := ⟨"WreckBoard$Member", "seconds", "(LWreckBoard$Deed;I)I"⟩) (owner := "WreckBoard$Member") E (C_m2_seconds_67_9 (xl x) G a2 m hz) ⟨by decide, by decide, by decide +kernel⟩ hl W1147 W1145 W1163 W1148 W1149 W97 W1150 rfl rfl rfl rfl hroom ⟨by omega, by omega⟩ d k
  rw [if_neg h] at hz
  clear h
  by_cases h : p = 68
  · rw [if_pos h] at hz
    subst h
    exact s_cU (n := 2) (rest := rest) (z := ⟨"WreckBoard$Member", "seconds", "(LWreckBoard$Deed;I)I"⟩) (owner := "WreckBoard$Member") E (C_m0_seconds_68_9 (xl x) G a2 m hz) ⟨by decide, by decide, by decide +kernel⟩ hl W1147 W1145 W1163 W1153 W1145 W95 W1163 rfl rfl rfl rfl hroom ⟨by omega, by omega⟩ d k
  rw [if_neg h] at hz
  clear h
  by_cases h : p = 69
  · rw [if_pos h] at hz
    subst h
    exact s_cU (n := 2) (rest := rest) (z := ⟨"WreckBoard$Member", "seconds", "(LWreckBoard$Deed;I)I"⟩) (owner := "WreckBoard$Member") E (C_m5_seconds (xl x) G a2 m hz) ⟨by decide, by decide, by decide +kernel⟩ hl W1147 W1145 W1163 W1154 W1155 W100 W1156 rfl rfl rfl rfl hroom ⟨by omega, by omega⟩ d k
  rw [if_neg h] at hz
  clear h
  cases hz
theorem dX5_counts_0 : decode cX5_counts 0 = .ok (.aload_n 1, 1) := by decide +kernel
theorem dX5_counts_1 : decode cX5_counts 1 = .ok (.bipush 12, 2) := by decide +kernel
theorem dX5_counts_3 : decode cX5_counts 3 = .ok (.invokevirtual 7, 3) := by decide +kernel
theorem dX5_counts_6 : decode cX5_counts 6 = .ok (.aload_n 1, 1) := by decide +kernel
theorem dX5_counts_7 : decode cX5_counts 7 = .ok (.getfield 13, 3) := by decide +kernel
theorem dX5_counts_10 : decode cX5_counts 10 = .ok (.aload_n 1, 1) := by decide +kernel
theorem dX5_counts_11 : decode cX5_counts 11 = .ok (.getfield 23, 3) := by decide +kernel
theorem dX5_counts_14 : decode cX5_counts 14 = .ok (.iadd, 1) := by decide +kernel
theorem dX5_counts_15 : decode cX5_counts 15 = .ok (.iconst 4, 1) := by decide +kernel
theorem dX5_counts_16 : decode cX5_counts 16 = .ok (.isub, 1) := by decide +kernel
theorem dX5_counts_17 : decode cX5_counts 17 = .ok (.istore_n 3, 1) := by decide +kernel
theorem dX5_counts_18 : decode cX5_counts 18 = .ok (.iload_n 3, 1) := by decide +kernel
theorem dX5_counts_19 : decode cX5_counts 19 = .ok (.ifCond .ne 10, 3) := by decide +kernel
theorem dX5_counts_22 : decode cX5_counts 22 = .ok (.aload_n 1, 1) := by decide +kernel
theorem dX5_counts_23 : decode cX5_counts 23 = .ok (.iconst 1, 1) := by decide +kernel
theorem dX5_counts_24 : decode cX5_counts 24 = .ok (.putfield 26, 3) := by decide +kernel
theorem dX5_counts_27 : decode cX5_counts 27 = .ok (.iconst 0, 1) := by decide +kernel
theorem dX5_counts_28 : decode cX5_counts 28 = .ok (.ireturn, 1) := by decide +kernel
theorem dX5_counts_29 : decode cX5_counts 29 = .ok (.iload_n 2, 1) := by decide +kernel
theorem dX5_counts_30 : decode cX5_counts 30 = .ok (.iload_n 3, 1) := by decide +kernel
theorem dX5_counts_31 : decode cX5_counts 31 = .ok (.irem, 1) := by decide +kernel
theorem dX5_counts_32 : decode cX5_counts 32 = .ok (.ireturn, 1) := by decide +kernel
def m0_counts (a2 : Int32) (m : M) : Option (Int32 × M) :=
  Option.bind (d_begins (12 : Int32) m) (fun m1 => lt (((m1 9 0) + (m1 9 1)) - (4 : Int32)) (fun w2 : Int32 => (if w2 = 0 then lt (wrF m1 9 2 (1 : Int32)) (fun m4 => some ((0 : Int32), m4)) else Option.bind (rmI a2 w2) (fun q3 => some (q3, m1)))))
set_option maxRecDepth 20000 in
theorem t_m0_counts {G : GG} {x : Cx} (E : En G x cX5_counts "WreckBoard$Member" 2 (some .int)) (hn : xn x = 4) (a2 : Int32) (m : M) : Sm G x 0 [(1, .ref (G.2.1 9)), (2, .int a2)] [] m (m0_counts a2 m) KWi := by
  unfold m0_counts
  refine s_aload_n 0 E dX5_counts_0 rfl rfl ?_
  refine s_bipush (v := (12 : Int32)) E dX5_counts_1 (by decide) ?_
  refine s_bd (fun m1 hz => ?_)
  refine s_cV (rest := []) E (C_d_begins (xl x) G (12 : Int32) m hz) mdX2_begins W1143 W1128 W1129 W102 W1130 rfl rfl rfl rfl (Nat.le_of_ble_eq_true rfl) ⟨by decide, by decide⟩ dX5_counts_3 ?_
  refine s_aload_n 0 E dX5_counts_6 rfl rfl ?_
  refine s_geti (k := 0) (T := TX2) 9 E rfl rfl rfl inX2 (by decide) W336 dX5_counts_7 ?_
  refine s_aload_n 0 E dX5_counts_10 rfl rfl ?_
  refine s_geti (k := 1) (T := TX2) 9 E rfl rfl rfl inX2 (by decide) W339 dX5_counts_11 ?_
  refine s_iadd E dX5_counts_14 ?_
  refine s_iconst (v := (4 : Int32)) E dX5_counts_15 (by decide) ?_
  refine s_isub E dX5_counts_16 ?_
  refine s_lt (fun w2 => [(1, .ref (G.2.1 9)), (2, .int a2)]) (fun w2 => [.int w2]) rfl rfl (fun w2 => ?_)
  refine s_istore_n (lv' := [(1, .ref (G.2.1 9)), (2, .int a2), (3, .int w2)]) [1, 2, 0] E dX5_counts_17 rfl (by rw [hn]; decide) rfl ?_
  refine s_iload_n 2 E dX5_counts_18 rfl rfl ?_
  refine s_if_ne 29 E dX5_counts_19 (by decide) ?_ ?_
  · refine s_iload_n 1 E dX5_counts_29 rfl rfl ?_
    refine s_iload_n 2 E dX5_counts_30 rfl rfl ?_
    refine s_irem E dX5_counts_31 (fun q3 => ?_)
    exact s_iret E rfl dX5_counts_32
  · refine s_aload_n 0 E dX5_counts_22 rfl rfl ?_
    refine s_iconst (v := (1 : Int32)) E dX5_counts_23 (by decide) ?_
    refine s_put (k := 2) (T := TX2) (ty := .boolean) 9 E rfl rfl rfl inX2 tyX2 tyX2_ok nmX2 (by decide) W343 rfl (by decide +kernel) (by decide) (by decide) dX5_counts_24 ?_
    refine s_ltm rfl (fun m4 => ?_)
    refine s_iconst (v := (0 : Int32)) E dX5_counts_27 (by decide) ?_
    exact s_iret E rfl dX5_counts_28
set_option maxRecDepth 20000 in
theorem C_m0_counts (l : Launch) (G : GG) (a2 : Int32) (m : M) {z : Int32 × M} (hz : m0_counts a2 m = some z) : Ct l G yX5_counts cX5_counts 4 (some .int) 2 [.ref (G.2.1 64), .ref (G.2.1 9), .int a2] m (some (.int z.1)) z.2 :=
  ct_of (K := KWi) (by decide) (Nat.le_of_ble_eq_true rfl) (congrArg (fun q => Option.bind q _) hz) (fun x hl hn E => s_sub [1, 2] rfl (t_m0_counts E hn a2 m))
def m0_counts_65_9 (a2 : Int32) (m : M) : Option (Int32 × M) :=
  Option.bind (d_begins (12 : Int32) m) (fun m1 => lt (((m1 9 0) + (m1 9 1)) - (4 : Int32)) (fun w2 : Int32 => (if w2 = 0 then lt (wrF m1 9 2 (1 : Int32)) (fun m4 => some ((0 : Int32), m4)) else Option.bind (rmI a2 w2) (fun q3 => some (q3, m1)))))
set_option maxRecDepth 20000 in
theorem t_m0_counts_65_9 {G : GG} {x : Cx} (E : En G x cX5_counts "WreckBoard$Member" 2 (some .int)) (hn : xn x = 4) (a2 : Int32) (m : M) : Sm G x 0 [(1, .ref (G.2.1 9)), (2, .int a2)] [] m (m0_counts_65_9 a2 m) KWi := by
  unfold m0_counts_65_9
  refine s_aload_n 0 E dX5_counts_0 rfl rfl ?_
  refine s_bipush (v := (12 : Int32)) E dX5_counts_1 (by decide) ?_
  refine s_bd (fun m1 hz => ?_)
  refine s_cV (rest := []) E (C_d_begins (xl x) G (12 : Int32) m hz) mdX2_begins W1143 W1128 W1129 W102 W1130 rfl rfl rfl rfl (Nat.le_of_ble_eq_true rfl) ⟨by decide, by decide⟩ dX5_counts_3 ?_
  refine s_aload_n 0 E dX5_counts_6 rfl rfl ?_
  refine s_geti (k := 0) (T := TX2) 9 E rfl rfl rfl inX2 (by decide) W336 dX5_counts_7 ?_
  refine s_aload_n 0 E dX5_counts_10 rfl rfl ?_
  refine s_geti (k := 1) (T := TX2) 9 E rfl rfl rfl inX2 (by decide) W339 dX5_counts_11 ?_
  refine s_iadd E dX5_counts_14 ?_
  refine s_iconst (v := (4 : Int32)) E dX5_counts_15 (by decide) ?_
  refine s_isub E dX5_counts_16 ?_
  refine s_lt (fun w2 => [(1, .ref (G.2.1 9)), (2, .int a2)]) (fun w2 => [.int w2]) rfl rfl (fun w2 => ?_)
  refine s_istore_n (lv' := [(1, .ref (G.2.1 9)), (2, .int a2), (3, .int w2)]) [1, 2, 0] E dX5_counts_17 rfl (by rw [hn]; decide) rfl ?_
  refine s_iload_n 2 E dX5_counts_18 rfl rfl ?_
  refine s_if_ne 29 E dX5_counts_19 (by decide) ?_ ?_
  · refine s_iload_n 1 E dX5_counts_29 rfl rfl ?_
    refine s_iload_n 2 E dX5_counts_30 rfl rfl ?_
    refine s_irem E dX5_counts_31 (fun q3 => ?_)
    exact s_iret E rfl dX5_counts_32
  · refine s_aload_n 0 E dX5_counts_22 rfl rfl ?_
    refine s_iconst (v := (1 : Int32)) E dX5_counts_23 (by decide) ?_
    refine s_put (k := 2) (T := TX2) (ty := .boolean) 9 E rfl rfl rfl inX2 tyX2 tyX2_ok nmX2 (by decide) W343 rfl (by decide +kernel) (by decide) (by decide) dX5_counts_24 ?_
    refine s_ltm rfl (fun m4 => ?_)
    refine s_iconst (v := (0 : Int32)) E dX5_counts_27 (by decide) ?_
    exact s_iret E rfl dX5_counts_28
set_option maxRecDepth 20000 in
theorem C_m0_counts_65_9 (l : Launch) (G : GG) (a2 : Int32) (m : M) {z : Int32 × M} (hz : m0_counts_65_9 a2 m = some z) : Ct l G yX5_counts cX5_counts 4 (some .int) 2 [.ref (G.2.1 65), .ref (G.2.1 9), .int a2] m (some (.int z.1)) z.2 :=
  ct_of (K := KWi) (by decide) (Nat.le_of_ble_eq_true rfl) (congrArg (fun q => Option.bind q _) hz) (fun x hl hn E => s_sub [1, 2] rfl (t_m0_counts_65_9 E hn a2 m))
def m0_counts_66_9 (a2 : Int32) (m : M) : Option (Int32 × M) :=
  Option.bind (d_begins (12 : Int32) m) (fun m1 => lt (((m1 9 0) + (m1 9 1)) - (4 : Int32)) (fun w2 : Int32 => (if w2 = 0 then lt (wrF m1 9 2 (1 : Int32)) (fun m4 => some ((0 : Int32), m4)) else Option.bind (rmI a2 w2) (fun q3 => some (q3, m1)))))
set_option maxRecDepth 20000 in
theorem t_m0_counts_66_9 {G : GG} {x : Cx} (E : En G x cX5_counts "WreckBoard$Member" 2 (some .int)) (hn : xn x = 4) (a2 : Int32) (m : M) : Sm G x 0 [(1, .ref (G.2.1 9)), (2, .int a2)] [] m (m0_counts_66_9 a2 m) KWi := by
  unfold m0_counts_66_9
  refine s_aload_n 0 E dX5_counts_0 rfl rfl ?_
  refine s_bipush (v := (12 : Int32)) E dX5_counts_1 (by decide) ?_
  refine s_bd (fun m1 hz => ?_)
  refine s_cV (rest := []) E (C_d_begins (xl x) G (12 : Int32) m hz) mdX2_begins W1143 W1128 W1129 W102 W1130 rfl rfl rfl rfl (Nat.le_of_ble_eq_true rfl) ⟨by decide, by decide⟩ dX5_counts_3 ?_
  refine s_aload_n 0 E dX5_counts_6 rfl rfl ?_
  refine s_geti (k := 0) (T := TX2) 9 E rfl rfl rfl inX2 (by decide) W336 dX5_counts_7 ?_
  refine s_aload_n 0 E dX5_counts_10 rfl rfl ?_
  refine s_geti (k := 1) (T := TX2) 9 E rfl rfl rfl inX2 (by decide) W339 dX5_counts_11 ?_
  refine s_iadd E dX5_counts_14 ?_
  refine s_iconst (v := (4 : Int32)) E dX5_counts_15 (by decide) ?_
  refine s_isub E dX5_counts_16 ?_
  refine s_lt (fun w2 => [(1, .ref (G.2.1 9)), (2, .int a2)]) (fun w2 => [.int w2]) rfl rfl (fun w2 => ?_)
  refine s_istore_n (lv' := [(1, .ref (G.2.1 9)), (2, .int a2), (3, .int w2)]) [1, 2, 0] E dX5_counts_17 rfl (by rw [hn]; decide) rfl ?_
  refine s_iload_n 2 E dX5_counts_18 rfl rfl ?_
  refine s_if_ne 29 E dX5_counts_19 (by decide) ?_ ?_
  · refine s_iload_n 1 E dX5_counts_29 rfl rfl ?_
    refine s_iload_n 2 E dX5_counts_30 rfl rfl ?_
    refine s_irem E dX5_counts_31 (fun q3 => ?_)
    exact s_iret E rfl dX5_counts_32
  · refine s_aload_n 0 E dX5_counts_22 rfl rfl ?_
    refine s_iconst (v := (1 : Int32)) E dX5_counts_23 (by decide) ?_
    refine s_put (k := 2) (T := TX2) (ty := .boolean) 9 E rfl rfl rfl inX2 tyX2 tyX2_ok nmX2 (by decide) W343 rfl (by decide +kernel) (by decide) (by decide) dX5_counts_24 ?_
    refine s_ltm rfl (fun m4 => ?_)
    refine s_iconst (v := (0 : Int32)) E dX5_counts_27 (by decide) ?_
    exact s_iret E rfl dX5_counts_28
set_option maxRecDepth 20000 in
theorem C_m0_counts_66_9 (l : Launch) (G : GG) (a2 : Int32) (m : M) {z : Int32 × M} (hz : m0_counts_66_9 a2 m = some z) : Ct l G yX5_counts cX5_counts 4 (some .int) 2 [.ref (G.2.1 66), .ref (G.2.1 9), .int a2] m (some (.int z.1)) z.2 :=
  ct_of (K := KWi) (by decide) (Nat.le_of_ble_eq_true rfl) (congrArg (fun q => Option.bind q _) hz) (fun x hl hn E => s_sub [1, 2] rfl (t_m0_counts_66_9 E hn a2 m))
def m0_counts_67_9 (a2 : Int32) (m : M) : Option (Int32 × M) :=
  Option.bind (d_begins (12 : Int32) m) (fun m1 => lt (((m1 9 0) + (m1 9 1)) - (4 : Int32)) (fun w2 : Int32 => (if w2 = 0 then lt (wrF m1 9 2 (1 : Int32)) (fun m4 => some ((0 : Int32), m4)) else Option.bind (rmI a2 w2) (fun q3 => some (q3, m1)))))
set_option maxRecDepth 20000 in
theorem t_m0_counts_67_9 {G : GG} {x : Cx} (E : En G x cX5_counts "WreckBoard$Member" 2 (some .int)) (hn : xn x = 4) (a2 : Int32) (m : M) : Sm G x 0 [(1, .ref (G.2.1 9)), (2, .int a2)] [] m (m0_counts_67_9 a2 m) KWi := by
  unfold m0_counts_67_9
  refine s_aload_n 0 E dX5_counts_0 rfl rfl ?_
  refine s_bipush (v := (12 : Int32)) E dX5_counts_1 (by decide) ?_
  refine s_bd (fun m1 hz => ?_)
  refine s_cV (rest := []) E (C_d_begins (xl x) G (12 : Int32) m hz) mdX2_begins W1143 W1128 W1129 W102 W1130 rfl rfl rfl rfl (Nat.le_of_ble_eq_true rfl) ⟨by decide, by decide⟩ dX5_counts_3 ?_
  refine s_aload_n 0 E dX5_counts_6 rfl rfl ?_
  refine s_geti (k := 0) (T := TX2) 9 E rfl rfl rfl inX2 (by decide) W336 dX5_counts_7 ?_
  refine s_aload_n 0 E dX5_counts_10 rfl rfl ?_
  refine s_geti (k := 1) (T := TX2) 9 E rfl rfl rfl inX2 (by decide) W339 dX5_counts_11 ?_
  refine s_iadd E dX5_counts_14 ?_
  refine s_iconst (v := (4 : Int32)) E dX5_counts_15 (by decide) ?_
  refine s_isub E dX5_counts_16 ?_
  refine s_lt (fun w2 => [(1, .ref (G.2.1 9)), (2, .int a2)]) (fun w2 => [.int w2]) rfl rfl (fun w2 => ?_)
  refine s_istore_n (lv' := [(1, .ref (G.2.1 9)), (2, .int a2), (3, .int w2)]) [1, 2, 0] E dX5_counts_17 rfl (by rw [hn]; decide) rfl ?_
  refine s_iload_n 2 E dX5_counts_18 rfl rfl ?_
  refine s_if_ne 29 E dX5_counts_19 (by decide) ?_ ?_
  · refine s_iload_n 1 E dX5_counts_29 rfl rfl ?_
    refine s_iload_n 2 E dX5_counts_30 rfl rfl ?_
    refine s_irem E dX5_counts_31 (fun q3 => ?_)
    exact s_iret E rfl dX5_counts_32
  · refine s_aload_n 0 E dX5_counts_22 rfl rfl ?_
    refine s_iconst (v := (1 : Int32)) E dX5_counts_23 (by decide) ?_
    refine s_put (k := 2) (T := TX2) (ty := .boolean) 9 E rfl rfl rfl inX2 tyX2 tyX2_ok nmX2 (by decide) W343 rfl (by decide +kernel) (by decide) (by decide) dX5_counts_24 ?_
    refine s_ltm rfl (fun m4 => ?_)
    refine s_iconst (v := (0 : Int32)) E dX5_counts_27 (by decide) ?_
    exact s_iret E rfl dX5_counts_28
set_option maxRecDepth 20000 in
theorem C_m0_counts_67_9 (l : Launch) (G : GG) (a2 : Int32) (m : M) {z : Int32 × M} (hz : m0_counts_67_9 a2 m = some z) : Ct l G yX5_counts cX5_counts 4 (some .int) 2 [.ref (G.2.1 67), .ref (G.2.1 9), .int a2] m (some (.int z.1)) z.2 :=
  ct_of (K := KWi) (by decide) (Nat.le_of_ble_eq_true rfl) (congrArg (fun q => Option.bind q _) hz) (fun x hl hn E => s_sub [1, 2] rfl (t_m0_counts_67_9 E hn a2 m))
def m0_counts_68_9 (a2 : Int32) (m : M) : Option (Int32 × M) :=
  Option.bind (d_begins (12 : Int32) m) (fun m1 => lt (((m1 9 0) + (m1 9 1)) - (4 : Int32)) (fun w2 : Int32 => (if w2 = 0 then lt (wrF m1 9 2 (1 : Int32)) (fun m4 => some ((0 : Int32), m4)) else Option.bind (rmI a2 w2) (fun q3 => some (q3, m1)))))
set_option maxRecDepth 20000 in
theorem t_m0_counts_68_9 {G : GG} {x : Cx} (E : En G x cX5_counts "WreckBoard$Member" 2 (some .int)) (hn : xn x = 4) (a2 : Int32) (m : M) : Sm G x 0 [(1, .ref (G.2.1 9)), (2, .int a2)] [] m (m0_counts_68_9 a2 m) KWi := by
  unfold m0_counts_68_9
  refine s_aload_n 0 E dX5_counts_0 rfl rfl ?_
  refine s_bipush (v := (12 : Int32)) E dX5_counts_1 (by decide) ?_
  refine s_bd (fun m1 hz => ?_)
  refine s_cV (rest := []) E (C_d_begins (xl x) G (12 : Int32) m hz) mdX2_begins W1143 W1128 W1129 W102 W1130 rfl rfl rfl rfl (Nat.le_of_ble_eq_true rfl) ⟨by decide, by decide⟩ dX5_counts_3 ?_
  refine s_aload_n 0 E dX5_counts_6 rfl rfl ?_
  refine s_geti (k := 0) (T := TX2) 9 E rfl rfl rfl inX2 (by decide) W336 dX5_counts_7 ?_
  refine s_aload_n 0 E dX5_counts_10 rfl rfl ?_
  refine s_geti (k := 1) (T := TX2) 9 E rfl rfl rfl inX2 (by decide) W339 dX5_counts_11 ?_
  refine s_iadd E dX5_counts_14 ?_
  refine s_iconst (v := (4 : Int32)) E dX5_counts_15 (by decide) ?_
  refine s_isub E dX5_counts_16 ?_
  refine s_lt (fun w2 => [(1, .ref (G.2.1 9)), (2, .int a2)]) (fun w2 => [.int w2]) rfl rfl (fun w2 => ?_)
  refine s_istore_n (lv' := [(1, .ref (G.2.1 9)), (2, .int a2), (3, .int w2)]) [1, 2, 0] E dX5_counts_17 rfl (by rw [hn]; decide) rfl ?_
  refine s_iload_n 2 E dX5_counts_18 rfl rfl ?_
  refine s_if_ne 29 E dX5_counts_19 (by decide) ?_ ?_
  · refine s_iload_n 1 E dX5_counts_29 rfl rfl ?_
    refine s_iload_n 2 E dX5_counts_30 rfl rfl ?_
    refine s_irem E dX5_counts_31 (fun q3 => ?_)
    exact s_iret E rfl dX5_counts_32
  · refine s_aload_n 0 E dX5_counts_22 rfl rfl ?_
    refine s_iconst (v := (1 : Int32)) E dX5_counts_23 (by decide) ?_
    refine s_put (k := 2) (T := TX2) (ty := .boolean) 9 E rfl rfl rfl inX2 tyX2 tyX2_ok nmX2 (by decide) W343 rfl (by decide +kernel) (by decide) (by decide) dX5_counts_24 ?_
    refine s_ltm rfl (fun m4 => ?_)
    refine s_iconst (v := (0 : Int32)) E dX5_counts_27 (by decide) ?_
    exact s_iret E rfl dX5_counts_28
set_option maxRecDepth 20000 in
theorem C_m0_counts_68_9 (l : Launch) (G : GG) (a2 : Int32) (m : M) {z : Int32 × M} (hz : m0_counts_68_9 a2 m = some z) : Ct l G yX5_counts cX5_counts 4 (some .int) 2 [.ref (G.2.1 68), .ref (G.2.1 9), .int a2] m (some (.int z.1)) z.2 :=
  ct_of (K := KWi) (by decide) (Nat.le_of_ble_eq_true rfl) (congrArg (fun q => Option.bind q _) hz) (fun x hl hn E => s_sub [1, 2] rfl (t_m0_counts_68_9 E hn a2 m))
theorem mdX5_counts : mdq yX5_counts 2 := ⟨by decide, by decide, by decide +kernel⟩
theorem dX3_counts_0 : decode cX3_counts 0 = .ok (.aload_n 1, 1) := by decide +kernel
theorem dX3_counts_1 : decode cX3_counts 1 = .ok (.bipush 40, 2) := by decide +kernel
theorem dX3_counts_3 : decode cX3_counts 3 = .ok (.invokevirtual 15, 3) := by decide +kernel
theorem dX3_counts_6 : decode cX3_counts 6 = .ok (.aload_n 0, 1) := by decide +kernel
theorem dX3_counts_7 : decode cX3_counts 7 = .ok (.aload_n 1, 1) := by decide +kernel
theorem dX3_counts_8 : decode cX3_counts 8 = .ok (.iload_n 2, 1) := by decide +kernel
theorem dX3_counts_9 : decode cX3_counts 9 = .ok (.invokespecial 21, 3) := by decide +kernel
theorem dX3_counts_12 : decode cX3_counts 12 = .ok (.iconst 1, 1) := by decide +kernel
theorem dX3_counts_13 : decode cX3_counts 13 = .ok (.iadd, 1) := by decide +kernel
theorem dX3_counts_14 : decode cX3_counts 14 = .ok (.ireturn, 1) := by decide +kernel
def m4_counts (a2 : Int32) (m : M) : Option (Int32 × M) :=
  Option.bind (d_begins (40 : Int32) m) (fun m1 => Option.bind (m0_counts_68_9 a2 m1) (fun z2 => some ((z2.1 + (1 : Int32)), z2.2)))
set_option maxRecDepth 20000 in
theorem t_m4_counts {G : GG} {x : Cx} (E : En G x cX3_counts "WreckBoard$Farmer" 3 (some .int)) (hn : xn x = 3) (a2 : Int32) (m : M) : Sm G x 0 [(0, .ref (G.2.1 68)), (1, .ref (G.2.1 9)), (2, .int a2)] [] m (m4_counts a2 m) KWi := by
  unfold m4_counts
  refine s_aload_n 1 E dX3_counts_0 rfl rfl ?_
  refine s_bipush (v := (40 : Int32)) E dX3_counts_1 (by decide) ?_
  refine s_bd (fun m1 hz => ?_)
  refine s_cV (rest := []) E (C_d_begins (xl x) G (40 : Int32) m hz) mdX2_begins W1173 W1128 W1129 W102 W1130 rfl rfl rfl rfl (Nat.le_of_ble_eq_true rfl) ⟨by decide, by decide⟩ dX3_counts_3 ?_
  refine s_aload_n 0 E dX3_counts_6 rfl rfl ?_
  refine s_aload_n 1 E dX3_counts_7 rfl rfl ?_
  refine s_iload_n 2 E dX3_counts_8 rfl rfl ?_
  refine s_bd (fun z2 hz => ?_)
  refine s_cSU (n := 2) (rest := []) E (C_m0_counts_68_9 (xl x) G a2 m1 hz) ⟨by decide, by decide +kernel⟩ W1174 W1168 W214 W1166 W95 W1184 rfl rfl rfl rfl (Nat.le_of_ble_eq_true rfl) ⟨by decide, by decide⟩ dX3_counts_9 ?_
  refine s_iconst (v := (1 : Int32)) E dX3_counts_12 (by decide) ?_
  refine s_iadd E dX3_counts_13 ?_
  exact s_iret E rfl dX3_counts_14
set_option maxRecDepth 20000 in
theorem C_m4_counts (l : Launch) (G : GG) (a2 : Int32) (m : M) {z : Int32 × M} (hz : m4_counts a2 m = some z) : Ct l G yX3_counts cX3_counts 3 (some .int) 3 [.ref (G.2.1 68), .ref (G.2.1 9), .int a2] m (some (.int z.1)) z.2 :=
  ct_of (K := KWi) (by decide) (Nat.le_of_ble_eq_true rfl) (congrArg (fun q => Option.bind q _) hz) (fun x hl hn E => (t_m4_counts E hn a2 m))
def m0_counts_69_9 (a2 : Int32) (m : M) : Option (Int32 × M) :=
  Option.bind (d_begins (12 : Int32) m) (fun m1 => lt (((m1 9 0) + (m1 9 1)) - (4 : Int32)) (fun w2 : Int32 => (if w2 = 0 then lt (wrF m1 9 2 (1 : Int32)) (fun m4 => some ((0 : Int32), m4)) else Option.bind (rmI a2 w2) (fun q3 => some (q3, m1)))))
set_option maxRecDepth 20000 in
theorem t_m0_counts_69_9 {G : GG} {x : Cx} (E : En G x cX5_counts "WreckBoard$Member" 2 (some .int)) (hn : xn x = 4) (a2 : Int32) (m : M) : Sm G x 0 [(1, .ref (G.2.1 9)), (2, .int a2)] [] m (m0_counts_69_9 a2 m) KWi := by
  unfold m0_counts_69_9
  refine s_aload_n 0 E dX5_counts_0 rfl rfl ?_
  refine s_bipush (v := (12 : Int32)) E dX5_counts_1 (by decide) ?_
  refine s_bd (fun m1 hz => ?_)
  refine s_cV (rest := []) E (C_d_begins (xl x) G (12 : Int32) m hz) mdX2_begins W1143 W1128 W1129 W102 W1130 rfl rfl rfl rfl (Nat.le_of_ble_eq_true rfl) ⟨by decide, by decide⟩ dX5_counts_3 ?_
  refine s_aload_n 0 E dX5_counts_6 rfl rfl ?_
  refine s_geti (k := 0) (T := TX2) 9 E rfl rfl rfl inX2 (by decide) W336 dX5_counts_7 ?_
  refine s_aload_n 0 E dX5_counts_10 rfl rfl ?_
  refine s_geti (k := 1) (T := TX2) 9 E rfl rfl rfl inX2 (by decide) W339 dX5_counts_11 ?_
  refine s_iadd E dX5_counts_14 ?_
  refine s_iconst (v := (4 : Int32)) E dX5_counts_15 (by decide) ?_
  refine s_isub E dX5_counts_16 ?_
  refine s_lt (fun w2 => [(1, .ref (G.2.1 9)), (2, .int a2)]) (fun w2 => [.int w2]) rfl rfl (fun w2 => ?_)
  refine s_istore_n (lv' := [(1, .ref (G.2.1 9)), (2, .int a2), (3, .int w2)]) [1, 2, 0] E dX5_counts_17 rfl (by rw [hn]; decide) rfl ?_
  refine s_iload_n 2 E dX5_counts_18 rfl rfl ?_
  refine s_if_ne 29 E dX5_counts_19 (by decide) ?_ ?_
  · refine s_iload_n 1 E dX5_counts_29 rfl rfl ?_
    refine s_iload_n 2 E dX5_counts_30 rfl rfl ?_
    refine s_irem E dX5_counts_31 (fun q3 => ?_)
    exact s_iret E rfl dX5_counts_32
  · refine s_aload_n 0 E dX5_counts_22 rfl rfl ?_
    refine s_iconst (v := (1 : Int32)) E dX5_counts_23 (by decide) ?_
    refine s_put (k := 2) (T := TX2) (ty := .boolean) 9 E rfl rfl rfl inX2 tyX2 tyX2_ok nmX2 (by decide) W343 rfl (by decide +kernel) (by decide) (by decide) dX5_counts_24 ?_
    refine s_ltm rfl (fun m4 => ?_)
    refine s_iconst (v := (0 : Int32)) E dX5_counts_27 (by decide) ?_
    exact s_iret E rfl dX5_counts_28
set_option maxRecDepth 20000 in
theorem C_m0_counts_69_9 (l : Launch) (G : GG) (a2 : Int32) (m : M) {z : Int32 × M} (hz : m0_counts_69_9 a2 m = some z) : Ct l G yX5_counts cX5_counts 4 (some .int) 2 [.ref (G.2.1 69), .ref (G.2.1 9), .int a2] m (some (.int z.1)) z.2 :=
  ct_of (K := KWi) (by decide) (Nat.le_of_ble_eq_true rfl) (congrArg (fun q => Option.bind q _) hz) (fun x hl hn E => s_sub [1, 2] rfl (t_m0_counts_69_9 E hn a2 m))
def m4_counts_69_9 (a2 : Int32) (m : M) : Option (Int32 × M) :=
  Option.bind (d_begins (40 : Int32) m) (fun m1 => Option.bind (m0_counts_69_9 a2 m1) (fun z2 => some ((z2.1 + (1 : Int32)), z2.2)))
set_option maxRecDepth 20000 in
theorem t_m4_counts_69_9 {G : GG} {x : Cx} (E : En G x cX3_counts "WreckBoard$Farmer" 3 (some .int)) (hn : xn x = 3) (a2 : Int32) (m : M) : Sm G x 0 [(0, .ref (G.2.1 69)), (1, .ref (G.2.1 9)), (2, .int a2)] [] m (m4_counts_69_9 a2 m) KWi := by
  unfold m4_counts_69_9
  refine s_aload_n 1 E dX3_counts_0 rfl rfl ?_
  refine s_bipush (v := (40 : Int32)) E dX3_counts_1 (by decide) ?_
  refine s_bd (fun m1 hz => ?_)
  refine s_cV (rest := []) E (C_d_begins (xl x) G (40 : Int32) m hz) mdX2_begins W1173 W1128 W1129 W102 W1130 rfl rfl rfl rfl (Nat.le_of_ble_eq_true rfl) ⟨by decide, by decide⟩ dX3_counts_3 ?_
  refine s_aload_n 0 E dX3_counts_6 rfl rfl ?_
  refine s_aload_n 1 E dX3_counts_7 rfl rfl ?_
  refine s_iload_n 2 E dX3_counts_8 rfl rfl ?_
  refine s_bd (fun z2 hz => ?_)
  refine s_cSU (n := 2) (rest := []) E (C_m0_counts_69_9 (xl x) G a2 m1 hz) ⟨by decide, by decide +kernel⟩ W1174 W1168 W214 W1166 W95 W1184 rfl rfl rfl rfl (Nat.le_of_ble_eq_true rfl) ⟨by decide, by decide⟩ dX3_counts_9 ?_
  refine s_iconst (v := (1 : Int32)) E dX3_counts_12 (by decide) ?_
  refine s_iadd E dX3_counts_13 ?_
  exact s_iret E rfl dX3_counts_14
set_option maxRecDepth 20000 in
theorem C_m4_counts_69_9 (l : Launch) (G : GG) (a2 : Int32) (m : M) {z : Int32 × M} (hz : m4_counts_69_9 a2 m = some z) : Ct l G yX3_counts cX3_counts 3 (some .int) 3 [.ref (G.2.1 69), .ref (G.2.1 9), .int a2] m (some (.int z.1)) z.2 :=
  ct_of (K := KWi) (by decide) (Nat.le_of_ble_eq_true rfl) (congrArg (fun q => Option.bind q _) hz) (fun x hl hn E => (t_m4_counts_69_9 E hn a2 m))
theorem mdX3_counts : mdq yX3_counts 2 := ⟨by decide, by decide, by decide +kernel⟩
theorem dX4_counts_0 : decode cX4_counts 0 = .ok (.aload_n 1, 1) := by decide +kernel
theorem dX4_counts_1 : decode cX4_counts 1 = .ok (.bipush 61, 2) := by decide +kernel
theorem dX4_counts_3 : decode cX4_counts 3 = .ok (.invokevirtual 20, 3) := by decide +kernel
theorem dX4_counts_6 : decode cX4_counts 6 = .ok (.aload_n 0, 1) := by decide +kernel
theorem dX4_counts_7 : decode cX4_counts 7 = .ok (.aload_n 1, 1) := by decide +kernel
theorem dX4_counts_8 : decode cX4_counts 8 = .ok (.iload_n 2, 1) := by decide +kernel
theorem dX4_counts_9 : decode cX4_counts 9 = .ok (.invokespecial 30, 3) := by decide +kernel
theorem dX4_counts_12 : decode cX4_counts 12 = .ok (.aload_n 0, 1) := by decide +kernel
theorem dX4_counts_13 : decode cX4_counts 13 = .ok (.aload_n 1, 1) := by decide +kernel
theorem dX4_counts_14 : decode cX4_counts 14 = .ok (.aload_n 1, 1) := by decide +kernel
theorem dX4_counts_15 : decode cX4_counts 15 = .ok (.getfield 33, 3) := by decide +kernel
theorem dX4_counts_18 : decode cX4_counts 18 = .ok (.invokevirtual 37, 3) := by decide +kernel
theorem dX4_counts_21 : decode cX4_counts 21 = .ok (.ixor, 1) := by decide +kernel
theorem dX4_counts_22 : decode cX4_counts 22 = .ok (.ireturn, 1) := by decide +kernel
def m5_counts (a2 : Int32) (m : M) : Option (Int32 × M) :=
  Option.bind (d_begins (61 : Int32) m) (fun m1 => Option.bind (m4_counts_69_9 a2 m1) (fun z2 => Option.bind (m0_moves_69_9 (z2.2 9 0) z2.2) (fun z3 => some ((z2.1 ^^^ z3.1), z3.2))))
set_option maxRecDepth 20000 in
theorem t_m5_counts {G : GG} {x : Cx} (E : En G x cX4_counts "WreckBoard$Lad" 4 (some .int)) (hn : xn x = 3) (a2 : Int32) (m : M) : Sm G x 0 [(0, .ref (G.2.1 69)), (1, .ref (G.2.1 9)), (2, .int a2)] [] m (m5_counts a2 m) KWi := by
  unfold m5_counts
  refine s_aload_n 1 E dX4_counts_0 rfl rfl ?_
  refine s_bipush (v := (61 : Int32)) E dX4_counts_1 (by decide) ?_
  refine s_bd (fun m1 hz => ?_)
  refine s_cV (rest := []) E (C_d_begins (xl x) G (61 : Int32) m hz) mdX2_begins W1157 W1128 W1129 W102 W1130 rfl rfl rfl rfl (Nat.le_of_ble_eq_true rfl) ⟨by decide, by decide⟩ dX4_counts_3 ?_
  refine s_aload_n 0 E dX4_counts_6 rfl rfl ?_
  refine s_aload_n 1 E dX4_counts_7 rfl rfl ?_
  refine s_iload_n 2 E dX4_counts_8 rfl rfl ?_
  refine s_bd (fun z2 hz => ?_)
  refine s_cSU (n := 2) (rest := []) E (C_m4_counts_69_9 (xl x) G a2 m1 hz) ⟨by decide, by decide +kernel⟩ W1178 W1863 W221 W1171 W99 W1172 rfl rfl rfl rfl (Nat.le_of_ble_eq_true rfl) ⟨by decide, by decide⟩ dX4_counts_9 ?_
  refine s_aload_n 0 E dX4_counts_12 rfl rfl ?_
  refine s_aload_n 1 E dX4_counts_13 rfl rfl ?_
  refine s_aload_n 1 E dX4_counts_14 rfl rfl ?_
  refine s_geti (k := 0) (T := TX2) 9 E rfl rfl rfl inX2 (by decide) W337 dX4_counts_15 ?_
  refine s_bd (fun z3 hz => ?_)
  refine s_cU (n := 2) (rest := [.int z2.1]) (z := ⟨"WreckBoard$Lad", "moves", "(LWreckBoard$Deed;I)I"⟩) (owner := "WreckBoard$Member") E (C_m0_moves_69_9 (xl x) G (z2.2 9 0) z2.2 hz) ⟨by decide, by decide, by decide +kernel⟩ W1179 W1180 W1121 W1142 W1181 W1121 W95 W1142 rfl rfl rfl rfl (Nat.le_of_ble_eq_true rfl) ⟨by decide, by decide⟩ dX4_counts_18 ?_
  refine s_ixor E dX4_counts_21 ?_
  exact s_iret E rfl dX4_counts_22
set_option maxRecDepth 20000 in
theorem C_m5_counts (l : Launch) (G : GG) (a2 : Int32) (m : M) {z : Int32 × M} (hz : m5_counts a2 m = some z) : Ct l G yX4_counts cX4_counts 3 (some .int) 4 [.ref (G.2.1 69), .ref (G.2.1 9), .int a2] m (some (.int z.1)) z.2 :=
  ct_of (K := KWi) (by decide) (Nat.le_of_ble_eq_true rfl) (congrArg (fun q => Option.bind q _) hz) (fun x hl hn E => (t_m5_counts E hn a2 m))
def vd_counts (p : Nat) (a2 : Int32) (m : M) : Option (Int32 × M) :=
  if p = 64 then m0_counts a2 m else if p = 65 then m0_counts_65_9 a2 m else if p = 66 then m0_counts_66_9 a2 m else if p = 67 then m0_counts_67_9 a2 m else if p = 68 then m4_counts a2 m else if p = 69 then m5_counts a2 m else none
theorem D_vd_counts {α : Type} {G : GG} {x : Cx} {cc : ByteArray} {own : String} {lev : Nat} {ret : Option FieldType} {pc : Nat} {lv : List (Nat × Value)} {m : M} {o : Option α} {K : α → Option (Option Value × M)} {index : Nat} (rest : List Value) (E : En G x cc own lev ret) (p : Nat) (a2 : Int32) {z : Int32 × M} (hz : vd_counts p a2 m = some z) (hl : Cond.methodLink own index ({ cls := "WreckBoard$Member", name := "counts", desc := "(LWreckBoard$Deed;I)I" } : MethodName) ∈ gw) (hroom : (rest.map fun v => v.category).sum ≤ 8) (hlev : 4 + 1 ≤ lev) (d : decode cc pc = .ok (.invokevirtual index, 3)) (k : Sm G x (pc + 3) lv ((.int z.1) :: rest) z.2 o K) : Sm G x pc lv (.int a2 :: .ref (G.2.1 9) :: .ref (G.2.1 p) :: rest) m o K := by
  unfold vd_counts at hz
  by_cases h : p = 64
  · rw [if_pos h] at hz
    subst h
    exact s_cU (n := 2) (rest := rest) (z := ⟨"WreckBoard$Member", "counts", "(LWreckBoard$Deed;I)I"⟩) (owner := "WreckBoard$Member") E (C_m0_counts (xl x) G a2 m hz) ⟨by decide, by decide, by decide +kernel⟩ hl W1168 W1166 W1184 W1167 W1166 W95 W1184 rfl rfl rfl rfl hroom ⟨by omega, by omega⟩ d k
  rw [if_neg h] at hz
  clear h
  by_cases h : p = 65
  · rw [if_pos h] at hz
    subst h
    exact s_cU (n := 2) (rest := rest) (z := ⟨"WreckBoard$Member", "counts", "(LWreckBoard$Deed;I)I"⟩) (owner := "WreckBoard$Member") E (C_m0_counts_65_9 (xl x) G a2 m hz) ⟨by decide, by decide, by decide +kernel⟩ hl W1168 W1166 W1184 W1183 W1166 W95 W1184 rfl rfl rfl rfl hroom ⟨by omega, by omega⟩ d k
  rw [if_neg h] at hz
  clear h
  by_cases h : p = 66
  · rw [if_pos h] at hz
    subst h
    exact s_cU (n := 2) (rest := rest) (z := ⟨"WreckBoard$Member", "counts", "(LWreckBoard$Deed;I)I"⟩) (owner := "WreckBoard$Member") E (C_m0_counts_66_9 (xl x) G a2 m hz) ⟨by decide, by decide, by decide +kernel⟩ hl W1168 W1166 W1184 W1182 W1166 W95 W1184 rfl rfl rfl rfl hroom ⟨by omega, by omega⟩ d k
  rw [if_neg h] at hz
  clear h
  by_cases h : p = 67
  · rw [if_pos h] at hz
    subst h
    exact s_cU (n := 2) (rest := rest) (z := ⟨"WreckBoard$Member", "counts", "(LWreckBoard$Deed;I)I"⟩) (owner := "WreckBoard$Member") E (C_m0_counts_67_9 (xl x) G a2 m hz) ⟨by decide, by decide, by decide +kernel⟩ hl W1168 W1166 W1184 W1169 W1166 W95 W1184 rfl rfl rfl rfl hroom ⟨by omega, by omega⟩ d k
  rw [if_neg h] at hz
  clear h
  by_cases h : p = 68
  · rw [if_pos h] at hz
    subst h
    exact s_cU (n := 2) (rest := rest) (z := ⟨"WreckBoard$Member", "counts", "(LWreckBoard$Deed;I)I"⟩) (owner := "WreckBoard$Member") E (C_m4_counts (xl x) G a2 m hz) ⟨by decide, by decide, by decide +kernel⟩ hl W1168 W1166 W1184 W1170 W1171 W99 W1172 rfl rfl rfl rfl hroom ⟨by omega, by omega⟩ d k
  rw [if_neg h] at hz
  clear h
  by_cases h : p = 69
  · rw [if_pos h] at hz
    subst h
    exact s_cU (n := 2) (rest := rest) (z := ⟨"WreckBoard$Member", "counts", "(LWreckBoard$Deed;I)I"⟩) (owner := "WreckBoard$Member") E (C_m5_counts (xl x) G a2 m hz) ⟨by decide, by decide, by decide +kernel⟩ hl W1168 W1166 W1184 W1175 W1176 W100 W1177 rfl rfl rfl rfl hroom ⟨by omega, by omega⟩ d k
  rw [if_neg h] at hz
  clear h
  cases hz
theorem dX5_bows_0 : decode cX5_bows 0 = .ok (.aload_n 1, 1) := by decide +kernel
theorem dX5_bows_1 : decode cX5_bows 1 = .ok (.bipush 13, 2) := by decide +kernel
theorem dX5_bows_3 : decode cX5_bows 3 = .ok (.invokevirtual 7, 3) := by decide +kernel
theorem dX5_bows_6 : decode cX5_bows 6 = .ok (.aload_n 0, 1) := by decide +kernel
theorem dX5_bows_7 : decode cX5_bows 7 = .ok (.aload_n 1, 1) := by decide +kernel
theorem dX5_bows_8 : decode cX5_bows 8 = .ok (.iload_n 2, 1) := by decide +kernel
theorem dX5_bows_9 : decode cX5_bows 9 = .ok (.invokevirtual 30, 3) := by decide +kernel
theorem dX5_bows_12 : decode cX5_bows 12 = .ok (.aload_n 0, 1) := by decide +kernel
theorem dX5_bows_13 : decode cX5_bows 13 = .ok (.aload_n 1, 1) := by decide +kernel
theorem dX5_bows_14 : decode cX5_bows 14 = .ok (.iload_n 2, 1) := by decide +kernel
theorem dX5_bows_15 : decode cX5_bows 15 = .ok (.invokevirtual 33, 3) := by decide +kernel
theorem dX5_bows_18 : decode cX5_bows 18 = .ok (.isub, 1) := by decide +kernel
theorem dX5_bows_19 : decode cX5_bows 19 = .ok (.ireturn, 1) := by decide +kernel
def m0_bows (a2 : Int32) (m : M) : Option (Int32 × M) :=
  Option.bind (d_begins (13 : Int32) m) (fun m1 => Option.bind (m0_seconds a2 m1) (fun z2 => Option.bind (m0_counts a2 z2.2) (fun z3 => some ((z2.1 - z3.1), z3.2))))
set_option maxRecDepth 20000 in
theorem t_m0_bows {G : GG} {x : Cx} (E : En G x cX5_bows "WreckBoard$Member" 4 (some .int)) (hn : xn x = 3) (a2 : Int32) (m : M) : Sm G x 0 [(0, .ref (G.2.1 64)), (1, .ref (G.2.1 9)), (2, .int a2)] [] m (m0_bows a2 m) KWi := by
  unfold m0_bows
  refine s_aload_n 1 E dX5_bows_0 rfl rfl ?_
  refine s_bipush (v := (13 : Int32)) E dX5_bows_1 (by decide) ?_
  refine s_bd (fun m1 hz => ?_)
  refine s_cV (rest := []) E (C_d_begins (xl x) G (13 : Int32) m hz) mdX2_begins W1143 W1128 W1129 W102 W1130 rfl rfl rfl rfl (Nat.le_of_ble_eq_true rfl) ⟨by decide, by decide⟩ dX5_bows_3 ?_
  refine s_aload_n 0 E dX5_bows_6 rfl rfl ?_
  refine s_aload_n 1 E dX5_bows_7 rfl rfl ?_
  refine s_iload_n 2 E dX5_bows_8 rfl rfl ?_
  refine s_bd (fun z2 hz => ?_)
  refine s_cV (rest := []) E (C_m0_seconds (xl x) G a2 m1 hz) mdX5_seconds W1204 W1145 W1146 W95 W1163 rfl rfl rfl rfl (Nat.le_of_ble_eq_true rfl) ⟨by decide, by decide⟩ dX5_bows_9 ?_
  refine s_aload_n 0 E dX5_bows_12 rfl rfl ?_
  refine s_aload_n 1 E dX5_bows_13 rfl rfl ?_
  refine s_iload_n 2 E dX5_bows_14 rfl rfl ?_
  refine s_bd (fun z3 hz => ?_)
  refine s_cV (rest := [.int z2.1]) E (C_m0_counts (xl x) G a2 z2.2 hz) mdX5_counts W1205 W1166 W1167 W95 W1184 rfl rfl rfl rfl (Nat.le_of_ble_eq_true rfl) ⟨by decide, by decide⟩ dX5_bows_15 ?_
  refine s_isub E dX5_bows_18 ?_
  exact s_iret E rfl dX5_bows_19
set_option maxRecDepth 20000 in
theorem C_m0_bows (l : Launch) (G : GG) (a2 : Int32) (m : M) {z : Int32 × M} (hz : m0_bows a2 m = some z) : Ct l G yX5_bows cX5_bows 3 (some .int) 4 [.ref (G.2.1 64), .ref (G.2.1 9), .int a2] m (some (.int z.1)) z.2 :=
  ct_of (K := KWi) (by decide) (Nat.le_of_ble_eq_true rfl) (congrArg (fun q => Option.bind q _) hz) (fun x hl hn E => (t_m0_bows E hn a2 m))
def m0_bows_65_9 (a2 : Int32) (m : M) : Option (Int32 × M) :=
  Option.bind (d_begins (13 : Int32) m) (fun m1 => Option.bind (m0_seconds_65_9 a2 m1) (fun z2 => Option.bind (m0_counts_65_9 a2 z2.2) (fun z3 => some ((z2.1 - z3.1), z3.2))))
set_option maxRecDepth 20000 in
theorem t_m0_bows_65_9 {G : GG} {x : Cx} (E : En G x cX5_bows "WreckBoard$Member" 5 (some .int)) (hn : xn x = 3) (a2 : Int32) (m : M) : Sm G x 0 [(0, .ref (G.2.1 65)), (1, .ref (G.2.1 9)), (2, .int a2)] [] m (m0_bows_65_9 a2 m) KWi := by
  unfold m0_bows_65_9
  refine s_aload_n 1 E dX5_bows_0 rfl rfl ?_
  refine s_bipush (v := (13 : Int32)) E dX5_bows_1 (by decide) ?_
  refine s_bd (fun m1 hz => ?_)
  refine s_cV (rest := []) E (C_d_begins (xl x) G (13 : Int32) m hz) mdX2_begins W1143 W1128 W1129 W102 W1130 rfl rfl rfl rfl (Nat.le_of_ble_eq_true rfl) ⟨by decide, by decide⟩ dX5_bows_3 ?_
  refine s_aload_n 0 E dX5_bows_6 rfl rfl ?_
  refine s_aload_n 1 E dX5_bows_7 rfl rfl ?_
  refine s_iload_n 2 E dX5_bows_8 rfl rfl ?_
  refine s_bd (fun z2 hz => ?_)
  refine s_cU (n := 2) (rest := []) (z := ⟨"WreckBoard$Member", "seconds", "(LWreckBoard$Deed;I)I"⟩) (owner := "WreckBoard$Member") E (C_m0_seconds_65_9 (xl x) G a2 m1 hz) ⟨by decide, by decide, by decide +kernel⟩ W1204 W1147 W1145 W1163 W1162 W1145 W95 W1163 rfl rfl rfl rfl (Nat.le_of_ble_eq_true rfl) ⟨by decide, by decide⟩ dX5_bows_9 ?_
  refine s_aload_n 0 E dX5_bows_12 rfl rfl ?_
  refine s_aload_n 1 E dX5_bows_13 rfl rfl ?_
  refine s_iload_n 2 E dX5_bows_14 rfl rfl ?_
  refine s_bd (fun z3 hz => ?_)
  refine s_cU (n := 2) (rest := [.int z2.1]) (z := ⟨"WreckBoard$Member", "counts", "(LWreckBoard$Deed;I)I"⟩) (owner := "WreckBoard$Member") E (C_m0_counts_65_9 (xl x) G a2 z2.2 hz) ⟨by decide, by decide, by decide +kernel⟩ W1205 W1168 W1166 W1184 W1183 W1166 W95 W1184 rfl rfl rfl rfl (Nat.le_of_ble_eq_true rfl) ⟨by decide, by decide⟩ dX5_bows_15 ?_
  refine s_isub E dX5_bows_18 ?_
  exact s_iret E rfl dX5_bows_19
set_option maxRecDepth 20000 in
theorem C_m0_bows_65_9 (l : Launch) (G : GG) (a2 : Int32) (m : M) {z : Int32 × M} (hz : m0_bows_65_9 a2 m = some z) : Ct l G yX5_bows cX5_bows 3 (some .int) 5 [.ref (G.2.1 65), .ref (G.2.1 9), .int a2] m (some (.int z.1)) z.2 :=
  ct_of (K := KWi) (by decide) (Nat.le_of_ble_eq_true rfl) (congrArg (fun q => Option.bind q _) hz) (fun x hl hn E => (t_m0_bows_65_9 E hn a2 m))
theorem mdX8_seconds : mdq yX8_seconds 2 := ⟨by decide, by decide, by decide +kernel⟩
def m0_bows_66_9 (a2 : Int32) (m : M) : Option (Int32 × M) :=
  Option.bind (d_begins (13 : Int32) m) (fun m1 => Option.bind (m2_seconds a2 m1) (fun z2 => Option.bind (m0_counts_66_9 a2 z2.2) (fun z3 => some ((z2.1 - z3.1), z3.2))))
set_option maxRecDepth 20000 in
theorem t_m0_bows_66_9 {G : GG} {x : Cx} (E : En G x cX5_bows "WreckBoard$Member" 5 (some .int)) (hn : xn x = 3) (a2 : Int32) (m : M) : Sm G x 0 [(0, .ref (G.2.1 66)), (1, .ref (G.2.1 9)), (2, .int a2)] [] m (m0_bows_66_9 a2 m) KWi := by
  unfold m0_bows_66_9
  refine s_aload_n 1 E dX5_bows_0 rfl rfl ?_
  refine s_bipush (v := (13 : Int32)) E dX5_bows_1 (by decide) ?_
  refine s_bd (fun m1 hz => ?_)
  refine s_cV (rest := []) E (C_d_begins (xl x) G (13 : Int32) m hz) mdX2_begins W1143 W1128 W1129 W102 W1130 rfl rfl rfl rfl (Nat.le_of_ble_eq_true rfl) ⟨by decide, by decide⟩ dX5_bows_3 ?_
  refine s_aload_n 0 E dX5_bows_6 rfl rfl ?_
  refine s_aload_n 1 E dX5_bows_7 rfl rfl ?_
  refine s_iload_n 2 E dX5_bows_8 rfl rfl ?_
  refine s_bd (fun z2 hz => ?_)
  refine s_cU (n := 2) (rest := []) (z := ⟨"WreckBoard$Member", "seconds", "(LWreckBoard$Deed;I)I"⟩) (owner := "WreckBoard$Member") E (C_m2_seconds (xl x) G a2 m1 hz) ⟨by decide, by decide, by decide +kernel⟩ W1204 W1147 W1145 W1163 W1161 W1149 W97 W1150 rfl rfl rfl rfl (Nat.le_of_ble_eq_true rfl) ⟨by decide, by decide⟩ dX5_bows_9 ?_
  refine s_aload_n 0 E dX5_bows_12 rfl rfl ?_
  refine s_aload_n 1 E dX5_bows_13 rfl rfl ?_
  refine s_iload_n 2 E dX5_bows_14 rfl rfl ?_
  refine s_bd (fun z3 hz => ?_)
  refine s_cU (n := 2) (rest := [.int z2.1]) (z := ⟨"WreckBoard$Member", "counts", "(LWreckBoard$Deed;I)I"⟩) (owner := "WreckBoard$Member") E (C_m0_counts_66_9 (xl x) G a2 z2.2 hz) ⟨by decide, by decide, by decide +kernel⟩ W1205 W1168 W1166 W1184 W1182 W1166 W95 W1184 rfl rfl rfl rfl (Nat.le_of_ble_eq_true rfl) ⟨by decide, by decide⟩ dX5_bows_15 ?_
  refine s_isub E dX5_bows_18 ?_
  exact s_iret E rfl dX5_bows_19
