def r_member (a1 : Int32) (a2 : Int32) (a3 : Int32) (a4 : Int32) (m : M) : Option (Int32 × M) :=
  Option.bind (r_in1 a1 (1 : Int32) (5 : Int32) m) (fun v1 => (if v1 = 0 then some ((-1 : Int32), m) else Option.bind (r_isDigit a2 m) (fun v2 => (if v2 = 0 then some ((-1 : Int32), m) else Option.bind (r_isDigit a3 m) (fun v3 => (if v3 = 0 then some ((-1 : Int32), m) else Option.bind (r_isBench a4 m) (fun v4 => (if v4 = 0 then some ((-1 : Int32), m) else Option.bind (rdI m 77 (6 : Int32)) (fun v5 => (if v5 = (6 : Int32) then some ((-2 : Int32), m) else Option.bind (rdI m 77 (6 : Int32)) (fun v6 => Option.bind (r_puts v6 (0 : Int32) a1 m) (fun m7 => Option.bind (r_puts v6 (1 : Int32) a2 m7) (fun m8 => Option.bind (r_puts v6 (2 : Int32) a3 m8) (fun m9 => Option.bind (r_puts v6 (3 : Int32) a4 m9) (fun m10 => Option.bind (r_puts v6 (4 : Int32) (0 : Int32) m10) (fun m11 => Option.bind (rdI m11 77 (6 : Int32)) (fun v12 => Option.bind (wrI m11 77 (6 : Int32) (v12 + (1 : Int32))) (fun m13 => some (v6, m13)))))))))))))))))))
set_option maxRecDepth 20000 in
theorem t_r_member {G : GG} {x : Cx} (E : En G x cX12_member "WreckBoardModel" 3 (some .int)) (hn : xn x = 6) (a1 : Int32) (a2 : Int32) (a3 : Int32) (a4 : Int32) (m : M) : Sm G x 0 [(0, .ref (G.2.1 76)), (1, .int a1), (2, .int a2), (3, .int a3), (4, .int a4)] [] m (r_member a1 a2 a3 a4 m) KWi := by
  unfold r_member
  refine s_iload_n 1 E dX12_member_0 rfl rfl ?_
  refine s_iconst (v := (1 : Int32)) E dX12_member_1 (by decide) ?_
  refine s_iconst (v := (5 : Int32)) E dX12_member_2 (by decide) ?_
  refine s_bd (fun v1 hz => ?_)
  refine s_cS (rest := []) E (C_r_in1 (xl x) G a1 (1 : Int32) (5 : Int32) m hz) mdX12_in1 W1359 W1360 W103 W1361 rfl rfl (Nat.le_of_ble_eq_true rfl) ⟨by decide, by decide⟩ dX12_member_3 ?_
  refine s_if_eq 31 E dX12_member_6 (by decide) ?_ ?_
  · refine s_iconst (v := (-1 : Int32)) E dX12_member_31 (by decide) ?_
    exact s_iret E rfl dX12_member_32
  · refine s_iload_n 2 E dX12_member_9 rfl rfl ?_
    refine s_bd (fun v2 hz => ?_)
    refine s_cS (rest := []) E (C_r_isDigit (xl x) G a2 m hz) mdX12_isDigit W1427 W1428 W103 W1429 rfl rfl (Nat.le_of_ble_eq_true rfl) ⟨by decide, by decide⟩ dX12_member_10 ?_
    refine s_if_eq 31 E dX12_member_13 (by decide) ?_ ?_
    · refine s_iconst (v := (-1 : Int32)) E dX12_member_31 (by decide) ?_
      exact s_iret E rfl dX12_member_32
    · refine s_iload_n 3 E dX12_member_16 rfl rfl ?_
      refine s_bd (fun v3 hz => ?_)
      refine s_cS (rest := []) E (C_r_isDigit (xl x) G a3 m hz) mdX12_isDigit W1427 W1428 W103 W1429 rfl rfl (Nat.le_of_ble_eq_true rfl) ⟨by decide, by decide⟩ dX12_member_17 ?_
      refine s_if_eq 31 E dX12_member_20 (by decide) ?_ ?_
      · refine s_iconst (v := (-1 : Int32)) E dX12_member_31 (by decide) ?_
        exact s_iret E rfl dX12_member_32
      · refine s_iload 4 E dX12_member_23 rfl ?_
        refine s_bd (fun v4 hz => ?_)
        refine s_cS (rest := []) E (C_r_isBench (xl x) G a4 m hz) mdX12_isBench W1430 W1431 W103 W1432 rfl rfl (Nat.le_of_ble_eq_true rfl) ⟨by decide, by decide⟩ dX12_member_25 ?_
        refine s_if_ne 33 E dX12_member_28 (by decide) ?_ ?_
        · refine s_aload_n 0 E dX12_member_33 rfl rfl ?_
          refine s_getr (k := 0) (T := TX12) 76 E rfl rfl rfl inX12 (by decide) W1239 dX12_member_34 ?_
          refine s_bipush (v := (6 : Int32)) E dX12_member_37 (by decide) ?_
          refine s_iald E dX12_member_39 (fun v5 => ?_)
          refine s_bipush (v := (6 : Int32)) E dX12_member_40 (by decide) ?_
          refine s_icmp_ne 48 E dX12_member_42 (by decide) ?_ ?_
          · refine s_aload_n 0 E dX12_member_48 rfl rfl ?_
            refine s_getr (k := 0) (T := TX12) 76 E rfl rfl rfl inX12 (by decide) W1239 dX12_member_49 ?_
            refine s_bipush (v := (6 : Int32)) E dX12_member_52 (by decide) ?_
            refine s_iald E dX12_member_54 (fun v6 => ?_)
            refine s_istore (lv' := [(0, .ref (G.2.1 76)), (1, .int a1), (2, .int a2), (3, .int a3), (4, .int a4), (5, .int v6)]) [1, 2, 3, 4, 5, 0] E dX12_member_55 (by rw [hn]; decide) rfl ?_
            refine s_aload_n 0 E dX12_member_57 rfl rfl ?_
            refine s_iload 5 E dX12_member_58 rfl ?_
            refine s_iconst (v := (0 : Int32)) E dX12_member_60 (by decide) ?_
            refine s_iload_n 1 E dX12_member_61 rfl rfl ?_
            refine s_bd (fun m7 hz => ?_)
            refine s_cV (rest := []) E (C_r_puts (xl x) G v6 (0 : Int32) a1 m hz) mdX12_puts W1433 W1435 W42 W103 W1436 rfl rfl rfl rfl (Nat.le_of_ble_eq_true rfl) ⟨by decide, by decide⟩ dX12_member_62 ?_
            refine s_aload_n 0 E dX12_member_65 rfl rfl ?_
            refine s_iload 5 E dX12_member_66 rfl ?_
            refine s_iconst (v := (1 : Int32)) E dX12_member_68 (by decide) ?_
            refine s_iload_n 2 E dX12_member_69 rfl rfl ?_
            refine s_bd (fun m8 hz => ?_)
            refine s_cV (rest := []) E (C_r_puts (xl x) G v6 (1 : Int32) a2 m7 hz) mdX12_puts W1433 W1435 W42 W103 W1436 rfl rfl rfl rfl (Nat.le_of_ble_eq_true rfl) ⟨by decide, by decide⟩ dX12_member_70 ?_
            refine s_aload_n 0 E dX12_member_73 rfl rfl ?_
            refine s_iload 5 E dX12_member_74 rfl ?_
            refine s_iconst (v := (2 : Int32)) E dX12_member_76 (by decide) ?_
            refine s_iload_n 3 E dX12_member_77 rfl rfl ?_
            refine s_bd (fun m9 hz => ?_)
            refine s_cV (rest := []) E (C_r_puts (xl x) G v6 (2 : Int32) a3 m8 hz) mdX12_puts W1433 W1435 W42 W103 W1436 rfl rfl rfl rfl (Nat.le_of_ble_eq_true rfl) ⟨by decide, by decide⟩ dX12_member_78 ?_
            refine s_aload_n 0 E dX12_member_81 rfl rfl ?_
            refine s_iload 5 E dX12_member_82 rfl ?_
            refine s_iconst (v := (3 : Int32)) E dX12_member_84 (by decide) ?_
            refine s_iload 4 E dX12_member_85 rfl ?_
            refine s_bd (fun m10 hz => ?_)
            refine s_cV (rest := []) E (C_r_puts (xl x) G v6 (3 : Int32) a4 m9 hz) mdX12_puts W1433 W1435 W42 W103 W1436 rfl rfl rfl rfl (Nat.le_of_ble_eq_true rfl) ⟨by decide, by decide⟩ dX12_member_87 ?_
            refine s_aload_n 0 E dX12_member_90 rfl rfl ?_
            refine s_iload 5 E dX12_member_91 rfl ?_
            refine s_iconst (v := (4 : Int32)) E dX12_member_93 (by decide) ?_
            refine s_iconst (v := (0 : Int32)) E dX12_member_94 (by decide) ?_
            refine s_bd (fun m11 hz => ?_)
            refine s_cV (rest := []) E (C_r_puts (xl x) G v6 (4 : Int32) (0 : Int32) m10 hz) mdX12_puts W1433 W1435 W42 W103 W1436 rfl rfl rfl rfl (Nat.le_of_ble_eq_true rfl) ⟨by decide, by decide⟩ dX12_member_95 ?_
            refine s_aload_n 0 E dX12_member_98 rfl rfl ?_
            refine s_getr (k := 0) (T := TX12) 76 E rfl rfl rfl inX12 (by decide) W1239 dX12_member_99 ?_
            refine s_bipush (v := (6 : Int32)) E dX12_member_102 (by decide) ?_
            refine s_dup2 E dX12_member_104 rfl rfl ?_
            refine s_iald E dX12_member_105 (fun v12 => ?_)
            refine s_iconst (v := (1 : Int32)) E dX12_member_106 (by decide) ?_
            refine s_iadd E dX12_member_107 ?_
            refine s_iast E dX12_member_108 (fun m13 => ?_)
            refine s_iload 5 E dX12_member_109 rfl ?_
            exact s_iret E rfl dX12_member_111
          · refine s_bipush (v := (-2 : Int32)) E dX12_member_45 (by decide) ?_
            exact s_iret E rfl dX12_member_47
        · refine s_iconst (v := (-1 : Int32)) E dX12_member_31 (by decide) ?_
          exact s_iret E rfl dX12_member_32
set_option maxRecDepth 20000 in
theorem C_r_member (l : Launch) (G : GG) (a1 : Int32) (a2 : Int32) (a3 : Int32) (a4 : Int32) (m : M) {z : Int32 × M} (hz : r_member a1 a2 a3 a4 m = some z) : Ct l G yX12_member cX12_member 6 (some .int) 3 [.ref (G.2.1 76), .int a1, .int a2, .int a3, .int a4] m (some (.int z.1)) z.2 :=
  ct_of (K := KWi) (by decide) (Nat.le_of_ble_eq_true rfl) (congrArg (fun q => Option.bind q _) hz) (fun x hl hn E => (t_r_member E hn a1 a2 a3 a4 m))
theorem dX12_isMember_0 : decode cX12_isMember 0 = .ok (.iload_n 1, 1) := by decide +kernel
theorem dX12_isMember_1 : decode cX12_isMember 1 = .ok (.iconst 0, 1) := by decide +kernel
theorem dX12_isMember_2 : decode cX12_isMember 2 = .ok (.aload_n 0, 1) := by decide +kernel
theorem dX12_isMember_3 : decode cX12_isMember 3 = .ok (.getfield 9, 3) := by decide +kernel
theorem dX12_isMember_6 : decode cX12_isMember 6 = .ok (.bipush 6, 2) := by decide +kernel
theorem dX12_isMember_8 : decode cX12_isMember 8 = .ok (.iaload, 1) := by decide +kernel
theorem dX12_isMember_9 : decode cX12_isMember 9 = .ok (.iconst 1, 1) := by decide +kernel
theorem dX12_isMember_10 : decode cX12_isMember 10 = .ok (.isub, 1) := by decide +kernel
theorem dX12_isMember_11 : decode cX12_isMember 11 = .ok (.invokestatic 71, 3) := by decide +kernel
theorem dX12_isMember_14 : decode cX12_isMember 14 = .ok (.ireturn, 1) := by decide +kernel
def r_isMember (a1 : Int32) (m : M) : Option (Int32) :=
  Option.bind (rdI m 77 (6 : Int32)) (fun v1 => Option.bind (r_in1 a1 (0 : Int32) (v1 - (1 : Int32)) m) (fun v2 => some (v2 &&& 1)))
set_option maxRecDepth 20000 in
theorem t_r_isMember {G : GG} {x : Cx} (E : En G x cX12_isMember "WreckBoardModel" 2 (some .boolean)) (hn : xn x = 2) (a1 : Int32) (m : M) : Sm G x 0 [(0, .ref (G.2.1 76)), (1, .int a1)] [] m (r_isMember a1 m) (KRi m) := by
  unfold r_isMember
  refine s_iload_n 1 E dX12_isMember_0 rfl rfl ?_
  refine s_iconst (v := (0 : Int32)) E dX12_isMember_1 (by decide) ?_
  refine s_aload_n 0 E dX12_isMember_2 rfl rfl ?_
  refine s_getr (k := 0) (T := TX12) 76 E rfl rfl rfl inX12 (by decide) W1239 dX12_isMember_3 ?_
  refine s_bipush (v := (6 : Int32)) E dX12_isMember_6 (by decide) ?_
  refine s_iald E dX12_isMember_8 (fun v1 => ?_)
  refine s_iconst (v := (1 : Int32)) E dX12_isMember_9 (by decide) ?_
  refine s_isub E dX12_isMember_10 ?_
  refine s_bd (fun v2 hz => ?_)
  refine s_cS (rest := []) E (C_r_in1 (xl x) G a1 (0 : Int32) (v1 - (1 : Int32)) m hz) mdX12_in1 W1359 W1360 W103 W1361 rfl rfl (Nat.le_of_ble_eq_true rfl) ⟨by decide, by decide⟩ dX12_isMember_11 ?_
  exact s_zretN E rfl dX12_isMember_14
set_option maxRecDepth 20000 in
theorem C_r_isMember (l : Launch) (G : GG) (a1 : Int32) (m : M) {z : Int32} (hz : r_isMember a1 m = some z) : Ct l G yX12_isMember cX12_isMember 2 (some .boolean) 2 [.ref (G.2.1 76), .int a1] m (some (.int z)) m :=
  ct_of (K := (KRi m)) (by decide) (Nat.le_of_ble_eq_true rfl) (congrArg (fun q => Option.bind q _) hz) (fun x hl hn E => (t_r_isMember E hn a1 m))
theorem mdX12_isMember : mdq yX12_isMember 1 := ⟨by decide, by decide, by decide +kernel⟩
theorem dX12_get_0 : decode cX12_get 0 = .ok (.aload_n 0, 1) := by decide +kernel
theorem dX12_get_1 : decode cX12_get 1 = .ok (.getfield 9, 3) := by decide +kernel
theorem dX12_get_4 : decode cX12_get 4 = .ok (.bipush 37, 2) := by decide +kernel
theorem dX12_get_6 : decode cX12_get 6 = .ok (.iconst 5, 1) := by decide +kernel
theorem dX12_get_7 : decode cX12_get 7 = .ok (.iload_n 1, 1) := by decide +kernel
theorem dX12_get_8 : decode cX12_get 8 = .ok (.imul, 1) := by decide +kernel
theorem dX12_get_9 : decode cX12_get 9 = .ok (.iadd, 1) := by decide +kernel
theorem dX12_get_10 : decode cX12_get 10 = .ok (.iload_n 2, 1) := by decide +kernel
theorem dX12_get_11 : decode cX12_get 11 = .ok (.iadd, 1) := by decide +kernel
theorem dX12_get_12 : decode cX12_get 12 = .ok (.iaload, 1) := by decide +kernel
theorem dX12_get_13 : decode cX12_get 13 = .ok (.ireturn, 1) := by decide +kernel
def r_get (a1 : Int32) (a2 : Int32) (m : M) : Option (Int32) :=
  Option.bind (rdI m 77 (((37 : Int32) + ((5 : Int32) * a1)) + a2)) (fun v1 => some v1)
set_option maxRecDepth 20000 in
theorem t_r_get {G : GG} {x : Cx} (E : En G x cX12_get "WreckBoardModel" 1 (some .int)) (hn : xn x = 3) (a1 : Int32) (a2 : Int32) (m : M) : Sm G x 0 [(0, .ref (G.2.1 76)), (1, .int a1), (2, .int a2)] [] m (r_get a1 a2 m) (KRi m) := by
  unfold r_get
  refine s_aload_n 0 E dX12_get_0 rfl rfl ?_
  refine s_getr (k := 0) (T := TX12) 76 E rfl rfl rfl inX12 (by decide) W1239 dX12_get_1 ?_
  refine s_bipush (v := (37 : Int32)) E dX12_get_4 (by decide) ?_
  refine s_iconst (v := (5 : Int32)) E dX12_get_6 (by decide) ?_
  refine s_iload_n 1 E dX12_get_7 rfl rfl ?_
  refine s_imul E dX12_get_8 ?_
  refine s_iadd E dX12_get_9 ?_
  refine s_iload_n 2 E dX12_get_10 rfl rfl ?_
  refine s_iadd E dX12_get_11 ?_
  refine s_iald E dX12_get_12 (fun v1 => ?_)
  exact s_iret E rfl dX12_get_13
set_option maxRecDepth 20000 in
theorem C_r_get (l : Launch) (G : GG) (a1 : Int32) (a2 : Int32) (m : M) {z : Int32} (hz : r_get a1 a2 m = some z) : Ct l G yX12_get cX12_get 3 (some .int) 1 [.ref (G.2.1 76), .int a1, .int a2] m (some (.int z)) m :=
  ct_of (K := (KRi m)) (by decide) (Nat.le_of_ble_eq_true rfl) (congrArg (fun q => Option.bind q _) hz) (fun x hl hn E => (t_r_get E hn a1 a2 m))
theorem mdX12_get : mdq yX12_get 2 := ⟨by decide, by decide, by decide +kernel⟩
theorem dX12_shipNow_0 : decode cX12_shipNow 0 = .ok (.aload_n 0, 1) := by decide +kernel
theorem dX12_shipNow_1 : decode cX12_shipNow 1 = .ok (.getfield 9, 3) := by decide +kernel
theorem dX12_shipNow_4 : decode cX12_shipNow 4 = .ok (.iconst 0, 1) := by decide +kernel
theorem dX12_shipNow_5 : decode cX12_shipNow 5 = .ok (.iaload, 1) := by decide +kernel
theorem dX12_shipNow_6 : decode cX12_shipNow 6 = .ok (.bipush 16, 2) := by decide +kernel
theorem dX12_shipNow_8 : decode cX12_shipNow 8 = .ok (.if_icmp .ge 20, 3) := by decide +kernel
theorem dX12_shipNow_11 : decode cX12_shipNow 11 = .ok (.aload_n 0, 1) := by decide +kernel
theorem dX12_shipNow_12 : decode cX12_shipNow 12 = .ok (.getfield 9, 3) := by decide +kernel
theorem dX12_shipNow_15 : decode cX12_shipNow 15 = .ok (.bipush 9, 2) := by decide +kernel
theorem dX12_shipNow_17 : decode cX12_shipNow 17 = .ok (.aload_n 0, 1) := by decide +kernel
theorem dX12_shipNow_18 : decode cX12_shipNow 18 = .ok (.getfield 9, 3) := by decide +kernel
theorem dX12_shipNow_21 : decode cX12_shipNow 21 = .ok (.iconst 0, 1) := by decide +kernel
theorem dX12_shipNow_22 : decode cX12_shipNow 22 = .ok (.iaload, 1) := by decide +kernel
theorem dX12_shipNow_23 : decode cX12_shipNow 23 = .ok (.iadd, 1) := by decide +kernel
theorem dX12_shipNow_24 : decode cX12_shipNow 24 = .ok (.iaload, 1) := by decide +kernel
theorem dX12_shipNow_25 : decode cX12_shipNow 25 = .ok (.goto 4, 3) := by decide +kernel
theorem dX12_shipNow_28 : decode cX12_shipNow 28 = .ok (.iconst 0, 1) := by decide +kernel
theorem dX12_shipNow_29 : decode cX12_shipNow 29 = .ok (.ireturn, 1) := by decide +kernel
def r_shipNow  (m : M) : Option (Int32) :=
  Option.bind (rdI m 77 (0 : Int32)) (fun v1 => (if (16 : Int32) ≤ v1 then some (0 : Int32) else Option.bind (rdI m 77 (0 : Int32)) (fun v2 => Option.bind (rdI m 77 ((9 : Int32) + v2)) (fun v3 => some v3))))
set_option maxRecDepth 20000 in
theorem t_r_shipNow {G : GG} {x : Cx} (E : En G x cX12_shipNow "WreckBoardModel" 1 (some .int)) (hn : xn x = 1)  (m : M) : Sm G x 0 [(0, .ref (G.2.1 76))] [] m (r_shipNow m) (KRi m) := by
  unfold r_shipNow
  refine s_aload_n 0 E dX12_shipNow_0 rfl rfl ?_
  refine s_getr (k := 0) (T := TX12) 76 E rfl rfl rfl inX12 (by decide) W1239 dX12_shipNow_1 ?_
  refine s_iconst (v := (0 : Int32)) E dX12_shipNow_4 (by decide) ?_
  refine s_iald E dX12_shipNow_5 (fun v1 => ?_)
  refine s_bipush (v := (16 : Int32)) E dX12_shipNow_6 (by decide) ?_
  refine s_icmp_ge 28 E dX12_shipNow_8 (by decide) ?_ ?_
  · refine s_iconst (v := (0 : Int32)) E dX12_shipNow_28 (by decide) ?_
    exact s_iret E rfl dX12_shipNow_29
  · refine s_aload_n 0 E dX12_shipNow_11 rfl rfl ?_
    refine s_getr (k := 0) (T := TX12) 76 E rfl rfl rfl inX12 (by decide) W1239 dX12_shipNow_12 ?_
    refine s_bipush (v := (9 : Int32)) E dX12_shipNow_15 (by decide) ?_
    refine s_aload_n 0 E dX12_shipNow_17 rfl rfl ?_
    refine s_getr (k := 0) (T := TX12) 76 E rfl rfl rfl inX12 (by decide) W1239 dX12_shipNow_18 ?_
    refine s_iconst (v := (0 : Int32)) E dX12_shipNow_21 (by decide) ?_
    refine s_iald E dX12_shipNow_22 (fun v2 => ?_)
    refine s_iadd E dX12_shipNow_23 ?_
    refine s_iald E dX12_shipNow_24 (fun v3 => ?_)
    refine s_goto 29 E dX12_shipNow_25 (by decide) ?_
    exact s_iret E rfl dX12_shipNow_29
set_option maxRecDepth 20000 in
theorem C_r_shipNow (l : Launch) (G : GG)  (m : M) {z : Int32} (hz : r_shipNow m = some z) : Ct l G yX12_shipNow cX12_shipNow 1 (some .int) 1 [.ref (G.2.1 76)] m (some (.int z)) m :=
  ct_of (K := (KRi m)) (by decide) (Nat.le_of_ble_eq_true rfl) (congrArg (fun q => Option.bind q _) hz) (fun x hl hn E => (t_r_shipNow E hn  m))
theorem mdX12_shipNow : mdq yX12_shipNow 0 := ⟨by decide, by decide, by decide +kernel⟩
theorem dX12_leansBy_0 : decode cX12_leansBy 0 = .ok (.iload_n 1, 1) := by decide +kernel
theorem dX12_leansBy_1 : decode cX12_leansBy 1 = .ok (.iconst 2, 1) := by decide +kernel
theorem dX12_leansBy_2 : decode cX12_leansBy 2 = .ok (.if_icmp .ne 7, 3) := by decide +kernel
theorem dX12_leansBy_5 : decode cX12_leansBy 5 = .ok (.iload_n 3, 1) := by decide +kernel
theorem dX12_leansBy_6 : decode cX12_leansBy 6 = .ok (.goto 6, 3) := by decide +kernel
theorem dX12_leansBy_9 : decode cX12_leansBy 9 = .ok (.iload_n 1, 1) := by decide +kernel
theorem dX12_leansBy_10 : decode cX12_leansBy 10 = .ok (.iconst 1, 1) := by decide +kernel
theorem dX12_leansBy_11 : decode cX12_leansBy 11 = .ok (.isub, 1) := by decide +kernel
theorem dX12_leansBy_12 : decode cX12_leansBy 12 = .ok (.istore 5, 2) := by decide +kernel
theorem dX12_leansBy_14 : decode cX12_leansBy 14 = .ok (.iload_n 2, 1) := by decide +kernel
theorem dX12_leansBy_15 : decode cX12_leansBy 15 = .ok (.iconst 5, 1) := by decide +kernel
theorem dX12_leansBy_16 : decode cX12_leansBy 16 = .ok (.if_icmp .ge 8, 3) := by decide +kernel
theorem dX12_leansBy_19 : decode cX12_leansBy 19 = .ok (.bipush (-3), 2) := by decide +kernel
theorem dX12_leansBy_21 : decode cX12_leansBy 21 = .ok (.goto 4, 3) := by decide +kernel
theorem dX12_leansBy_24 : decode cX12_leansBy 24 = .ok (.iconst (-1), 1) := by decide +kernel
theorem dX12_leansBy_25 : decode cX12_leansBy 25 = .ok (.istore 6, 2) := by decide +kernel
theorem dX12_leansBy_27 : decode cX12_leansBy 27 = .ok (.iload_n 0, 1) := by decide +kernel
theorem dX12_leansBy_28 : decode cX12_leansBy 28 = .ok (.tableswitch 67 1 5 #[36, 42, 45, 60, 63], 36) := by decide +kernel
theorem dX12_leansBy_64 : decode cX12_leansBy 64 = .ok (.iload_n 3, 1) := by decide +kernel
theorem dX12_leansBy_65 : decode cX12_leansBy 65 = .ok (.iload_n 1, 1) := by decide +kernel
theorem dX12_leansBy_66 : decode cX12_leansBy 66 = .ok (.imul, 1) := by decide +kernel
theorem dX12_leansBy_67 : decode cX12_leansBy 67 = .ok (.iconst 1, 1) := by decide +kernel
theorem dX12_leansBy_68 : decode cX12_leansBy 68 = .ok (.iadd, 1) := by decide +kernel
theorem dX12_leansBy_69 : decode cX12_leansBy 69 = .ok (.ireturn, 1) := by decide +kernel
theorem dX12_leansBy_70 : decode cX12_leansBy 70 = .ok (.iload 6, 2) := by decide +kernel
theorem dX12_leansBy_72 : decode cX12_leansBy 72 = .ok (.ireturn, 1) := by decide +kernel
theorem dX12_leansBy_73 : decode cX12_leansBy 73 = .ok (.iload 4, 2) := by decide +kernel
theorem dX12_leansBy_75 : decode cX12_leansBy 75 = .ok (.iconst 2, 1) := by decide +kernel
theorem dX12_leansBy_76 : decode cX12_leansBy 76 = .ok (.irem, 1) := by decide +kernel
theorem dX12_leansBy_77 : decode cX12_leansBy 77 = .ok (.iconst 1, 1) := by decide +kernel
theorem dX12_leansBy_78 : decode cX12_leansBy 78 = .ok (.if_icmp .ne 7, 3) := by decide +kernel
theorem dX12_leansBy_81 : decode cX12_leansBy 81 = .ok (.iconst 0, 1) := by decide +kernel
theorem dX12_leansBy_82 : decode cX12_leansBy 82 = .ok (.goto 5, 3) := by decide +kernel
theorem dX12_leansBy_85 : decode cX12_leansBy 85 = .ok (.iload 6, 2) := by decide +kernel
theorem dX12_leansBy_87 : decode cX12_leansBy 87 = .ok (.ireturn, 1) := by decide +kernel
theorem dX12_leansBy_88 : decode cX12_leansBy 88 = .ok (.iload 5, 2) := by decide +kernel
theorem dX12_leansBy_90 : decode cX12_leansBy 90 = .ok (.ireturn, 1) := by decide +kernel
theorem dX12_leansBy_91 : decode cX12_leansBy 91 = .ok (.iload 5, 2) := by decide +kernel
theorem dX12_leansBy_93 : decode cX12_leansBy 93 = .ok (.ineg, 1) := by decide +kernel
theorem dX12_leansBy_94 : decode cX12_leansBy 94 = .ok (.ireturn, 1) := by decide +kernel
theorem dX12_leansBy_95 : decode cX12_leansBy 95 = .ok (.iload_n 1, 1) := by decide +kernel
theorem dX12_leansBy_96 : decode cX12_leansBy 96 = .ok (.iconst 1, 1) := by decide +kernel
theorem dX12_leansBy_97 : decode cX12_leansBy 97 = .ok (.isub, 1) := by decide +kernel
theorem dX12_leansBy_98 : decode cX12_leansBy 98 = .ok (.ireturn, 1) := by decide +kernel
def r_leansBy_25 (a0 : Int32) (a1 : Int32) (a3 : Int32) (a4 : Int32) (a5 : Int32) (s0 : Int32) (m : M) : Option (Int32) :=
  (if a0 = (1 : Int32) then some ((a3 * a1) + (1 : Int32)) else (if a0 = (2 : Int32) then some s0 else (if a0 = (3 : Int32) then (if (a4 - a4 / (2 : Int32) * (2 : Int32)) = (1 : Int32) then some (0 : Int32) else some s0) else (if a0 = (4 : Int32) then some a5 else (if a0 = (5 : Int32) then some (-a5) else some (a1 - (1 : Int32)))))))
set_option maxRecDepth 20000 in
theorem t_r_leansBy_25 {G : GG} {x : Cx} (E : En G x cX12_leansBy "WreckBoardModel" 1 (some .int)) (hn : xn x = 7) (a0 : Int32) (a1 : Int32) (a3 : Int32) (a4 : Int32) (a5 : Int32) (s0 : Int32) (m : M) : Sm G x 25 [(0, .int a0), (1, .int a1), (3, .int a3), (4, .int a4), (5, .int a5)] [.int s0] m (r_leansBy_25 a0 a1 a3 a4 a5 s0 m) (KRi m) := by
  unfold r_leansBy_25
  refine s_istore (lv' := [(0, .int a0), (1, .int a1), (3, .int a3), (4, .int a4), (5, .int a5), (6, .int s0)]) [1, 2, 3, 4, 5, 0] E dX12_leansBy_25 (by rw [hn]; decide) rfl ?_
  refine s_iload_n 0 E dX12_leansBy_27 rfl rfl ?_
  refine s_case (fun h28_0 => ?_) (fun h28_0 => ?_)
  · refine s_tabIn 64 E dX12_leansBy_28 h28_0 (by decide) (by decide) rfl (by decide) ?_
    refine s_iload_n 2 E dX12_leansBy_64 rfl rfl ?_
    refine s_iload_n 1 E dX12_leansBy_65 rfl rfl ?_
    refine s_imul E dX12_leansBy_66 ?_
    refine s_iconst (v := (1 : Int32)) E dX12_leansBy_67 (by decide) ?_
    refine s_iadd E dX12_leansBy_68 ?_
    exact s_iret E rfl dX12_leansBy_69
  · refine s_case (fun h28_1 => ?_) (fun h28_1 => ?_)
    · refine s_tabIn 70 E dX12_leansBy_28 h28_1 (by decide) (by decide) rfl (by decide) ?_
      refine s_iload 5 E dX12_leansBy_70 rfl ?_
      exact s_iret E rfl dX12_leansBy_72
    · refine s_case (fun h28_2 => ?_) (fun h28_2 => ?_)
      · refine s_tabIn 73 E dX12_leansBy_28 h28_2 (by decide) (by decide) rfl (by decide) ?_
        refine s_iload 3 E dX12_leansBy_73 rfl ?_
        refine s_iconst (v := (2 : Int32)) E dX12_leansBy_75 (by decide) ?_
        refine s_iremc E dX12_leansBy_76 (by decide) ?_
        refine s_iconst (v := (1 : Int32)) E dX12_leansBy_77 (by decide) ?_
        refine s_icmp_ne 85 E dX12_leansBy_78 (by decide) ?_ ?_
        · refine s_iload 5 E dX12_leansBy_85 rfl ?_
          exact s_iret E rfl dX12_leansBy_87
        · refine s_iconst (v := (0 : Int32)) E dX12_leansBy_81 (by decide) ?_
          refine s_goto 87 E dX12_leansBy_82 (by decide) ?_
          exact s_iret E rfl dX12_leansBy_87
      · refine s_case (fun h28_3 => ?_) (fun h28_3 => ?_)
        · refine s_tabIn 88 E dX12_leansBy_28 h28_3 (by decide) (by decide) rfl (by decide) ?_
          refine s_iload 4 E dX12_leansBy_88 rfl ?_
          exact s_iret E rfl dX12_leansBy_90
        · refine s_case (fun h28_4 => ?_) (fun h28_4 => ?_)
          · refine s_tabIn 91 E dX12_leansBy_28 h28_4 (by decide) (by decide) rfl (by decide) ?_
            refine s_iload 4 E dX12_leansBy_91 rfl ?_
            refine s_ineg E dX12_leansBy_93 ?_
            exact s_iret E rfl dX12_leansBy_94
          · refine s_tabOut 95 E dX12_leansBy_28 (by have e0 := ne_toIntK h28_0 (k := 1) (by decide); have e1 := ne_toIntK h28_1 (k := 2) (by decide); have e2 := ne_toIntK h28_2 (k := 3) (by decide); have e3 := ne_toIntK h28_3 (k := 4) (by decide); have e4 := ne_toIntK h28_4 (k := 5) (by decide); omega) (by decide) ?_
            refine s_iload_n 1 E dX12_leansBy_95 rfl rfl ?_
            refine s_iconst (v := (1 : Int32)) E dX12_leansBy_96 (by decide) ?_
            refine s_isub E dX12_leansBy_97 ?_
            exact s_iret E rfl dX12_leansBy_98
def r_leansBy_12 (a0 : Int32) (a1 : Int32) (a2 : Int32) (a3 : Int32) (a4 : Int32) (s0 : Int32) (m : M) : Option (Int32) :=
  (if (5 : Int32) ≤ a2 then r_leansBy_25 a0 a1 a3 a4 s0 (-1 : Int32) m else r_leansBy_25 a0 a1 a3 a4 s0 (-3 : Int32) m)
set_option maxRecDepth 20000 in
theorem t_r_leansBy_12 {G : GG} {x : Cx} (E : En G x cX12_leansBy "WreckBoardModel" 1 (some .int)) (hn : xn x = 7) (a0 : Int32) (a1 : Int32) (a2 : Int32) (a3 : Int32) (a4 : Int32) (s0 : Int32) (m : M) : Sm G x 12 [(0, .int a0), (1, .int a1), (2, .int a2), (3, .int a3), (4, .int a4)] [.int s0] m (r_leansBy_12 a0 a1 a2 a3 a4 s0 m) (KRi m) := by
  unfold r_leansBy_12
  refine s_istore (lv' := [(0, .int a0), (1, .int a1), (2, .int a2), (3, .int a3), (4, .int a4), (5, .int s0)]) [1, 2, 3, 4, 5, 0] E dX12_leansBy_12 (by rw [hn]; decide) rfl ?_
  refine s_iload_n 2 E dX12_leansBy_14 rfl rfl ?_
  refine s_iconst (v := (5 : Int32)) E dX12_leansBy_15 (by decide) ?_
  refine s_icmp_ge 24 E dX12_leansBy_16 (by decide) ?_ ?_
  · refine s_iconst (v := (-1 : Int32)) E dX12_leansBy_24 (by decide) ?_
    refine s_sub (lv' := [(0, .int a0), (1, .int a1), (3, .int a3), (4, .int a4), (5, .int s0)]) [0, 1, 3, 4, 5] rfl ?_
    exact t_r_leansBy_25 E hn a0 a1 a3 a4 s0 (-1 : Int32) m
  · refine s_bipush (v := (-3 : Int32)) E dX12_leansBy_19 (by decide) ?_
    refine s_goto 25 E dX12_leansBy_21 (by decide) ?_
    refine s_sub (lv' := [(0, .int a0), (1, .int a1), (3, .int a3), (4, .int a4), (5, .int s0)]) [0, 1, 3, 4, 5] rfl ?_
    exact t_r_leansBy_25 E hn a0 a1 a3 a4 s0 (-3 : Int32) m
def r_leansBy (a0 : Int32) (a1 : Int32) (a2 : Int32) (a3 : Int32) (a4 : Int32) (m : M) : Option (Int32) :=
  (if a1 = (2 : Int32) then r_leansBy_12 a0 a1 a2 a3 a4 a3 m else r_leansBy_12 a0 a1 a2 a3 a4 (a1 - (1 : Int32)) m)
set_option maxRecDepth 20000 in
theorem t_r_leansBy {G : GG} {x : Cx} (E : En G x cX12_leansBy "WreckBoardModel" 1 (some .int)) (hn : xn x = 7) (a0 : Int32) (a1 : Int32) (a2 : Int32) (a3 : Int32) (a4 : Int32) (m : M) : Sm G x 0 [(0, .int a0), (1, .int a1), (2, .int a2), (3, .int a3), (4, .int a4)] [] m (r_leansBy a0 a1 a2 a3 a4 m) (KRi m) := by
  unfold r_leansBy
  refine s_iload_n 1 E dX12_leansBy_0 rfl rfl ?_
  refine s_iconst (v := (2 : Int32)) E dX12_leansBy_1 (by decide) ?_
  refine s_icmp_ne 9 E dX12_leansBy_2 (by decide) ?_ ?_
  · refine s_iload_n 1 E dX12_leansBy_9 rfl rfl ?_
    refine s_iconst (v := (1 : Int32)) E dX12_leansBy_10 (by decide) ?_
    refine s_isub E dX12_leansBy_11 ?_
    exact t_r_leansBy_12 E hn a0 a1 a2 a3 a4 (a1 - (1 : Int32)) m
  · refine s_iload_n 3 E dX12_leansBy_5 rfl rfl ?_
    refine s_goto 12 E dX12_leansBy_6 (by decide) ?_
    exact t_r_leansBy_12 E hn a0 a1 a2 a3 a4 a3 m
set_option maxRecDepth 20000 in
theorem C_r_leansBy (l : Launch) (G : GG) (a0 : Int32) (a1 : Int32) (a2 : Int32) (a3 : Int32) (a4 : Int32) (m : M) {z : Int32} (hz : r_leansBy a0 a1 a2 a3 a4 m = some z) : Ct l G yX12_leansBy cX12_leansBy 7 (some .int) 1 [.int a0, .int a1, .int a2, .int a3, .int a4] m (some (.int z)) m :=
  ct_of (K := (KRi m)) (by decide) (Nat.le_of_ble_eq_true rfl) (congrArg (fun q => Option.bind q _) hz) (fun x hl hn E => (t_r_leansBy E hn a0 a1 a2 a3 a4 m))
theorem mdX12_leansBy : mdq yX12_leansBy 5 := ⟨by decide, by decide, by decide +kernel⟩
theorem dX12_leansOf_0 : decode cX12_leansOf 0 = .ok (.aload_n 0, 1) := by decide +kernel
theorem dX12_leansOf_1 : decode cX12_leansOf 1 = .ok (.iload_n 1, 1) := by decide +kernel
theorem dX12_leansOf_2 : decode cX12_leansOf 2 = .ok (.iconst 0, 1) := by decide +kernel
theorem dX12_leansOf_3 : decode cX12_leansOf 3 = .ok (.invokevirtual 79, 3) := by decide +kernel
theorem dX12_leansOf_6 : decode cX12_leansOf 6 = .ok (.aload_n 0, 1) := by decide +kernel
theorem dX12_leansOf_7 : decode cX12_leansOf 7 = .ok (.invokevirtual 83, 3) := by decide +kernel
theorem dX12_leansOf_10 : decode cX12_leansOf 10 = .ok (.iconst 4, 1) := by decide +kernel
theorem dX12_leansOf_11 : decode cX12_leansOf 11 = .ok (.idiv, 1) := by decide +kernel
theorem dX12_leansOf_12 : decode cX12_leansOf 12 = .ok (.aload_n 0, 1) := by decide +kernel
theorem dX12_leansOf_13 : decode cX12_leansOf 13 = .ok (.getfield 9, 3) := by decide +kernel
theorem dX12_leansOf_16 : decode cX12_leansOf 16 = .ok (.iconst 3, 1) := by decide +kernel
theorem dX12_leansOf_17 : decode cX12_leansOf 17 = .ok (.iaload, 1) := by decide +kernel
theorem dX12_leansOf_18 : decode cX12_leansOf 18 = .ok (.aload_n 0, 1) := by decide +kernel
theorem dX12_leansOf_19 : decode cX12_leansOf 19 = .ok (.iload_n 1, 1) := by decide +kernel
theorem dX12_leansOf_20 : decode cX12_leansOf 20 = .ok (.iconst 2, 1) := by decide +kernel
theorem dX12_leansOf_21 : decode cX12_leansOf 21 = .ok (.invokevirtual 79, 3) := by decide +kernel
theorem dX12_leansOf_24 : decode cX12_leansOf 24 = .ok (.aload_n 0, 1) := by decide +kernel
theorem dX12_leansOf_25 : decode cX12_leansOf 25 = .ok (.getfield 9, 3) := by decide +kernel
theorem dX12_leansOf_28 : decode cX12_leansOf 28 = .ok (.iconst 0, 1) := by decide +kernel
theorem dX12_leansOf_29 : decode cX12_leansOf 29 = .ok (.iaload, 1) := by decide +kernel
theorem dX12_leansOf_30 : decode cX12_leansOf 30 = .ok (.invokestatic 87, 3) := by decide +kernel
theorem dX12_leansOf_33 : decode cX12_leansOf 33 = .ok (.aload_n 0, 1) := by decide +kernel
theorem dX12_leansOf_34 : decode cX12_leansOf 34 = .ok (.getfield 9, 3) := by decide +kernel
theorem dX12_leansOf_37 : decode cX12_leansOf 37 = .ok (.bipush 31, 2) := by decide +kernel
theorem dX12_leansOf_39 : decode cX12_leansOf 39 = .ok (.aload_n 0, 1) := by decide +kernel
theorem dX12_leansOf_40 : decode cX12_leansOf 40 = .ok (.iload_n 1, 1) := by decide +kernel
theorem dX12_leansOf_41 : decode cX12_leansOf 41 = .ok (.iconst 3, 1) := by decide +kernel
theorem dX12_leansOf_42 : decode cX12_leansOf 42 = .ok (.invokevirtual 79, 3) := by decide +kernel
theorem dX12_leansOf_45 : decode cX12_leansOf 45 = .ok (.iadd, 1) := by decide +kernel
theorem dX12_leansOf_46 : decode cX12_leansOf 46 = .ok (.iaload, 1) := by decide +kernel
theorem dX12_leansOf_47 : decode cX12_leansOf 47 = .ok (.iadd, 1) := by decide +kernel
theorem dX12_leansOf_48 : decode cX12_leansOf 48 = .ok (.ireturn, 1) := by decide +kernel
def r_leansOf (a1 : Int32) (m : M) : Option (Int32) :=
  Option.bind (r_get a1 (0 : Int32) m) (fun v1 => Option.bind (r_shipNow m) (fun v2 => Option.bind (rdI m 77 (3 : Int32)) (fun v3 => Option.bind (r_get a1 (2 : Int32) m) (fun v4 => Option.bind (rdI m 77 (0 : Int32)) (fun v5 => Option.bind (r_leansBy v1 (v2 / (4 : Int32)) v3 v4 v5 m) (fun v6 => Option.bind (r_get a1 (3 : Int32) m) (fun v7 => Option.bind (rdI m 77 ((31 : Int32) + v7)) (fun v8 => some (v6 + v8)))))))))
set_option maxRecDepth 20000 in
theorem t_r_leansOf {G : GG} {x : Cx} (E : En G x cX12_leansOf "WreckBoardModel" 2 (some .int)) (hn : xn x = 2) (a1 : Int32) (m : M) : Sm G x 0 [(0, .ref (G.2.1 76)), (1, .int a1)] [] m (r_leansOf a1 m) (KRi m) := by
  unfold r_leansOf
  refine s_aload_n 0 E dX12_leansOf_0 rfl rfl ?_
  refine s_iload_n 1 E dX12_leansOf_1 rfl rfl ?_
  refine s_iconst (v := (0 : Int32)) E dX12_leansOf_2 (by decide) ?_
  refine s_bd (fun v1 hz => ?_)
  refine s_cV (rest := []) E (C_r_get (xl x) G a1 (0 : Int32) m hz) mdX12_get W1453 W1455 W46 W103 W1456 rfl rfl rfl rfl (Nat.le_of_ble_eq_true rfl) ⟨by decide, by decide⟩ dX12_leansOf_3 ?_
  refine s_aload_n 0 E dX12_leansOf_6 rfl rfl ?_
  refine s_bd (fun v2 hz => ?_)
  refine s_cV (rest := [.int v1]) E (C_r_shipNow (xl x) G  m hz) mdX12_shipNow W1457 W1459 W47 W103 W1460 rfl rfl rfl rfl (Nat.le_of_ble_eq_true rfl) ⟨by decide, by decide⟩ dX12_leansOf_7 ?_
  refine s_iconst (v := (4 : Int32)) E dX12_leansOf_10 (by decide) ?_
  refine s_idivc E dX12_leansOf_11 (by decide) ?_
  refine s_aload_n 0 E dX12_leansOf_12 rfl rfl ?_
  refine s_getr (k := 0) (T := TX12) 76 E rfl rfl rfl inX12 (by decide) W1239 dX12_leansOf_13 ?_
  refine s_iconst (v := (3 : Int32)) E dX12_leansOf_16 (by decide) ?_
  refine s_iald E dX12_leansOf_17 (fun v3 => ?_)
  refine s_aload_n 0 E dX12_leansOf_18 rfl rfl ?_
  refine s_iload_n 1 E dX12_leansOf_19 rfl rfl ?_
  refine s_iconst (v := (2 : Int32)) E dX12_leansOf_20 (by decide) ?_
  refine s_bd (fun v4 hz => ?_)
  refine s_cV (rest := [.int v3, .int (v2 / (4 : Int32)), .int v1]) E (C_r_get (xl x) G a1 (2 : Int32) m hz) mdX12_get W1453 W1455 W46 W103 W1456 rfl rfl rfl rfl (Nat.le_of_ble_eq_true rfl) ⟨by decide, by decide⟩ dX12_leansOf_21 ?_
  refine s_aload_n 0 E dX12_leansOf_24 rfl rfl ?_
  refine s_getr (k := 0) (T := TX12) 76 E rfl rfl rfl inX12 (by decide) W1239 dX12_leansOf_25 ?_
  refine s_iconst (v := (0 : Int32)) E dX12_leansOf_28 (by decide) ?_
  refine s_iald E dX12_leansOf_29 (fun v5 => ?_)
  refine s_bd (fun v6 hz => ?_)
  refine s_cS (rest := []) E (C_r_leansBy (xl x) G v1 (v2 / (4 : Int32)) v3 v4 v5 m hz) mdX12_leansBy W1461 W1462 W103 W1463 rfl rfl (Nat.le_of_ble_eq_true rfl) ⟨by decide, by decide⟩ dX12_leansOf_30 ?_
  refine s_aload_n 0 E dX12_leansOf_33 rfl rfl ?_
  refine s_getr (k := 0) (T := TX12) 76 E rfl rfl rfl inX12 (by decide) W1239 dX12_leansOf_34 ?_
  refine s_bipush (v := (31 : Int32)) E dX12_leansOf_37 (by decide) ?_
  refine s_aload_n 0 E dX12_leansOf_39 rfl rfl ?_
  refine s_iload_n 1 E dX12_leansOf_40 rfl rfl ?_
  refine s_iconst (v := (3 : Int32)) E dX12_leansOf_41 (by decide) ?_
  refine s_bd (fun v7 hz => ?_)
  refine s_cV (rest := [.int (31 : Int32), .ref (G.2.1 77), .int v6]) E (C_r_get (xl x) G a1 (3 : Int32) m hz) mdX12_get W1453 W1455 W46 W103 W1456 rfl rfl rfl rfl (Nat.le_of_ble_eq_true rfl) ⟨by decide, by decide⟩ dX12_leansOf_42 ?_
  refine s_iadd E dX12_leansOf_45 ?_
  refine s_iald E dX12_leansOf_46 (fun v8 => ?_)
  refine s_iadd E dX12_leansOf_47 ?_
  exact s_iret E rfl dX12_leansOf_48
set_option maxRecDepth 20000 in
theorem C_r_leansOf (l : Launch) (G : GG) (a1 : Int32) (m : M) {z : Int32} (hz : r_leansOf a1 m = some z) : Ct l G yX12_leansOf cX12_leansOf 2 (some .int) 2 [.ref (G.2.1 76), .int a1] m (some (.int z)) m :=
  ct_of (K := (KRi m)) (by decide) (Nat.le_of_ble_eq_true rfl) (congrArg (fun q => Option.bind q _) hz) (fun x hl hn E => (t_r_leansOf E hn a1 m))
theorem mdX12_leansOf : mdq yX12_leansOf 1 := ⟨by decide, by decide, by decide +kernel⟩
theorem dX12_sideOf_0 : decode cX12_sideOf 0 = .ok (.aload_n 0, 1) := by decide +kernel
theorem dX12_sideOf_1 : decode cX12_sideOf 1 = .ok (.iload_n 1, 1) := by decide +kernel
theorem dX12_sideOf_2 : decode cX12_sideOf 2 = .ok (.invokevirtual 91, 3) := by decide +kernel
theorem dX12_sideOf_5 : decode cX12_sideOf 5 = .ok (.ifCond .le 7, 3) := by decide +kernel
theorem dX12_sideOf_8 : decode cX12_sideOf 8 = .ok (.iconst 2, 1) := by decide +kernel
theorem dX12_sideOf_9 : decode cX12_sideOf 9 = .ok (.goto 16, 3) := by decide +kernel
theorem dX12_sideOf_12 : decode cX12_sideOf 12 = .ok (.aload_n 0, 1) := by decide +kernel
theorem dX12_sideOf_13 : decode cX12_sideOf 13 = .ok (.iload_n 1, 1) := by decide +kernel
theorem dX12_sideOf_14 : decode cX12_sideOf 14 = .ok (.invokevirtual 91, 3) := by decide +kernel
theorem dX12_sideOf_17 : decode cX12_sideOf 17 = .ok (.ifCond .ge 7, 3) := by decide +kernel
theorem dX12_sideOf_20 : decode cX12_sideOf 20 = .ok (.iconst 0, 1) := by decide +kernel
theorem dX12_sideOf_21 : decode cX12_sideOf 21 = .ok (.goto 4, 3) := by decide +kernel
theorem dX12_sideOf_24 : decode cX12_sideOf 24 = .ok (.iconst 1, 1) := by decide +kernel
theorem dX12_sideOf_25 : decode cX12_sideOf 25 = .ok (.ireturn, 1) := by decide +kernel
def r_sideOf (a1 : Int32) (m : M) : Option (Int32) :=
  Option.bind (r_leansOf a1 m) (fun v1 => (if v1 ≤ 0 then Option.bind (r_leansOf a1 m) (fun v2 => (if 0 ≤ v2 then some (1 : Int32) else some (0 : Int32))) else some (2 : Int32)))
set_option maxRecDepth 20000 in
theorem t_r_sideOf {G : GG} {x : Cx} (E : En G x cX12_sideOf "WreckBoardModel" 3 (some .int)) (hn : xn x = 2) (a1 : Int32) (m : M) : Sm G x 0 [(0, .ref (G.2.1 76)), (1, .int a1)] [] m (r_sideOf a1 m) (KRi m) := by
  unfold r_sideOf
  refine s_aload_n 0 E dX12_sideOf_0 rfl rfl ?_
  refine s_iload_n 1 E dX12_sideOf_1 rfl rfl ?_
  refine s_bd (fun v1 hz => ?_)
  refine s_cV (rest := []) E (C_r_leansOf (xl x) G a1 m hz) mdX12_leansOf W1449 W1451 W45 W103 W1452 rfl rfl rfl rfl (Nat.le_of_ble_eq_true rfl) ⟨by decide, by decide⟩ dX12_sideOf_2 ?_
  refine s_if_le 12 E dX12_sideOf_5 (by decide) ?_ ?_
  · refine s_aload_n 0 E dX12_sideOf_12 rfl rfl ?_
    refine s_iload_n 1 E dX12_sideOf_13 rfl rfl ?_
    refine s_bd (fun v2 hz => ?_)
    refine s_cV (rest := []) E (C_r_leansOf (xl x) G a1 m hz) mdX12_leansOf W1449 W1451 W45 W103 W1452 rfl rfl rfl rfl (Nat.le_of_ble_eq_true rfl) ⟨by decide, by decide⟩ dX12_sideOf_14 ?_
    refine s_if_ge 24 E dX12_sideOf_17 (by decide) ?_ ?_
    · refine s_iconst (v := (1 : Int32)) E dX12_sideOf_24 (by decide) ?_
      exact s_iret E rfl dX12_sideOf_25
    · refine s_iconst (v := (0 : Int32)) E dX12_sideOf_20 (by decide) ?_
      refine s_goto 25 E dX12_sideOf_21 (by decide) ?_
      exact s_iret E rfl dX12_sideOf_25
  · refine s_iconst (v := (2 : Int32)) E dX12_sideOf_8 (by decide) ?_
    refine s_goto 25 E dX12_sideOf_9 (by decide) ?_
    exact s_iret E rfl dX12_sideOf_25
set_option maxRecDepth 20000 in
theorem C_r_sideOf (l : Launch) (G : GG) (a1 : Int32) (m : M) {z : Int32} (hz : r_sideOf a1 m = some z) : Ct l G yX12_sideOf cX12_sideOf 2 (some .int) 3 [.ref (G.2.1 76), .int a1] m (some (.int z)) m :=
  ct_of (K := (KRi m)) (by decide) (Nat.le_of_ble_eq_true rfl) (congrArg (fun q => Option.bind q _) hz) (fun x hl hn E => (t_r_sideOf E hn a1 m))
theorem mdX12_sideOf : mdq yX12_sideOf 1 := ⟨by decide, by decide, by decide +kernel⟩
theorem dX12_weighsOf_0 : decode cX12_weighsOf 0 = .ok (.aload_n 0, 1) := by decide +kernel
theorem dX12_weighsOf_1 : decode cX12_weighsOf 1 = .ok (.iload_n 1, 1) := by decide +kernel
theorem dX12_weighsOf_2 : decode cX12_weighsOf 2 = .ok (.iconst 1, 1) := by decide +kernel
theorem dX12_weighsOf_3 : decode cX12_weighsOf 3 = .ok (.invokevirtual 79, 3) := by decide +kernel
theorem dX12_weighsOf_6 : decode cX12_weighsOf 6 = .ok (.istore_n 2, 1) := by decide +kernel
theorem dX12_weighsOf_7 : decode cX12_weighsOf 7 = .ok (.iload_n 2, 1) := by decide +kernel
theorem dX12_weighsOf_8 : decode cX12_weighsOf 8 = .ok (.iconst 1, 1) := by decide +kernel
theorem dX12_weighsOf_9 : decode cX12_weighsOf 9 = .ok (.iadd, 1) := by decide +kernel
theorem dX12_weighsOf_10 : decode cX12_weighsOf 10 = .ok (.iconst 2, 1) := by decide +kernel
theorem dX12_weighsOf_11 : decode cX12_weighsOf 11 = .ok (.idiv, 1) := by decide +kernel
theorem dX12_weighsOf_12 : decode cX12_weighsOf 12 = .ok (.istore_n 3, 1) := by decide +kernel
theorem dX12_weighsOf_13 : decode cX12_weighsOf 13 = .ok (.iload_n 2, 1) := by decide +kernel
theorem dX12_weighsOf_14 : decode cX12_weighsOf 14 = .ok (.istore 4, 2) := by decide +kernel
theorem dX12_weighsOf_16 : decode cX12_weighsOf 16 = .ok (.aload_n 0, 1) := by decide +kernel
theorem dX12_weighsOf_17 : decode cX12_weighsOf 17 = .ok (.iload_n 1, 1) := by decide +kernel
theorem dX12_weighsOf_18 : decode cX12_weighsOf 18 = .ok (.iconst 0, 1) := by decide +kernel
theorem dX12_weighsOf_19 : decode cX12_weighsOf 19 = .ok (.invokevirtual 79, 3) := by decide +kernel
theorem dX12_weighsOf_22 : decode cX12_weighsOf 22 = .ok (.tableswitch 81 1 5 #[34, 42, 50, 60, 66], 34) := by decide +kernel
theorem dX12_weighsOf_56 : decode cX12_weighsOf 56 = .ok (.iload_n 2, 1) := by decide +kernel
theorem dX12_weighsOf_57 : decode cX12_weighsOf 57 = .ok (.iconst 1, 1) := by decide +kernel
theorem dX12_weighsOf_58 : decode cX12_weighsOf 58 = .ok (.iadd, 1) := by decide +kernel
theorem dX12_weighsOf_59 : decode cX12_weighsOf 59 = .ok (.istore 4, 2) := by decide +kernel
theorem dX12_weighsOf_61 : decode cX12_weighsOf 61 = .ok (.goto 42, 3) := by decide +kernel
theorem dX12_weighsOf_64 : decode cX12_weighsOf 64 = .ok (.iconst 2, 1) := by decide +kernel
theorem dX12_weighsOf_65 : decode cX12_weighsOf 65 = .ok (.iload_n 2, 1) := by decide +kernel
theorem dX12_weighsOf_66 : decode cX12_weighsOf 66 = .ok (.imul, 1) := by decide +kernel
theorem dX12_weighsOf_67 : decode cX12_weighsOf 67 = .ok (.istore 4, 2) := by decide +kernel
theorem dX12_weighsOf_69 : decode cX12_weighsOf 69 = .ok (.goto 34, 3) := by decide +kernel
theorem dX12_weighsOf_72 : decode cX12_weighsOf 72 = .ok (.iconst 2, 1) := by decide +kernel
theorem dX12_weighsOf_73 : decode cX12_weighsOf 73 = .ok (.iload_n 2, 1) := by decide +kernel
theorem dX12_weighsOf_74 : decode cX12_weighsOf 74 = .ok (.imul, 1) := by decide +kernel
theorem dX12_weighsOf_75 : decode cX12_weighsOf 75 = .ok (.iload_n 1, 1) := by decide +kernel
theorem dX12_weighsOf_76 : decode cX12_weighsOf 76 = .ok (.iadd, 1) := by decide +kernel
theorem dX12_weighsOf_77 : decode cX12_weighsOf 77 = .ok (.istore 4, 2) := by decide +kernel
theorem dX12_weighsOf_79 : decode cX12_weighsOf 79 = .ok (.goto 24, 3) := by decide +kernel
theorem dX12_weighsOf_82 : decode cX12_weighsOf 82 = .ok (.iload_n 3, 1) := by decide +kernel
theorem dX12_weighsOf_83 : decode cX12_weighsOf 83 = .ok (.istore 4, 2) := by decide +kernel
theorem dX12_weighsOf_85 : decode cX12_weighsOf 85 = .ok (.goto 18, 3) := by decide +kernel
theorem dX12_weighsOf_88 : decode cX12_weighsOf 88 = .ok (.iload_n 3, 1) := by decide +kernel
theorem dX12_weighsOf_89 : decode cX12_weighsOf 89 = .ok (.iconst 3, 1) := by decide +kernel
theorem dX12_weighsOf_90 : decode cX12_weighsOf 90 = .ok (.if_icmp .le 7, 3) := by decide +kernel
theorem dX12_weighsOf_93 : decode cX12_weighsOf 93 = .ok (.iconst 3, 1) := by decide +kernel
theorem dX12_weighsOf_94 : decode cX12_weighsOf 94 = .ok (.goto 4, 3) := by decide +kernel
theorem dX12_weighsOf_97 : decode cX12_weighsOf 97 = .ok (.iload_n 3, 1) := by decide +kernel
theorem dX12_weighsOf_98 : decode cX12_weighsOf 98 = .ok (.istore 4, 2) := by decide +kernel
theorem dX12_weighsOf_100 : decode cX12_weighsOf 100 = .ok (.goto 3, 3) := by decide +kernel
theorem dX12_weighsOf_103 : decode cX12_weighsOf 103 = .ok (.iload 4, 2) := by decide +kernel
theorem dX12_weighsOf_105 : decode cX12_weighsOf 105 = .ok (.aload_n 0, 1) := by decide +kernel
theorem dX12_weighsOf_106 : decode cX12_weighsOf 106 = .ok (.getfield 9, 3) := by decide +kernel
theorem dX12_weighsOf_109 : decode cX12_weighsOf 109 = .ok (.bipush 25, 2) := by decide +kernel
theorem dX12_weighsOf_111 : decode cX12_weighsOf 111 = .ok (.aload_n 0, 1) := by decide +kernel
theorem dX12_weighsOf_112 : decode cX12_weighsOf 112 = .ok (.iload_n 1, 1) := by decide +kernel
theorem dX12_weighsOf_113 : decode cX12_weighsOf 113 = .ok (.iconst 3, 1) := by decide +kernel
theorem dX12_weighsOf_114 : decode cX12_weighsOf 114 = .ok (.invokevirtual 79, 3) := by decide +kernel
theorem dX12_weighsOf_117 : decode cX12_weighsOf 117 = .ok (.iadd, 1) := by decide +kernel
theorem dX12_weighsOf_118 : decode cX12_weighsOf 118 = .ok (.iaload, 1) := by decide +kernel
theorem dX12_weighsOf_119 : decode cX12_weighsOf 119 = .ok (.isub, 1) := by decide +kernel
theorem dX12_weighsOf_120 : decode cX12_weighsOf 120 = .ok (.istore 4, 2) := by decide +kernel
theorem dX12_weighsOf_122 : decode cX12_weighsOf 122 = .ok (.iload 4, 2) := by decide +kernel
theorem dX12_weighsOf_124 : decode cX12_weighsOf 124 = .ok (.ifCond .ge 7, 3) := by decide +kernel
theorem dX12_weighsOf_127 : decode cX12_weighsOf 127 = .ok (.iconst 0, 1) := by decide +kernel
theorem dX12_weighsOf_128 : decode cX12_weighsOf 128 = .ok (.goto 5, 3) := by decide +kernel
theorem dX12_weighsOf_131 : decode cX12_weighsOf 131 = .ok (.iload 4, 2) := by decide +kernel
theorem dX12_weighsOf_133 : decode cX12_weighsOf 133 = .ok (.ireturn, 1) := by decide +kernel
def r_weighsOf_103 (a1 : Int32) (a4 : Int32) (m : M) : Option (Int32) :=
  Option.bind (r_get a1 (3 : Int32) m) (fun v1 => Option.bind (rdI m 77 ((25 : Int32) + v1)) (fun v2 => lt (a4 - v2) (fun w3 : Int32 => (if 0 ≤ w3 then some w3 else some (0 : Int32)))))
set_option maxRecDepth 20000 in
theorem t_r_weighsOf_103 {G : GG} {x : Cx} (E : En G x cX12_weighsOf "WreckBoardModel" 2 (some .int)) (hn : xn x = 5) (a1 : Int32) (a4 : Int32) (m : M) : Sm G x 103 [(0, .ref (G.2.1 76)), (1, .int a1), (4, .int a4)] [] m (r_weighsOf_103 a1 a4 m) (KRi m) := by
  unfold r_weighsOf_103
  refine s_iload 2 E dX12_weighsOf_103 rfl ?_
  refine s_aload_n 0 E dX12_weighsOf_105 rfl rfl ?_
  refine s_getr (k := 0) (T := TX12) 76 E rfl rfl rfl inX12 (by decide) W1239 dX12_weighsOf_106 ?_
  refine s_bipush (v := (25 : Int32)) E dX12_weighsOf_109 (by decide) ?_
  refine s_aload_n 0 E dX12_weighsOf_111 rfl rfl ?_
  refine s_iload_n 1 E dX12_weighsOf_112 rfl rfl ?_
  refine s_iconst (v := (3 : Int32)) E dX12_weighsOf_113 (by decide) ?_
  refine s_bd (fun v1 hz => ?_)
  refine s_cV (rest := [.int (25 : Int32), .ref (G.2.1 77), .int a4]) E (C_r_get (xl x) G a1 (3 : Int32) m hz) mdX12_get W1453 W1455 W46 W103 W1456 rfl rfl rfl rfl (Nat.le_of_ble_eq_true rfl) ⟨by decide, by decide⟩ dX12_weighsOf_114 ?_
  refine s_iadd E dX12_weighsOf_117 ?_
  refine s_iald E dX12_weighsOf_118 (fun v2 => ?_)
  refine s_isub E dX12_weighsOf_119 ?_
  refine s_lt (fun w3 => [(0, .ref (G.2.1 76)), (1, .int a1), (4, .int a4)]) (fun w3 => [.int w3]) rfl rfl (fun w3 => ?_)
  refine s_istore (lv' := [(4, .int w3)]) [0] E dX12_weighsOf_120 (by rw [hn]; decide) rfl ?_
  refine s_iload 0 E dX12_weighsOf_122 rfl ?_
  refine s_if_ge 131 E dX12_weighsOf_124 (by decide) ?_ ?_
  · refine s_iload 0 E dX12_weighsOf_131 rfl ?_
    exact s_iret E rfl dX12_weighsOf_133
  · refine s_iconst (v := (0 : Int32)) E dX12_weighsOf_127 (by decide) ?_
    refine s_goto 133 E dX12_weighsOf_128 (by decide) ?_
    exact s_iret E rfl dX12_weighsOf_133
def r_weighsOf_98 (a1 : Int32) (s0 : Int32) (m : M) : Option (Int32) :=
  r_weighsOf_103 a1 s0 m
set_option maxRecDepth 20000 in
theorem t_r_weighsOf_98 {G : GG} {x : Cx} (E : En G x cX12_weighsOf "WreckBoardModel" 2 (some .int)) (hn : xn x = 5) (a1 : Int32) (s0 : Int32) (m : M) : Sm G x 98 [(0, .ref (G.2.1 76)), (1, .int a1)] [.int s0] m (r_weighsOf_98 a1 s0 m) (KRi m) := by
  unfold r_weighsOf_98
  refine s_istore (lv' := [(0, .ref (G.2.1 76)), (1, .int a1), (4, .int s0)]) [1, 2, 0] E dX12_weighsOf_98 (by rw [hn]; decide) rfl ?_
  refine s_goto 103 E dX12_weighsOf_100 (by decide) ?_
  exact t_r_weighsOf_103 E hn a1 s0 m
def r_weighsOf (a1 : Int32) (m : M) : Option (Int32) :=
  Option.bind (r_get a1 (1 : Int32) m) (fun v1 => lt ((v1 + (1 : Int32)) / (2 : Int32)) (fun w2 : Int32 => Option.bind (r_get a1 (0 : Int32) m) (fun v3 => (if v3 = (1 : Int32) then lt (v1 + (1 : Int32)) (fun w4 : Int32 => r_weighsOf_103 a1 w4 m) else (if v3 = (2 : Int32) then lt ((2 : Int32) * v1) (fun w5 : Int32 => r_weighsOf_103 a1 w5 m) else (if v3 = (3 : Int32) then lt (((2 : Int32) * v1) + a1) (fun w6 : Int32 => r_weighsOf_103 a1 w6 m) else (if v3 = (4 : Int32) then r_weighsOf_103 a1 w2 m else (if v3 = (5 : Int32) then (if w2 ≤ (3 : Int32) then r_weighsOf_98 a1 w2 m else r_weighsOf_98 a1 (3 : Int32) m) else r_weighsOf_103 a1 v1 m))))))))
set_option maxRecDepth 20000 in
theorem t_r_weighsOf {G : GG} {x : Cx} (E : En G x cX12_weighsOf "WreckBoardModel" 2 (some .int)) (hn : xn x = 5) (a1 : Int32) (m : M) : Sm G x 0 [(0, .ref (G.2.1 76)), (1, .int a1)] [] m (r_weighsOf a1 m) (KRi m) := by
  unfold r_weighsOf
  refine s_aload_n 0 E dX12_weighsOf_0 rfl rfl ?_
  refine s_iload_n 1 E dX12_weighsOf_1 rfl rfl ?_
  refine s_iconst (v := (1 : Int32)) E dX12_weighsOf_2 (by decide) ?_
  refine s_bd (fun v1 hz => ?_)
  refine s_cV (rest := []) E (C_r_get (xl x) G a1 (1 : Int32) m hz) mdX12_get W1453 W1455 W46 W103 W1456 rfl rfl rfl rfl (Nat.le_of_ble_eq_true rfl) ⟨by decide, by decide⟩ dX12_weighsOf_3 ?_
  refine s_istore_n (lv' := [(0, .ref (G.2.1 76)), (1, .int a1), (2, .int v1)]) [1, 2, 0] E dX12_weighsOf_6 rfl (by rw [hn]; decide) rfl ?_
  refine s_iload_n 2 E dX12_weighsOf_7 rfl rfl ?_
  refine s_iconst (v := (1 : Int32)) E dX12_weighsOf_8 (by decide) ?_
  refine s_iadd E dX12_weighsOf_9 ?_
  refine s_iconst (v := (2 : Int32)) E dX12_weighsOf_10 (by decide) ?_
  refine s_idivc E dX12_weighsOf_11 (by decide) ?_
  refine s_lt (fun w2 => [(0, .ref (G.2.1 76)), (1, .int a1), (2, .int v1)]) (fun w2 => [.int w2]) rfl rfl (fun w2 => ?_)
  refine s_istore_n (lv' := [(0, .ref (G.2.1 76)), (1, .int a1), (2, .int v1), (3, .int w2)]) [1, 2, 3, 0] E dX12_weighsOf_12 rfl (by rw [hn]; decide) rfl ?_
  refine s_iload_n 2 E dX12_weighsOf_13 rfl rfl ?_
  refine s_istore (lv' := [(0, .ref (G.2.1 76)), (1, .int a1), (2, .int v1), (3, .int w2), (4, .int v1)]) [1, 2, 3, 4, 0] E dX12_weighsOf_14 (by rw [hn]; decide) rfl ?_
  refine s_aload_n 0 E dX12_weighsOf_16 rfl rfl ?_
  refine s_iload_n 1 E dX12_weighsOf_17 rfl rfl ?_
  refine s_iconst (v := (0 : Int32)) E dX12_weighsOf_18 (by decide) ?_
  refine s_bd (fun v3 hz => ?_)
  refine s_cV (rest := []) E (C_r_get (xl x) G a1 (0 : Int32) m hz) mdX12_get W1453 W1455 W46 W103 W1456 rfl rfl rfl rfl (Nat.le_of_ble_eq_true rfl) ⟨by decide, by decide⟩ dX12_weighsOf_19 ?_
  refine s_case (fun h22_0 => ?_) (fun h22_0 => ?_)
  · refine s_tabIn 56 E dX12_weighsOf_22 h22_0 (by decide) (by decide) rfl (by decide) ?_
    refine s_iload_n 2 E dX12_weighsOf_56 rfl rfl ?_
    refine s_iconst (v := (1 : Int32)) E dX12_weighsOf_57 (by decide) ?_
    refine s_iadd E dX12_weighsOf_58 ?_
    refine s_lt (fun w4 => [(0, .ref (G.2.1 76)), (1, .int a1), (2, .int v1), (3, .int w2), (4, .int v1)]) (fun w4 => [.int w4]) rfl rfl (fun w4 => ?_)
    refine s_istore (lv' := [(0, .ref (G.2.1 76)), (1, .int a1), (4, .int w4)]) [1, 2, 0] E dX12_weighsOf_59 (by rw [hn]; decide) rfl ?_
    refine s_goto 103 E dX12_weighsOf_61 (by decide) ?_
    exact t_r_weighsOf_103 E hn a1 w4 m
  · refine s_case (fun h22_1 => ?_) (fun h22_1 => ?_)
    · refine s_tabIn 64 E dX12_weighsOf_22 h22_1 (by decide) (by decide) rfl (by decide) ?_
      refine s_iconst (v := (2 : Int32)) E dX12_weighsOf_64 (by decide) ?_
      refine s_iload_n 2 E dX12_weighsOf_65 rfl rfl ?_
      refine s_imul E dX12_weighsOf_66 ?_
      refine s_lt (fun w5 => [(0, .ref (G.2.1 76)), (1, .int a1), (2, .int v1), (3, .int w2), (4, .int v1)]) (fun w5 => [.int w5]) rfl rfl (fun w5 => ?_)
      refine s_istore (lv' := [(0, .ref (G.2.1 76)), (1, .int a1), (4, .int w5)]) [1, 2, 0] E dX12_weighsOf_67 (by rw [hn]; decide) rfl ?_
      refine s_goto 103 E dX12_weighsOf_69 (by decide) ?_
      exact t_r_weighsOf_103 E hn a1 w5 m
    · refine s_case (fun h22_2 => ?_) (fun h22_2 => ?_)
      · refine s_tabIn 72 E dX12_weighsOf_22 h22_2 (by decide) (by decide) rfl (by decide) ?_
        refine s_iconst (v := (2 : Int32)) E dX12_weighsOf_72 (by decide) ?_
        refine s_iload_n 2 E dX12_weighsOf_73 rfl rfl ?_
        refine s_imul E dX12_weighsOf_74 ?_
        refine s_iload_n 1 E dX12_weighsOf_75 rfl rfl ?_
        refine s_iadd E dX12_weighsOf_76 ?_
        refine s_lt (fun w6 => [(0, .ref (G.2.1 76)), (1, .int a1), (2, .int v1), (3, .int w2), (4, .int v1)]) (fun w6 => [.int w6]) rfl rfl (fun w6 => ?_)
        refine s_istore (lv' := [(0, .ref (G.2.1 76)), (1, .int a1), (4, .int w6)]) [1, 2, 0] E dX12_weighsOf_77 (by rw [hn]; decide) rfl ?_
        refine s_goto 103 E dX12_weighsOf_79 (by decide) ?_
        exact t_r_weighsOf_103 E hn a1 w6 m
      · refine s_case (fun h22_3 => ?_) (fun h22_3 => ?_)
        · refine s_tabIn 82 E dX12_weighsOf_22 h22_3 (by decide) (by decide) rfl (by decide) ?_
          refine s_iload_n 3 E dX12_weighsOf_82 rfl rfl ?_
          refine s_istore (lv' := [(0, .ref (G.2.1 76)), (1, .int a1), (4, .int w2)]) [1, 2, 0] E dX12_weighsOf_83 (by rw [hn]; decide) rfl ?_
          refine s_goto 103 E dX12_weighsOf_85 (by decide) ?_
          exact t_r_weighsOf_103 E hn a1 w2 m
        · refine s_case (fun h22_4 => ?_) (fun h22_4 => ?_)
          · refine s_tabIn 88 E dX12_weighsOf_22 h22_4 (by decide) (by decide) rfl (by decide) ?_
            refine s_iload_n 3 E dX12_weighsOf_88 rfl rfl ?_
            refine s_iconst (v := (3 : Int32)) E dX12_weighsOf_89 (by decide) ?_
            refine s_icmp_le 97 E dX12_weighsOf_90 (by decide) ?_ ?_
            · refine s_iload_n 3 E dX12_weighsOf_97 rfl rfl ?_
              refine s_sub (lv' := [(0, .ref (G.2.1 76)), (1, .int a1)]) [0, 1] rfl ?_
              exact t_r_weighsOf_98 E hn a1 w2 m
            · refine s_iconst (v := (3 : Int32)) E dX12_weighsOf_93 (by decide) ?_
              refine s_goto 98 E dX12_weighsOf_94 (by decide) ?_
              refine s_sub (lv' := [(0, .ref (G.2.1 76)), (1, .int a1)]) [0, 1] rfl ?_
              exact t_r_weighsOf_98 E hn a1 (3 : Int32) m
          · refine s_tabOut 103 E dX12_weighsOf_22 (by have e0 := ne_toIntK h22_0 (k := 1) (by decide); have e1 := ne_toIntK h22_1 (k := 2) (by decide); have e2 := ne_toIntK h22_2 (k := 3) (by decide); have e3 := ne_toIntK h22_3 (k := 4) (by decide); have e4 := ne_toIntK h22_4 (k := 5) (by decide); omega) (by decide) ?_
            refine s_sub (lv' := [(0, .ref (G.2.1 76)), (1, .int a1), (4, .int v1)]) [0, 1, 4] rfl ?_
            exact t_r_weighsOf_103 E hn a1 v1 m
set_option maxRecDepth 20000 in
theorem C_r_weighsOf (l : Launch) (G : GG) (a1 : Int32) (m : M) {z : Int32} (hz : r_weighsOf a1 m = some z) : Ct l G yX12_weighsOf cX12_weighsOf 5 (some .int) 2 [.ref (G.2.1 76), .int a1] m (some (.int z)) m :=
  ct_of (K := (KRi m)) (by decide) (Nat.le_of_ble_eq_true rfl) (congrArg (fun q => Option.bind q _) hz) (fun x hl hn E => (t_r_weighsOf E hn a1 m))
theorem mdX12_weighsOf : mdq yX12_weighsOf 1 := ⟨by decide, by decide, by decide +kernel⟩
theorem dX12_ruleOf_0 : decode cX12_ruleOf 0 = .ok (.aload_n 0, 1) := by decide +kernel
theorem dX12_ruleOf_1 : decode cX12_ruleOf 1 = .ok (.getfield 9, 3) := by decide +kernel
theorem dX12_ruleOf_4 : decode cX12_ruleOf 4 = .ok (.bipush 91, 2) := by decide +kernel
theorem dX12_ruleOf_6 : decode cX12_ruleOf 6 = .ok (.iconst 3, 1) := by decide +kernel
theorem dX12_ruleOf_7 : decode cX12_ruleOf 7 = .ok (.iload_n 1, 1) := by decide +kernel
theorem dX12_ruleOf_8 : decode cX12_ruleOf 8 = .ok (.imul, 1) := by decide +kernel
theorem dX12_ruleOf_9 : decode cX12_ruleOf 9 = .ok (.iadd, 1) := by decide +kernel
theorem dX12_ruleOf_10 : decode cX12_ruleOf 10 = .ok (.iload_n 2, 1) := by decide +kernel
theorem dX12_ruleOf_11 : decode cX12_ruleOf 11 = .ok (.iadd, 1) := by decide +kernel
theorem dX12_ruleOf_12 : decode cX12_ruleOf 12 = .ok (.iaload, 1) := by decide +kernel
theorem dX12_ruleOf_13 : decode cX12_ruleOf 13 = .ok (.ireturn, 1) := by decide +kernel
def r_ruleOf (a1 : Int32) (a2 : Int32) (m : M) : Option (Int32) :=
  Option.bind (rdI m 77 (((91 : Int32) + ((3 : Int32) * a1)) + a2)) (fun v1 => some v1)
set_option maxRecDepth 20000 in
theorem t_r_ruleOf {G : GG} {x : Cx} (E : En G x cX12_ruleOf "WreckBoardModel" 1 (some .int)) (hn : xn x = 3) (a1 : Int32) (a2 : Int32) (m : M) : Sm G x 0 [(0, .ref (G.2.1 76)), (1, .int a1), (2, .int a2)] [] m (r_ruleOf a1 a2 m) (KRi m) := by
  unfold r_ruleOf
  refine s_aload_n 0 E dX12_ruleOf_0 rfl rfl ?_
  refine s_getr (k := 0) (T := TX12) 76 E rfl rfl rfl inX12 (by decide) W1239 dX12_ruleOf_1 ?_
  refine s_bipush (v := (91 : Int32)) E dX12_ruleOf_4 (by decide) ?_
  refine s_iconst (v := (3 : Int32)) E dX12_ruleOf_6 (by decide) ?_
  refine s_iload_n 1 E dX12_ruleOf_7 rfl rfl ?_
  refine s_imul E dX12_ruleOf_8 ?_
  refine s_iadd E dX12_ruleOf_9 ?_
  refine s_iload_n 2 E dX12_ruleOf_10 rfl rfl ?_
  refine s_iadd E dX12_ruleOf_11 ?_
  refine s_iald E dX12_ruleOf_12 (fun v1 => ?_)
  exact s_iret E rfl dX12_ruleOf_13
set_option maxRecDepth 20000 in
theorem C_r_ruleOf (l : Launch) (G : GG) (a1 : Int32) (a2 : Int32) (m : M) {z : Int32} (hz : r_ruleOf a1 a2 m = some z) : Ct l G yX12_ruleOf cX12_ruleOf 3 (some .int) 1 [.ref (G.2.1 76), .int a1, .int a2] m (some (.int z)) m :=
  ct_of (K := (KRi m)) (by decide) (Nat.le_of_ble_eq_true rfl) (congrArg (fun q => Option.bind q _) hz) (fun x hl hn E => (t_r_ruleOf E hn a1 a2 m))
theorem mdX12_ruleOf : mdq yX12_ruleOf 2 := ⟨by decide, by decide, by decide +kernel⟩
theorem dX12_above_0 : decode cX12_above 0 = .ok (.iload_n 0, 1) := by decide +kernel
theorem dX12_above_1 : decode cX12_above 1 = .ok (.iconst 3, 1) := by decide +kernel
theorem dX12_above_2 : decode cX12_above 2 = .ok (.if_icmp .ne 7, 3) := by decide +kernel
theorem dX12_above_5 : decode cX12_above 5 = .ok (.iconst 2, 1) := by decide +kernel
theorem dX12_above_6 : decode cX12_above 6 = .ok (.goto 13, 3) := by decide +kernel
theorem dX12_above_9 : decode cX12_above 9 = .ok (.iload_n 0, 1) := by decide +kernel
theorem dX12_above_10 : decode cX12_above 10 = .ok (.iconst 5, 1) := by decide +kernel
theorem dX12_above_11 : decode cX12_above 11 = .ok (.if_icmp .ne 7, 3) := by decide +kernel
theorem dX12_above_14 : decode cX12_above 14 = .ok (.iconst 4, 1) := by decide +kernel
theorem dX12_above_15 : decode cX12_above 15 = .ok (.goto 4, 3) := by decide +kernel
theorem dX12_above_18 : decode cX12_above 18 = .ok (.iconst 0, 1) := by decide +kernel
theorem dX12_above_19 : decode cX12_above 19 = .ok (.ireturn, 1) := by decide +kernel
def r_above (a0 : Int32) (m : M) : Option (Int32) :=
  (if a0 = (3 : Int32) then some (2 : Int32) else (if a0 = (5 : Int32) then some (4 : Int32) else some (0 : Int32)))
set_option maxRecDepth 20000 in
theorem t_r_above {G : GG} {x : Cx} (E : En G x cX12_above "WreckBoardModel" 1 (some .int)) (hn : xn x = 1) (a0 : Int32) (m : M) : Sm G x 0 [(0, .int a0)] [] m (r_above a0 m) (KRi m) := by
  unfold r_above
  refine s_iload_n 0 E dX12_above_0 rfl rfl ?_
  refine s_iconst (v := (3 : Int32)) E dX12_above_1 (by decide) ?_
  refine s_icmp_ne 9 E dX12_above_2 (by decide) ?_ ?_
  · refine s_iload_n 0 E dX12_above_9 rfl rfl ?_
    refine s_iconst (v := (5 : Int32)) E dX12_above_10 (by decide) ?_
    refine s_icmp_ne 18 E dX12_above_11 (by decide) ?_ ?_
    · refine s_iconst (v := (0 : Int32)) E dX12_above_18 (by decide) ?_
      exact s_iret E rfl dX12_above_19
    · refine s_iconst (v := (4 : Int32)) E dX12_above_14 (by decide) ?_
      refine s_goto 19 E dX12_above_15 (by decide) ?_
      exact s_iret E rfl dX12_above_19
  · refine s_iconst (v := (2 : Int32)) E dX12_above_5 (by decide) ?_
    refine s_goto 19 E dX12_above_6 (by decide) ?_
    exact s_iret E rfl dX12_above_19
set_option maxRecDepth 20000 in
theorem C_r_above (l : Launch) (G : GG) (a0 : Int32) (m : M) {z : Int32} (hz : r_above a0 m = some z) : Ct l G yX12_above cX12_above 1 (some .int) 1 [.int a0] m (some (.int z)) m :=
  ct_of (K := (KRi m)) (by decide) (Nat.le_of_ble_eq_true rfl) (congrArg (fun q => Option.bind q _) hz) (fun x hl hn E => (t_r_above E hn a0 m))
theorem mdX12_above : mdq yX12_above 1 := ⟨by decide, by decide, by decide +kernel⟩
theorem dX12_isUnder_0 : decode cX12_isUnder 0 = .ok (.iload_n 0, 1) := by decide +kernel
theorem dX12_isUnder_1 : decode cX12_isUnder 1 = .ok (.istore_n 2, 1) := by decide +kernel
theorem dX12_isUnder_2 : decode cX12_isUnder 2 = .ok (.iload_n 2, 1) := by decide +kernel
theorem dX12_isUnder_3 : decode cX12_isUnder 3 = .ok (.iload_n 1, 1) := by decide +kernel
theorem dX12_isUnder_4 : decode cX12_isUnder 4 = .ok (.if_icmp .eq 15, 3) := by decide +kernel
theorem dX12_isUnder_7 : decode cX12_isUnder 7 = .ok (.iload_n 2, 1) := by decide +kernel
theorem dX12_isUnder_8 : decode cX12_isUnder 8 = .ok (.ifCond .eq 11, 3) := by decide +kernel
theorem dX12_isUnder_11 : decode cX12_isUnder 11 = .ok (.iload_n 2, 1) := by decide +kernel
theorem dX12_isUnder_12 : decode cX12_isUnder 12 = .ok (.invokestatic 75, 3) := by decide +kernel
theorem dX12_isUnder_15 : decode cX12_isUnder 15 = .ok (.istore_n 2, 1) := by decide +kernel
theorem dX12_isUnder_16 : decode cX12_isUnder 16 = .ok (.goto (-14), 3) := by decide +kernel
theorem dX12_isUnder_19 : decode cX12_isUnder 19 = .ok (.iload_n 2, 1) := by decide +kernel
theorem dX12_isUnder_20 : decode cX12_isUnder 20 = .ok (.iload_n 1, 1) := by decide +kernel
theorem dX12_isUnder_21 : decode cX12_isUnder 21 = .ok (.if_icmp .ne 7, 3) := by decide +kernel
theorem dX12_isUnder_24 : decode cX12_isUnder 24 = .ok (.iconst 1, 1) := by decide +kernel
theorem dX12_isUnder_25 : decode cX12_isUnder 25 = .ok (.goto 4, 3) := by decide +kernel
theorem dX12_isUnder_28 : decode cX12_isUnder 28 = .ok (.iconst 0, 1) := by decide +kernel
theorem dX12_isUnder_29 : decode cX12_isUnder 29 = .ok (.ireturn, 1) := by decide +kernel
def r_isUnder_2b (a1 : Int32) (a2 : Int32) (m : M) : Option ((Int32) ⊕ ((Int32))) :=
  (if a2 = a1 then some (.inr a2) else (if a2 = 0 then some (.inr a2) else Option.bind (r_above a2 m) (fun v1 => some (.inl v1))))
set_option maxRecDepth 20000 in
theorem t_r_isUnder_2b {G : GG} {x : Cx} {K : ((Int32) ⊕ ((Int32))) → Option (Option Value × M)} (E : En G x cX12_isUnder "WreckBoardModel" 2 (some .boolean)) (hn : xn x = 3) (a1 : Int32) (a2 : Int32) (m : M) (hb : ∀ z : Int32, Sm G x 2 [(1, .int a1), (2, .int z)] [] m (some (.inl z)) K) (hx0 : ∀ z : Int32, Sm G x 19 [(1, .int a1), (2, .int z)] [] m (some (.inr z)) K) : Sm G x 2 [(1, .int a1), (2, .int a2)] [] m (r_isUnder_2b a1 a2 m) K := by
  unfold r_isUnder_2b
  refine s_iload_n 1 E dX12_isUnder_2 rfl rfl ?_
  refine s_iload_n 0 E dX12_isUnder_3 rfl rfl ?_
  refine s_icmp_eq 19 E dX12_isUnder_4 (by decide) ?_ ?_
  · exact hx0 a2
  · refine s_iload_n 1 E dX12_isUnder_7 rfl rfl ?_
    refine s_if_eq 19 E dX12_isUnder_8 (by decide) ?_ ?_
    · exact hx0 a2
    · refine s_iload_n 1 E dX12_isUnder_11 rfl rfl ?_
      refine s_bd (fun v1 hz => ?_)
      refine s_cS (rest := []) E (C_r_above (xl x) G a2 m hz) mdX12_above W1483 W1484 W103 W1485 rfl rfl (Nat.le_of_ble_eq_true rfl) ⟨by decide, by decide⟩ dX12_isUnder_12 ?_
      refine s_istore_n (lv' := [(1, .int a1), (2, .int v1)]) [1, 0] E dX12_isUnder_15 rfl (by rw [hn]; decide) rfl ?_
      refine s_goto 2 E dX12_isUnder_16 (by decide) ?_
      exact hb v1
def r_isUnder_19 (a1 : Int32) (a2 : Int32) (m : M) : Option (Int32) :=
  (if a2 = a1 then some (1 : Int32) else some (0 : Int32))
set_option maxRecDepth 20000 in
theorem t_r_isUnder_19 {G : GG} {x : Cx} (E : En G x cX12_isUnder "WreckBoardModel" 2 (some .boolean)) (hn : xn x = 3) (a1 : Int32) (a2 : Int32) (m : M) : Sm G x 19 [(1, .int a1), (2, .int a2)] [] m (r_isUnder_19 a1 a2 m) (KRi m) := by
  unfold r_isUnder_19
  refine s_iload_n 1 E dX12_isUnder_19 rfl rfl ?_
  refine s_iload_n 0 E dX12_isUnder_20 rfl rfl ?_
  refine s_icmp_ne 28 E dX12_isUnder_21 (by decide) ?_ ?_
  · refine s_iconst (v := (0 : Int32)) E dX12_isUnder_28 (by decide) ?_
    exact s_zret E (by decide) rfl dX12_isUnder_29
  · refine s_iconst (v := (1 : Int32)) E dX12_isUnder_24 (by decide) ?_
    refine s_goto 29 E dX12_isUnder_25 (by decide) ?_
    exact s_zret E (by decide) rfl dX12_isUnder_29
def r_isUnder_2 (a1 : Int32) (a2 : Int32) (m : M) : Option (Int32) :=
  Option.bind (iter (fun z => r_isUnder_2b a1 z m) FU a2) (fun r => r_isUnder_19 a1 r m)
set_option maxRecDepth 20000 in
theorem t_r_isUnder_2 {G : GG} {x : Cx} (E : En G x cX12_isUnder "WreckBoardModel" 2 (some .boolean)) (hn : xn x = 3) (a1 : Int32) (a2 : Int32) (m : M) : Sm G x 2 [(1, .int a1), (2, .int a2)] [] m (r_isUnder_2 a1 a2 m) (KRi m) := by
  unfold r_isUnder_2
  refine s_loop (fun z => [(1, .int a1), (2, .int z)]) (fun z => m) (fun K2 hb2 hr2 z => ?_) FU a2
  refine t_r_isUnder_2b (K := K2) E hn a1 z m hb2 (fun r => s_out (hr2 r) ?_)
  · exact t_r_isUnder_19 E hn a1 r m
def r_isUnder (a0 : Int32) (a1 : Int32) (m : M) : Option (Int32) :=
  r_isUnder_2 a1 a0 m
set_option maxRecDepth 20000 in
theorem t_r_isUnder {G : GG} {x : Cx} (E : En G x cX12_isUnder "WreckBoardModel" 2 (some .boolean)) (hn : xn x = 3) (a0 : Int32) (a1 : Int32) (m : M) : Sm G x 0 [(0, .int a0), (1, .int a1)] [] m (r_isUnder a0 a1 m) (KRi m) := by
  unfold r_isUnder
  refine s_iload_n 0 E dX12_isUnder_0 rfl rfl ?_
  refine s_istore_n (lv' := [(1, .int a1), (2, .int a0)]) [2, 0] E dX12_isUnder_1 rfl (by rw [hn]; decide) rfl ?_
  exact t_r_isUnder_2 E hn a1 a0 m
set_option maxRecDepth 20000 in
theorem C_r_isUnder (l : Launch) (G : GG) (a0 : Int32) (a1 : Int32) (m : M) {z : Int32} (hz : r_isUnder a0 a1 m = some z) : Ct l G yX12_isUnder cX12_isUnder 3 (some .boolean) 2 [.int a0, .int a1] m (some (.int z)) m :=
  ct_of (K := (KRi m)) (by decide) (Nat.le_of_ble_eq_true rfl) (congrArg (fun q => Option.bind q _) hz) (fun x hl hn E => (t_r_isUnder E hn a0 a1 m))
theorem mdX12_isUnder : mdq yX12_isUnder 2 := ⟨by decide, by decide, by decide +kernel⟩
theorem dX12_joined_0 : decode cX12_joined 0 = .ok (.iload_n 0, 1) := by decide +kernel
theorem dX12_joined_1 : decode cX12_joined 1 = .ok (.tableswitch 78 10010 10013 #[31, 42, 53, 64], 31) := by decide +kernel
theorem dX12_joined_32 : decode cX12_joined 32 = .ok (.iload_n 1, 1) := by decide +kernel
theorem dX12_joined_33 : decode cX12_joined 33 = .ok (.iload_n 2, 1) := by decide +kernel
theorem dX12_joined_34 : decode cX12_joined 34 = .ok (.if_icmp .ge 7, 3) := by decide +kernel
theorem dX12_joined_37 : decode cX12_joined 37 = .ok (.iconst 1, 1) := by decide +kernel
theorem dX12_joined_38 : decode cX12_joined 38 = .ok (.goto 4, 3) := by decide +kernel
theorem dX12_joined_41 : decode cX12_joined 41 = .ok (.iconst 0, 1) := by decide +kernel
theorem dX12_joined_42 : decode cX12_joined 42 = .ok (.ireturn, 1) := by decide +kernel
theorem dX12_joined_43 : decode cX12_joined 43 = .ok (.iload_n 1, 1) := by decide +kernel
theorem dX12_joined_44 : decode cX12_joined 44 = .ok (.iload_n 2, 1) := by decide +kernel
theorem dX12_joined_45 : decode cX12_joined 45 = .ok (.if_icmp .ne 7, 3) := by decide +kernel
theorem dX12_joined_48 : decode cX12_joined 48 = .ok (.iconst 1, 1) := by decide +kernel
theorem dX12_joined_49 : decode cX12_joined 49 = .ok (.goto 4, 3) := by decide +kernel
theorem dX12_joined_52 : decode cX12_joined 52 = .ok (.iconst 0, 1) := by decide +kernel
theorem dX12_joined_53 : decode cX12_joined 53 = .ok (.ireturn, 1) := by decide +kernel
theorem dX12_joined_54 : decode cX12_joined 54 = .ok (.iload_n 1, 1) := by decide +kernel
theorem dX12_joined_55 : decode cX12_joined 55 = .ok (.iload_n 2, 1) := by decide +kernel
theorem dX12_joined_56 : decode cX12_joined 56 = .ok (.if_icmp .le 7, 3) := by decide +kernel
theorem dX12_joined_59 : decode cX12_joined 59 = .ok (.iconst 1, 1) := by decide +kernel
theorem dX12_joined_60 : decode cX12_joined 60 = .ok (.goto 4, 3) := by decide +kernel
theorem dX12_joined_63 : decode cX12_joined 63 = .ok (.iconst 0, 1) := by decide +kernel
theorem dX12_joined_64 : decode cX12_joined 64 = .ok (.ireturn, 1) := by decide +kernel
theorem dX12_joined_65 : decode cX12_joined 65 = .ok (.iload_n 1, 1) := by decide +kernel
theorem dX12_joined_66 : decode cX12_joined 66 = .ok (.ifCond .eq 11, 3) := by decide +kernel
theorem dX12_joined_69 : decode cX12_joined 69 = .ok (.iload_n 2, 1) := by decide +kernel
theorem dX12_joined_70 : decode cX12_joined 70 = .ok (.ifCond .eq 7, 3) := by decide +kernel
theorem dX12_joined_73 : decode cX12_joined 73 = .ok (.iconst 1, 1) := by decide +kernel
theorem dX12_joined_74 : decode cX12_joined 74 = .ok (.goto 4, 3) := by decide +kernel
theorem dX12_joined_77 : decode cX12_joined 77 = .ok (.iconst 0, 1) := by decide +kernel
theorem dX12_joined_78 : decode cX12_joined 78 = .ok (.ireturn, 1) := by decide +kernel
theorem dX12_joined_79 : decode cX12_joined 79 = .ok (.iload_n 1, 1) := by decide +kernel
theorem dX12_joined_80 : decode cX12_joined 80 = .ok (.ifCond .ne 7, 3) := by decide +kernel
theorem dX12_joined_83 : decode cX12_joined 83 = .ok (.iload_n 2, 1) := by decide +kernel
theorem dX12_joined_84 : decode cX12_joined 84 = .ok (.ifCond .eq 7, 3) := by decide +kernel
theorem dX12_joined_87 : decode cX12_joined 87 = .ok (.iconst 1, 1) := by decide +kernel
theorem dX12_joined_88 : decode cX12_joined 88 = .ok (.goto 4, 3) := by decide +kernel
theorem dX12_joined_91 : decode cX12_joined 91 = .ok (.iconst 0, 1) := by decide +kernel
theorem dX12_joined_92 : decode cX12_joined 92 = .ok (.ireturn, 1) := by decide +kernel
def r_joined (a0 : Int32) (a1 : Int32) (a2 : Int32) (m : M) : Option (Int32) :=
  (if a0 = (10010 : Int32) then (if a2 ≤ a1 then some (0 : Int32) else some (1 : Int32)) else (if a0 = (10011 : Int32) then (if a1 = a2 then some (1 : Int32) else some (0 : Int32)) else (if a0 = (10012 : Int32) then (if a1 ≤ a2 then some (0 : Int32) else some (1 : Int32)) else (if a0 = (10013 : Int32) then (if a1 = 0 then some (0 : Int32) else (if a2 = 0 then some (0 : Int32) else some (1 : Int32))) else (if a1 = 0 then (if a2 = 0 then some (0 : Int32) else some (1 : Int32)) else some (1 : Int32))))))
set_option maxRecDepth 20000 in
theorem t_r_joined {G : GG} {x : Cx} (E : En G x cX12_joined "WreckBoardModel" 1 (some .int)) (hn : xn x = 3) (a0 : Int32) (a1 : Int32) (a2 : Int32) (m : M) : Sm G x 0 [(0, .int a0), (1, .int a1), (2, .int a2)] [] m (r_joined a0 a1 a2 m) (KRi m) := by
  unfold r_joined
  refine s_iload_n 0 E dX12_joined_0 rfl rfl ?_
  refine s_case (fun h1_0 => ?_) (fun h1_0 => ?_)
  · refine s_tabIn 32 E dX12_joined_1 h1_0 (by decide) (by decide) rfl (by decide) ?_
    refine s_iload_n 1 E dX12_joined_32 rfl rfl ?_
    refine s_iload_n 2 E dX12_joined_33 rfl rfl ?_
    refine s_icmp_ge 41 E dX12_joined_34 (by decide) ?_ ?_
    · refine s_iconst (v := (0 : Int32)) E dX12_joined_41 (by decide) ?_
      exact s_iret E rfl dX12_joined_42
    · refine s_iconst (v := (1 : Int32)) E dX12_joined_37 (by decide) ?_
      refine s_goto 42 E dX12_joined_38 (by decide) ?_
      exact s_iret E rfl dX12_joined_42
  · refine s_case (fun h1_1 => ?_) (fun h1_1 => ?_)
    · refine s_tabIn 43 E dX12_joined_1 h1_1 (by decide) (by decide) rfl (by decide) ?_
      refine s_iload_n 1 E dX12_joined_43 rfl rfl ?_
      refine s_iload_n 2 E dX12_joined_44 rfl rfl ?_
      refine s_icmp_ne 52 E dX12_joined_45 (by decide) ?_ ?_
      · refine s_iconst (v := (0 : Int32)) E dX12_joined_52 (by decide) ?_
        exact s_iret E rfl dX12_joined_53
      · refine s_iconst (v := (1 : Int32)) E dX12_joined_48 (by decide) ?_
        refine s_goto 53 E dX12_joined_49 (by decide) ?_
        exact s_iret E rfl dX12_joined_53
    · refine s_case (fun h1_2 => ?_) (fun h1_2 => ?_)
      · refine s_tabIn 54 E dX12_joined_1 h1_2 (by decide) (by decide) rfl (by decide) ?_
        refine s_iload_n 1 E dX12_joined_54 rfl rfl ?_
        refine s_iload_n 2 E dX12_joined_55 rfl rfl ?_
        refine s_icmp_le 63 E dX12_joined_56 (by decide) ?_ ?_
        · refine s_iconst (v := (0 : Int32)) E dX12_joined_63 (by decide) ?_
          exact s_iret E rfl dX12_joined_64
        · refine s_iconst (v := (1 : Int32)) E dX12_joined_59 (by decide) ?_
          refine s_goto 64 E dX12_joined_60 (by decide) ?_
          exact s_iret E rfl dX12_joined_64
      · refine s_case (fun h1_3 => ?_) (fun h1_3 => ?_)
        · refine s_tabIn 65 E dX12_joined_1 h1_3 (by decide) (by decide) rfl (by decide) ?_
          refine s_iload_n 1 E dX12_joined_65 rfl rfl ?_
          refine s_if_eq 77 E dX12_joined_66 (by decide) ?_ ?_
          · refine s_iconst (v := (0 : Int32)) E dX12_joined_77 (by decide) ?_
            exact s_iret E rfl dX12_joined_78
          · refine s_iload_n 2 E dX12_joined_69 rfl rfl ?_
            refine s_if_eq 77 E dX12_joined_70 (by decide) ?_ ?_
            · refine s_iconst (v := (0 : Int32)) E dX12_joined_77 (by decide) ?_
              exact s_iret E rfl dX12_joined_78
            · refine s_iconst (v := (1 : Int32)) E dX12_joined_73 (by decide) ?_
              refine s_goto 78 E dX12_joined_74 (by decide) ?_
              exact s_iret E rfl dX12_joined_78
        · refine s_tabOut 79 E dX12_joined_1 (by have e0 := ne_toIntK h1_0 (k := 10010) (by decide); have e1 := ne_toIntK h1_1 (k := 10011) (by decide); have e2 := ne_toIntK h1_2 (k := 10012) (by decide); have e3 := ne_toIntK h1_3 (k := 10013) (by decide); omega) (by decide) ?_
          refine s_iload_n 1 E dX12_joined_79 rfl rfl ?_
          refine s_if_ne 87 E dX12_joined_80 (by decide) ?_ ?_
          · refine s_iconst (v := (1 : Int32)) E dX12_joined_87 (by decide) ?_
            refine s_goto 92 E dX12_joined_88 (by decide) ?_
            exact s_iret E rfl dX12_joined_92
          · refine s_iload_n 2 E dX12_joined_83 rfl rfl ?_
            refine s_if_eq 91 E dX12_joined_84 (by decide) ?_ ?_
            · refine s_iconst (v := (0 : Int32)) E dX12_joined_91 (by decide) ?_
              exact s_iret E rfl dX12_joined_92
            · refine s_iconst (v := (1 : Int32)) E dX12_joined_87 (by decide) ?_
              refine s_goto 92 E dX12_joined_88 (by decide) ?_
              exact s_iret E rfl dX12_joined_92
set_option maxRecDepth 20000 in
theorem C_r_joined (l : Launch) (G : GG) (a0 : Int32) (a1 : Int32) (a2 : Int32) (m : M) {z : Int32} (hz : r_joined a0 a1 a2 m = some z) : Ct l G yX12_joined cX12_joined 3 (some .int) 1 [.int a0, .int a1, .int a2] m (some (.int z)) m :=
  ct_of (K := (KRi m)) (by decide) (Nat.le_of_ble_eq_true rfl) (congrArg (fun q => Option.bind q _) hz) (fun x hl hn E => (t_r_joined E hn a0 a1 a2 m))
theorem mdX12_joined : mdq yX12_joined 3 := ⟨by decide, by decide, by decide +kernel⟩
theorem dX12_knownOf_0 : decode cX12_knownOf 0 = .ok (.iload_n 1, 1) := by decide +kernel
theorem dX12_knownOf_1 : decode cX12_knownOf 1 = .ok (.ifCond .ne 12, 3) := by decide +kernel
theorem dX12_knownOf_4 : decode cX12_knownOf 4 = .ok (.aload_n 0, 1) := by decide +kernel
theorem dX12_knownOf_5 : decode cX12_knownOf 5 = .ok (.getfield 9, 3) := by decide +kernel
theorem dX12_knownOf_8 : decode cX12_knownOf 8 = .ok (.iconst 0, 1) := by decide +kernel
theorem dX12_knownOf_9 : decode cX12_knownOf 9 = .ok (.iaload, 1) := by decide +kernel
theorem dX12_knownOf_10 : decode cX12_knownOf 10 = .ok (.goto 46, 3) := by decide +kernel
theorem dX12_knownOf_13 : decode cX12_knownOf 13 = .ok (.iload_n 1, 1) := by decide +kernel
theorem dX12_knownOf_14 : decode cX12_knownOf 14 = .ok (.iconst 1, 1) := by decide +kernel
theorem dX12_knownOf_15 : decode cX12_knownOf 15 = .ok (.if_icmp .ne 12, 3) := by decide +kernel
theorem dX12_knownOf_18 : decode cX12_knownOf 18 = .ok (.aload_n 0, 1) := by decide +kernel
theorem dX12_knownOf_19 : decode cX12_knownOf 19 = .ok (.iload_n 2, 1) := by decide +kernel
theorem dX12_knownOf_20 : decode cX12_knownOf 20 = .ok (.iconst 2, 1) := by decide +kernel
theorem dX12_knownOf_21 : decode cX12_knownOf 21 = .ok (.invokevirtual 79, 3) := by decide +kernel
theorem dX12_knownOf_24 : decode cX12_knownOf 24 = .ok (.goto 32, 3) := by decide +kernel
theorem dX12_knownOf_27 : decode cX12_knownOf 27 = .ok (.iload_n 1, 1) := by decide +kernel
theorem dX12_knownOf_28 : decode cX12_knownOf 28 = .ok (.iconst 2, 1) := by decide +kernel
theorem dX12_knownOf_29 : decode cX12_knownOf 29 = .ok (.if_icmp .ne 12, 3) := by decide +kernel
theorem dX12_knownOf_32 : decode cX12_knownOf 32 = .ok (.aload_n 0, 1) := by decide +kernel
theorem dX12_knownOf_33 : decode cX12_knownOf 33 = .ok (.iload_n 2, 1) := by decide +kernel
theorem dX12_knownOf_34 : decode cX12_knownOf 34 = .ok (.iconst 1, 1) := by decide +kernel
theorem dX12_knownOf_35 : decode cX12_knownOf 35 = .ok (.invokevirtual 79, 3) := by decide +kernel
theorem dX12_knownOf_38 : decode cX12_knownOf 38 = .ok (.goto 18, 3) := by decide +kernel
theorem dX12_knownOf_41 : decode cX12_knownOf 41 = .ok (.iload_n 1, 1) := by decide +kernel
theorem dX12_knownOf_42 : decode cX12_knownOf 42 = .ok (.iconst 3, 1) := by decide +kernel
theorem dX12_knownOf_43 : decode cX12_knownOf 43 = .ok (.if_icmp .ne 12, 3) := by decide +kernel
theorem dX12_knownOf_46 : decode cX12_knownOf 46 = .ok (.aload_n 0, 1) := by decide +kernel
theorem dX12_knownOf_47 : decode cX12_knownOf 47 = .ok (.getfield 9, 3) := by decide +kernel
theorem dX12_knownOf_50 : decode cX12_knownOf 50 = .ok (.iconst 3, 1) := by decide +kernel
theorem dX12_knownOf_51 : decode cX12_knownOf 51 = .ok (.iaload, 1) := by decide +kernel
theorem dX12_knownOf_52 : decode cX12_knownOf 52 = .ok (.goto 4, 3) := by decide +kernel
theorem dX12_knownOf_55 : decode cX12_knownOf 55 = .ok (.iload_n 2, 1) := by decide +kernel
theorem dX12_knownOf_56 : decode cX12_knownOf 56 = .ok (.ireturn, 1) := by decide +kernel
def r_knownOf (a1 : Int32) (a2 : Int32) (m : M) : Option (Int32) :=
  (if a1 = 0 then Option.bind (rdI m 77 (0 : Int32)) (fun v4 => some v4) else (if a1 = (1 : Int32) then Option.bind (r_get a2 (2 : Int32) m) (fun v3 => some v3) else (if a1 = (2 : Int32) then Option.bind (r_get a2 (1 : Int32) m) (fun v2 => some v2) else (if a1 = (3 : Int32) then Option.bind (rdI m 77 (3 : Int32)) (fun v1 => some v1) else some a2))))
set_option maxRecDepth 20000 in
theorem t_r_knownOf {G : GG} {x : Cx} (E : En G x cX12_knownOf "WreckBoardModel" 2 (some .int)) (hn : xn x = 3) (a1 : Int32) (a2 : Int32) (m : M) : Sm G x 0 [(0, .ref (G.2.1 76)), (1, .int a1), (2, .int a2)] [] m (r_knownOf a1 a2 m) (KRi m) := by
  unfold r_knownOf
  refine s_iload_n 1 E dX12_knownOf_0 rfl rfl ?_
  refine s_if_ne 13 E dX12_knownOf_1 (by decide) ?_ ?_
  · refine s_iload_n 1 E dX12_knownOf_13 rfl rfl ?_
    refine s_iconst (v := (1 : Int32)) E dX12_knownOf_14 (by decide) ?_
    refine s_icmp_ne 27 E dX12_knownOf_15 (by decide) ?_ ?_
    · refine s_iload_n 1 E dX12_knownOf_27 rfl rfl ?_
      refine s_iconst (v := (2 : Int32)) E dX12_knownOf_28 (by decide) ?_
      refine s_icmp_ne 41 E dX12_knownOf_29 (by decide) ?_ ?_
      · refine s_iload_n 1 E dX12_knownOf_41 rfl rfl ?_
        refine s_iconst (v := (3 : Int32)) E dX12_knownOf_42 (by decide) ?_
        refine s_icmp_ne 55 E dX12_knownOf_43 (by decide) ?_ ?_
        · refine s_iload_n 2 E dX12_knownOf_55 rfl rfl ?_
          exact s_iret E rfl dX12_knownOf_56
        · refine s_aload_n 0 E dX12_knownOf_46 rfl rfl ?_
          refine s_getr (k := 0) (T := TX12) 76 E rfl rfl rfl inX12 (by decide) W1239 dX12_knownOf_47 ?_
          refine s_iconst (v := (3 : Int32)) E dX12_knownOf_50 (by decide) ?_
          refine s_iald E dX12_knownOf_51 (fun v1 => ?_)
          refine s_goto 56 E dX12_knownOf_52 (by decide) ?_
          exact s_iret E rfl dX12_knownOf_56
      · refine s_aload_n 0 E dX12_knownOf_32 rfl rfl ?_
        refine s_iload_n 2 E dX12_knownOf_33 rfl rfl ?_
        refine s_iconst (v := (1 : Int32)) E dX12_knownOf_34 (by decide) ?_
        refine s_bd (fun v2 hz => ?_)
        refine s_cV (rest := []) E (C_r_get (xl x) G a2 (1 : Int32) m hz) mdX12_get W1453 W1455 W46 W103 W1456 rfl rfl rfl rfl (Nat.le_of_ble_eq_true rfl) ⟨by decide, by decide⟩ dX12_knownOf_35 ?_
        refine s_goto 56 E dX12_knownOf_38 (by decide) ?_
        exact s_iret E rfl dX12_knownOf_56
    · refine s_aload_n 0 E dX12_knownOf_18 rfl rfl ?_
      refine s_iload_n 2 E dX12_knownOf_19 rfl rfl ?_
      refine s_iconst (v := (2 : Int32)) E dX12_knownOf_20 (by decide) ?_
      refine s_bd (fun v3 hz => ?_)
      refine s_cV (rest := []) E (C_r_get (xl x) G a2 (2 : Int32) m hz) mdX12_get W1453 W1455 W46 W103 W1456 rfl rfl rfl rfl (Nat.le_of_ble_eq_true rfl) ⟨by decide, by decide⟩ dX12_knownOf_21 ?_
      refine s_goto 56 E dX12_knownOf_24 (by decide) ?_
      exact s_iret E rfl dX12_knownOf_56
  · refine s_aload_n 0 E dX12_knownOf_4 rfl rfl ?_
    refine s_getr (k := 0) (T := TX12) 76 E rfl rfl rfl inX12 (by decide) W1239 dX12_knownOf_5 ?_
    refine s_iconst (v := (0 : Int32)) E dX12_knownOf_8 (by decide) ?_
    refine s_iald E dX12_knownOf_9 (fun v4 => ?_)
    refine s_goto 56 E dX12_knownOf_10 (by decide) ?_
    exact s_iret E rfl dX12_knownOf_56
set_option maxRecDepth 20000 in
theorem C_r_knownOf (l : Launch) (G : GG) (a1 : Int32) (a2 : Int32) (m : M) {z : Int32} (hz : r_knownOf a1 a2 m = some z) : Ct l G yX12_knownOf cX12_knownOf 3 (some .int) 2 [.ref (G.2.1 76), .int a1, .int a2] m (some (.int z)) m :=
  ct_of (K := (KRi m)) (by decide) (Nat.le_of_ble_eq_true rfl) (congrArg (fun q => Option.bind q _) hz) (fun x hl hn E => (t_r_knownOf E hn a1 a2 m))
theorem mdX12_knownOf : mdq yX12_knownOf 2 := ⟨by decide, by decide, by decide +kernel⟩
theorem dX12_holdsFor_0 : decode cX12_holdsFor 0 = .ok (.iconst 0, 1) := by decide +kernel
theorem dX12_holdsFor_1 : decode cX12_holdsFor 1 = .ok (.istore_n 3, 1) := by decide +kernel
theorem dX12_holdsFor_2 : decode cX12_holdsFor 2 = .ok (.iload_n 1, 1) := by decide +kernel
theorem dX12_holdsFor_3 : decode cX12_holdsFor 3 = .ok (.ifCond .ne 7, 3) := by decide +kernel
theorem dX12_holdsFor_6 : decode cX12_holdsFor 6 = .ok (.iconst 0, 1) := by decide +kernel
theorem dX12_holdsFor_7 : decode cX12_holdsFor 7 = .ok (.goto 11, 3) := by decide +kernel
theorem dX12_holdsFor_10 : decode cX12_holdsFor 10 = .ok (.aload_n 0, 1) := by decide +kernel
theorem dX12_holdsFor_11 : decode cX12_holdsFor 11 = .ok (.iload_n 1, 1) := by decide +kernel
theorem dX12_holdsFor_12 : decode cX12_holdsFor 12 = .ok (.iconst 1, 1) := by decide +kernel
theorem dX12_holdsFor_13 : decode cX12_holdsFor 13 = .ok (.isub, 1) := by decide +kernel
theorem dX12_holdsFor_14 : decode cX12_holdsFor 14 = .ok (.iconst 2, 1) := by decide +kernel
theorem dX12_holdsFor_15 : decode cX12_holdsFor 15 = .ok (.invokevirtual 110, 3) := by decide +kernel
theorem dX12_holdsFor_18 : decode cX12_holdsFor 18 = .ok (.istore 4, 2) := by decide +kernel
theorem dX12_holdsFor_20 : decode cX12_holdsFor 20 = .ok (.iload 4, 2) := by decide +kernel
theorem dX12_holdsFor_22 : decode cX12_holdsFor 22 = .ok (.aload_n 0, 1) := by decide +kernel
theorem dX12_holdsFor_23 : decode cX12_holdsFor 23 = .ok (.iload_n 1, 1) := by decide +kernel
theorem dX12_holdsFor_24 : decode cX12_holdsFor 24 = .ok (.iconst 2, 1) := by decide +kernel
theorem dX12_holdsFor_25 : decode cX12_holdsFor 25 = .ok (.invokevirtual 110, 3) := by decide +kernel
theorem dX12_holdsFor_28 : decode cX12_holdsFor 28 = .ok (.if_icmp .ge 124, 3) := by decide +kernel
theorem dX12_holdsFor_31 : decode cX12_holdsFor 31 = .ok (.aload_n 0, 1) := by decide +kernel
theorem dX12_holdsFor_32 : decode cX12_holdsFor 32 = .ok (.getfield 9, 3) := by decide +kernel
theorem dX12_holdsFor_35 : decode cX12_holdsFor 35 = .ok (.bipush 115, 2) := by decide +kernel
theorem dX12_holdsFor_37 : decode cX12_holdsFor 37 = .ok (.iload 4, 2) := by decide +kernel
theorem dX12_holdsFor_39 : decode cX12_holdsFor 39 = .ok (.iadd, 1) := by decide +kernel
theorem dX12_holdsFor_40 : decode cX12_holdsFor 40 = .ok (.iaload, 1) := by decide +kernel
theorem dX12_holdsFor_41 : decode cX12_holdsFor 41 = .ok (.istore 5, 2) := by decide +kernel
theorem dX12_holdsFor_43 : decode cX12_holdsFor 43 = .ok (.iload 5, 2) := by decide +kernel
theorem dX12_holdsFor_45 : decode cX12_holdsFor 45 = .ok (.sipush 10010, 3) := by decide +kernel
theorem dX12_holdsFor_48 : decode cX12_holdsFor 48 = .ok (.if_icmp .ge 39, 3) := by decide +kernel
theorem dX12_holdsFor_51 : decode cX12_holdsFor 51 = .ok (.aload_n 0, 1) := by decide +kernel
theorem dX12_holdsFor_52 : decode cX12_holdsFor 52 = .ok (.getfield 19, 3) := by decide +kernel
theorem dX12_holdsFor_55 : decode cX12_holdsFor 55 = .ok (.iload_n 3, 1) := by decide +kernel
theorem dX12_holdsFor_56 : decode cX12_holdsFor 56 = .ok (.iload 5, 2) := by decide +kernel
theorem dX12_holdsFor_58 : decode cX12_holdsFor 58 = .ok (.sipush 10000, 3) := by decide +kernel
theorem dX12_holdsFor_61 : decode cX12_holdsFor 61 = .ok (.if_icmp .ge 8, 3) := by decide +kernel
theorem dX12_holdsFor_64 : decode cX12_holdsFor 64 = .ok (.iload 5, 2) := by decide +kernel
theorem dX12_holdsFor_66 : decode cX12_holdsFor 66 = .ok (.goto 14, 3) := by decide +kernel
theorem dX12_holdsFor_69 : decode cX12_holdsFor 69 = .ok (.aload_n 0, 1) := by decide +kernel
theorem dX12_holdsFor_70 : decode cX12_holdsFor 70 = .ok (.iload 5, 2) := by decide +kernel
theorem dX12_holdsFor_72 : decode cX12_holdsFor 72 = .ok (.sipush 10000, 3) := by decide +kernel
theorem dX12_holdsFor_75 : decode cX12_holdsFor 75 = .ok (.isub, 1) := by decide +kernel
theorem dX12_holdsFor_76 : decode cX12_holdsFor 76 = .ok (.iload_n 2, 1) := by decide +kernel
theorem dX12_holdsFor_77 : decode cX12_holdsFor 77 = .ok (.invokevirtual 113, 3) := by decide +kernel
theorem dX12_holdsFor_80 : decode cX12_holdsFor 80 = .ok (.iastore, 1) := by decide +kernel
theorem dX12_holdsFor_81 : decode cX12_holdsFor 81 = .ok (.iinc 3 1, 3) := by decide +kernel
theorem dX12_holdsFor_84 : decode cX12_holdsFor 84 = .ok (.goto 62, 3) := by decide +kernel
theorem dX12_holdsFor_87 : decode cX12_holdsFor 87 = .ok (.iload 5, 2) := by decide +kernel
theorem dX12_holdsFor_89 : decode cX12_holdsFor 89 = .ok (.sipush 10015, 3) := by decide +kernel
theorem dX12_holdsFor_92 : decode cX12_holdsFor 92 = .ok (.if_icmp .ne 24, 3) := by decide +kernel
theorem dX12_holdsFor_95 : decode cX12_holdsFor 95 = .ok (.aload_n 0, 1) := by decide +kernel
theorem dX12_holdsFor_96 : decode cX12_holdsFor 96 = .ok (.getfield 19, 3) := by decide +kernel
theorem dX12_holdsFor_99 : decode cX12_holdsFor 99 = .ok (.iload_n 3, 1) := by decide +kernel
theorem dX12_holdsFor_100 : decode cX12_holdsFor 100 = .ok (.iconst 1, 1) := by decide +kernel
theorem dX12_holdsFor_101 : decode cX12_holdsFor 101 = .ok (.isub, 1) := by decide +kernel
theorem dX12_holdsFor_102 : decode cX12_holdsFor 102 = .ok (.iconst 1, 1) := by decide +kernel
theorem dX12_holdsFor_103 : decode cX12_holdsFor 103 = .ok (.aload_n 0, 1) := by decide +kernel
theorem dX12_holdsFor_104 : decode cX12_holdsFor 104 = .ok (.getfield 19, 3) := by decide +kernel
theorem dX12_holdsFor_107 : decode cX12_holdsFor 107 = .ok (.iload_n 3, 1) := by decide +kernel
theorem dX12_holdsFor_108 : decode cX12_holdsFor 108 = .ok (.iconst 1, 1) := by decide +kernel
theorem dX12_holdsFor_109 : decode cX12_holdsFor 109 = .ok (.isub, 1) := by decide +kernel
theorem dX12_holdsFor_110 : decode cX12_holdsFor 110 = .ok (.iaload, 1) := by decide +kernel
theorem dX12_holdsFor_111 : decode cX12_holdsFor 111 = .ok (.isub, 1) := by decide +kernel
theorem dX12_holdsFor_112 : decode cX12_holdsFor 112 = .ok (.iastore, 1) := by decide +kernel
theorem dX12_holdsFor_113 : decode cX12_holdsFor 113 = .ok (.goto 33, 3) := by decide +kernel
theorem dX12_holdsFor_116 : decode cX12_holdsFor 116 = .ok (.iinc 3 (-1), 3) := by decide +kernel
theorem dX12_holdsFor_119 : decode cX12_holdsFor 119 = .ok (.aload_n 0, 1) := by decide +kernel
theorem dX12_holdsFor_120 : decode cX12_holdsFor 120 = .ok (.getfield 19, 3) := by decide +kernel
theorem dX12_holdsFor_123 : decode cX12_holdsFor 123 = .ok (.iload_n 3, 1) := by decide +kernel
theorem dX12_holdsFor_124 : decode cX12_holdsFor 124 = .ok (.iconst 1, 1) := by decide +kernel
theorem dX12_holdsFor_125 : decode cX12_holdsFor 125 = .ok (.isub, 1) := by decide +kernel
theorem dX12_holdsFor_126 : decode cX12_holdsFor 126 = .ok (.iload 5, 2) := by decide +kernel
theorem dX12_holdsFor_128 : decode cX12_holdsFor 128 = .ok (.aload_n 0, 1) := by decide +kernel
theorem dX12_holdsFor_129 : decode cX12_holdsFor 129 = .ok (.getfield 19, 3) := by decide +kernel
theorem dX12_holdsFor_132 : decode cX12_holdsFor 132 = .ok (.iload_n 3, 1) := by decide +kernel
theorem dX12_holdsFor_133 : decode cX12_holdsFor 133 = .ok (.iconst 1, 1) := by decide +kernel
theorem dX12_holdsFor_134 : decode cX12_holdsFor 134 = .ok (.isub, 1) := by decide +kernel
theorem dX12_holdsFor_135 : decode cX12_holdsFor 135 = .ok (.iaload, 1) := by decide +kernel
theorem dX12_holdsFor_136 : decode cX12_holdsFor 136 = .ok (.aload_n 0, 1) := by decide +kernel
theorem dX12_holdsFor_137 : decode cX12_holdsFor 137 = .ok (.getfield 19, 3) := by decide +kernel
theorem dX12_holdsFor_140 : decode cX12_holdsFor 140 = .ok (.iload_n 3, 1) := by decide +kernel
theorem dX12_holdsFor_141 : decode cX12_holdsFor 141 = .ok (.iaload, 1) := by decide +kernel
theorem dX12_holdsFor_142 : decode cX12_holdsFor 142 = .ok (.invokestatic 116, 3) := by decide +kernel
theorem dX12_holdsFor_145 : decode cX12_holdsFor 145 = .ok (.iastore, 1) := by decide +kernel
theorem dX12_holdsFor_146 : decode cX12_holdsFor 146 = .ok (.iinc 4 1, 3) := by decide +kernel
theorem dX12_holdsFor_149 : decode cX12_holdsFor 149 = .ok (.goto (-129), 3) := by decide +kernel
theorem dX12_holdsFor_152 : decode cX12_holdsFor 152 = .ok (.iload_n 3, 1) := by decide +kernel
theorem dX12_holdsFor_153 : decode cX12_holdsFor 153 = .ok (.ifCond .eq 12, 3) := by decide +kernel
theorem dX12_holdsFor_156 : decode cX12_holdsFor 156 = .ok (.aload_n 0, 1) := by decide +kernel
theorem dX12_holdsFor_157 : decode cX12_holdsFor 157 = .ok (.getfield 19, 3) := by decide +kernel
theorem dX12_holdsFor_160 : decode cX12_holdsFor 160 = .ok (.iconst 0, 1) := by decide +kernel
theorem dX12_holdsFor_161 : decode cX12_holdsFor 161 = .ok (.iaload, 1) := by decide +kernel
theorem dX12_holdsFor_162 : decode cX12_holdsFor 162 = .ok (.ifCond .eq 7, 3) := by decide +kernel
theorem dX12_holdsFor_165 : decode cX12_holdsFor 165 = .ok (.iconst 1, 1) := by decide +kernel
theorem dX12_holdsFor_166 : decode cX12_holdsFor 166 = .ok (.goto 4, 3) := by decide +kernel
theorem dX12_holdsFor_169 : decode cX12_holdsFor 169 = .ok (.iconst 0, 1) := by decide +kernel
theorem dX12_holdsFor_170 : decode cX12_holdsFor 170 = .ok (.ireturn, 1) := by decide +kernel
def r_holdsFor_146 (a1 : Int32) (a2 : Int32) (a3 : Int32) (a4 : Int32) (m : M) : Option ((Int32 × Int32 × M) ⊕ ((Int32 × M))) :=
  lt (a4 + (1 : Int32)) (fun w1 : Int32 => some (.inl (a3, w1, m)))
set_option maxRecDepth 20000 in
theorem t_r_holdsFor_146 {G : GG} {x : Cx} {K : ((Int32 × Int32 × M) ⊕ ((Int32 × M))) → Option (Option Value × M)} (E : En G x cX12_holdsFor "WreckBoardModel" 3 (some .boolean)) (hn : xn x = 6) (a1 : Int32) (a2 : Int32) (a3 : Int32) (a4 : Int32) (m : M) (hb : ∀ z : Int32 × Int32 × M, Sm G x 20 [(0, .ref (G.2.1 76)), (1, .int a1), (2, .int a2), (3, .int z.1), (4, .int z.2.1)] [] z.2.2 (some (.inl z)) K) (hx0 : ∀ z : Int32 × M, Sm G x 152 [(0, .ref (G.2.1 76)), (3, .int z.1)] [] z.2 (some (.inr z)) K) : Sm G x 146 [(0, .ref (G.2.1 76)), (1, .int a1), (2, .int a2), (3, .int a3), (4, .int a4)] [] m (r_holdsFor_146 a1 a2 a3 a4 m) K := by
  unfold r_holdsFor_146
  refine s_iincL (v := (1 : Int32)) 4 [1, 2, 3, 4, 0] (fun w1 => [(0, .ref (G.2.1 76)), (1, .int a1), (2, .int a2), (3, .int a3), (4, .int w1)]) E dX12_holdsFor_146 rfl (by decide) (by rw [hn]; decide) (fun _ => rfl) (fun w1 => ?_)
  refine s_goto 20 E dX12_holdsFor_149 (by decide) ?_
  exact hb (a3, w1, m)
def r_holdsFor_80 (a1 : Int32) (a2 : Int32) (a3 : Int32) (a4 : Int32) (s1 : Int32) (s2 : Int32) (m : M) : Option ((Int32 × Int32 × M) ⊕ ((Int32 × M))) :=
  Option.bind (wrI m 80 s1 s2) (fun m1 => lt (a3 + (1 : Int32)) (fun w2 : Int32 => r_holdsFor_146 a1 a2 w2 a4 m1))
set_option maxRecDepth 20000 in
theorem t_r_holdsFor_80 {G : GG} {x : Cx} {K : ((Int32 × Int32 × M) ⊕ ((Int32 × M))) → Option (Option Value × M)} (E : En G x cX12_holdsFor "WreckBoardModel" 3 (some .boolean)) (hn : xn x = 6) (a1 : Int32) (a2 : Int32) (a3 : Int32) (a4 : Int32) (s1 : Int32) (s2 : Int32) (m : M) (hb : ∀ z : Int32 × Int32 × M, Sm G x 20 [(0, .ref (G.2.1 76)), (1, .int a1), (2, .int a2), (3, .int z.1), (4, .int z.2.1)] [] z.2.2 (some (.inl z)) K) (hx0 : ∀ z : Int32 × M, Sm G x 152 [(0, .ref (G.2.1 76)), (3, .int z.1)] [] z.2 (some (.inr z)) K) : Sm G x 80 [(0, .ref (G.2.1 76)), (1, .int a1), (2, .int a2), (3, .int a3), (4, .int a4)] [.int s2, .int s1, .ref (G.2.1 80)] m (r_holdsFor_80 a1 a2 a3 a4 s1 s2 m) K := by
  unfold r_holdsFor_80
  refine s_iast E dX12_holdsFor_80 (fun m1 => ?_)
  refine s_iincL (v := (1 : Int32)) 3 [1, 2, 3, 0, 4] (fun w2 => [(0, .ref (G.2.1 76)), (1, .int a1), (2, .int a2), (3, .int w2), (4, .int a4)]) E dX12_holdsFor_81 rfl (by decide) (by rw [hn]; decide) (fun _ => rfl) (fun w2 => ?_)
  refine s_goto 146 E dX12_holdsFor_84 (by decide) ?_
  exact t_r_holdsFor_146 E hn a1 a2 w2 a4 m1 hb hx0
def r_holdsFor_20b (a1 : Int32) (a2 : Int32) (a3 : Int32) (a4 : Int32) (m : M) : Option ((Int32 × Int32 × M) ⊕ ((Int32 × M))) :=
  Option.bind (r_ruleOf a1 (2 : Int32) m) (fun v1 => (if v1 ≤ a4 then some (.inr (a3, m)) else Option.bind (rdI m 77 ((115 : Int32) + a4)) (fun v2 => (if (10010 : Int32) ≤ v2 then (if v2 = (10015 : Int32) then Option.bind (rdI m 80 (a3 - (1 : Int32))) (fun v8 => Option.bind (wrI m 80 (a3 - (1 : Int32)) ((1 : Int32) - v8)) (fun m9 => r_holdsFor_146 a1 a2 a3 a4 m9)) else lt (a3 + (-1 : Int32)) (fun w3 : Int32 => Option.bind (rdI m 80 (w3 - (1 : Int32))) (fun v4 => Option.bind (rdI m 80 w3) (fun v5 => Option.bind (r_joined v2 v4 v5 m) (fun v6 => Option.bind (wrI m 80 (w3 - (1 : Int32)) v6) (fun m7 => r_holdsFor_146 a1 a2 w3 a4 m7)))))) else (if (10000 : Int32) ≤ v2 then Option.bind (r_knownOf (v2 - (10000 : Int32)) a2 m) (fun v10 => r_holdsFor_80 a1 a2 a3 a4 a3 v10 m) else r_holdsFor_80 a1 a2 a3 a4 a3 v2 m)))))
set_option maxRecDepth 20000 in
theorem t_r_holdsFor_20b {G : GG} {x : Cx} {K : ((Int32 × Int32 × M) ⊕ ((Int32 × M))) → Option (Option Value × M)} (E : En G x cX12_holdsFor "WreckBoardModel" 3 (some .boolean)) (hn : xn x = 6) (a1 : Int32) (a2 : Int32) (a3 : Int32) (a4 : Int32) (m : M) (hb : ∀ z : Int32 × Int32 × M, Sm G x 20 [(0, .ref (G.2.1 76)), (1, .int a1), (2, .int a2), (3, .int z.1), (4, .int z.2.1)] [] z.2.2 (some (.inl z)) K) (hx0 : ∀ z : Int32 × M, Sm G x 152 [(0, .ref (G.2.1 76)), (3, .int z.1)] [] z.2 (some (.inr z)) K) : Sm G x 20 [(0, .ref (G.2.1 76)), (1, .int a1), (2, .int a2), (3, .int a3), (4, .int a4)] [] m (r_holdsFor_20b a1 a2 a3 a4 m) K := by
  unfold r_holdsFor_20b
  refine s_iload 4 E dX12_holdsFor_20 rfl ?_
  refine s_aload_n 0 E dX12_holdsFor_22 rfl rfl ?_
  refine s_iload_n 1 E dX12_holdsFor_23 rfl rfl ?_
  refine s_iconst (v := (2 : Int32)) E dX12_holdsFor_24 (by decide) ?_
  refine s_bd (fun v1 hz => ?_)
  refine s_cV (rest := [.int a4]) E (C_r_ruleOf (xl x) G a1 (2 : Int32) m hz) mdX12_ruleOf W1476 W1478 W51 W103 W1479 rfl rfl rfl rfl (Nat.le_of_ble_eq_true rfl) ⟨by decide, by decide⟩ dX12_holdsFor_25 ?_
  refine s_icmp_ge 152 E dX12_holdsFor_28 (by decide) ?_ ?_
  · refine s_sub (lv' := [(0, .ref (G.2.1 76)), (3, .int a3)]) [0, 3] rfl ?_
    exact hx0 (a3, m)
  · refine s_aload_n 0 E dX12_holdsFor_31 rfl rfl ?_
    refine s_getr (k := 0) (T := TX12) 76 E rfl rfl rfl inX12 (by decide) W1239 dX12_holdsFor_32 ?_
    refine s_bipush (v := (115 : Int32)) E dX12_holdsFor_35 (by decide) ?_
    refine s_iload 4 E dX12_holdsFor_37 rfl ?_
    refine s_iadd E dX12_holdsFor_39 ?_
    refine s_iald E dX12_holdsFor_40 (fun v2 => ?_)
    refine s_istore (lv' := [(0, .ref (G.2.1 76)), (1, .int a1), (2, .int a2), (3, .int a3), (4, .int a4), (5, .int v2)]) [1, 2, 3, 4, 5, 0] E dX12_holdsFor_41 (by rw [hn]; decide) rfl ?_
    refine s_iload 5 E dX12_holdsFor_43 rfl ?_
    refine s_sipush (v := (10010 : Int32)) E dX12_holdsFor_45 (by decide) ?_
    refine s_icmp_ge 87 E dX12_holdsFor_48 (by decide) ?_ ?_
    · refine s_iload 5 E dX12_holdsFor_87 rfl ?_
      refine s_sipush (v := (10015 : Int32)) E dX12_holdsFor_89 (by decide) ?_
      refine s_icmp_ne 116 E dX12_holdsFor_92 (by decide) ?_ ?_
      · refine s_iincL (v := (-1 : Int32)) 3 [1, 2, 3, 0, 4, 5] (fun w3 => [(0, .ref (G.2.1 76)), (1, .int a1), (2, .int a2), (3, .int w3), (4, .int a4), (5, .int v2)]) E dX12_holdsFor_116 rfl (by decide) (by rw [hn]; decide) (fun _ => rfl) (fun w3 => ?_)
        refine s_aload_n 0 E dX12_holdsFor_119 rfl rfl ?_
        refine s_getr (k := 4) (T := TX12) 76 E rfl rfl rfl inX12 (by decide) W1243 dX12_holdsFor_120 ?_
        refine s_iload_n 3 E dX12_holdsFor_123 rfl rfl ?_
        refine s_iconst (v := (1 : Int32)) E dX12_holdsFor_124 (by decide) ?_
        refine s_isub E dX12_holdsFor_125 ?_
        refine s_iload 5 E dX12_holdsFor_126 rfl ?_
        refine s_aload_n 0 E dX12_holdsFor_128 rfl rfl ?_
        refine s_getr (k := 4) (T := TX12) 76 E rfl rfl rfl inX12 (by decide) W1243 dX12_holdsFor_129 ?_
        refine s_iload_n 3 E dX12_holdsFor_132 rfl rfl ?_
        refine s_iconst (v := (1 : Int32)) E dX12_holdsFor_133 (by decide) ?_
        refine s_isub E dX12_holdsFor_134 ?_
        refine s_iald E dX12_holdsFor_135 (fun v4 => ?_)
        refine s_aload_n 0 E dX12_holdsFor_136 rfl rfl ?_
        refine s_getr (k := 4) (T := TX12) 76 E rfl rfl rfl inX12 (by decide) W1243 dX12_holdsFor_137 ?_
        refine s_iload_n 3 E dX12_holdsFor_140 rfl rfl ?_
        refine s_iald E dX12_holdsFor_141 (fun v5 => ?_)
        refine s_bd (fun v6 hz => ?_)
        refine s_cS (rest := [.int (w3 - (1 : Int32)), .ref (G.2.1 80)]) E (C_r_joined (xl x) G v2 v4 v5 m hz) mdX12_joined W1494 W1495 W103 W1496 rfl rfl (Nat.le_of_ble_eq_true rfl) ⟨by decide, by decide⟩ dX12_holdsFor_142 ?_
        refine s_iast E dX12_holdsFor_145 (fun m7 => ?_)
        refine s_sub (lv' := [(0, .ref (G.2.1 76)), (1, .int a1), (2, .int a2), (3, .int w3), (4, .int a4)]) [0, 1, 2, 3, 4] rfl ?_
        exact t_r_holdsFor_146 E hn a1 a2 w3 a4 m7 hb hx0
      · refine s_aload_n 0 E dX12_holdsFor_95 rfl rfl ?_
        refine s_getr (k := 4) (T := TX12) 76 E rfl rfl rfl inX12 (by decide) W1243 dX12_holdsFor_96 ?_
        refine s_iload_n 3 E dX12_holdsFor_99 rfl rfl ?_
        refine s_iconst (v := (1 : Int32)) E dX12_holdsFor_100 (by decide) ?_
        refine s_isub E dX12_holdsFor_101 ?_
        refine s_iconst (v := (1 : Int32)) E dX12_holdsFor_102 (by decide) ?_
        refine s_aload_n 0 E dX12_holdsFor_103 rfl rfl ?_
        refine s_getr (k := 4) (T := TX12) 76 E rfl rfl rfl inX12 (by decide) W1243 dX12_holdsFor_104 ?_
        refine s_iload_n 3 E dX12_holdsFor_107 rfl rfl ?_
        refine s_iconst (v := (1 : Int32)) E dX12_holdsFor_108 (by decide) ?_
        refine s_isub E dX12_holdsFor_109 ?_
        refine s_iald E dX12_holdsFor_110 (fun v8 => ?_)
        refine s_isub E dX12_holdsFor_111 ?_
        refine s_iast E dX12_holdsFor_112 (fun m9 => ?_)
        refine s_goto 146 E dX12_holdsFor_113 (by decide) ?_
        refine s_sub (lv' := [(0, .ref (G.2.1 76)), (1, .int a1), (2, .int a2), (3, .int a3), (4, .int a4)]) [0, 1, 2, 3, 4] rfl ?_
        exact t_r_holdsFor_146 E hn a1 a2 a3 a4 m9 hb hx0
    · refine s_aload_n 0 E dX12_holdsFor_51 rfl rfl ?_
      refine s_getr (k := 4) (T := TX12) 76 E rfl rfl rfl inX12 (by decide) W1243 dX12_holdsFor_52 ?_
      refine s_iload_n 3 E dX12_holdsFor_55 rfl rfl ?_
      refine s_iload 5 E dX12_holdsFor_56 rfl ?_
      refine s_sipush (v := (10000 : Int32)) E dX12_holdsFor_58 (by decide) ?_
      refine s_icmp_ge 69 E dX12_holdsFor_61 (by decide) ?_ ?_
      · refine s_aload_n 0 E dX12_holdsFor_69 rfl rfl ?_
        refine s_iload 5 E dX12_holdsFor_70 rfl ?_
        refine s_sipush (v := (10000 : Int32)) E dX12_holdsFor_72 (by decide) ?_
        refine s_isub E dX12_holdsFor_75 ?_
        refine s_iload_n 2 E dX12_holdsFor_76 rfl rfl ?_
        refine s_bd (fun v10 hz => ?_)
        refine s_cV (rest := [.int a3, .ref (G.2.1 80)]) E (C_r_knownOf (xl x) G (v2 - (10000 : Int32)) a2 m hz) mdX12_knownOf W1490 W1492 W53 W103 W1493 rfl rfl rfl rfl (Nat.le_of_ble_eq_true rfl) ⟨by decide, by decide⟩ dX12_holdsFor_77 ?_
        refine s_sub (lv' := [(0, .ref (G.2.1 76)), (1, .int a1), (2, .int a2), (3, .int a3), (4, .int a4)]) [0, 1, 2, 3, 4] rfl ?_
        exact t_r_holdsFor_80 E hn a1 a2 a3 a4 a3 v10 m hb hx0
      · refine s_iload 5 E dX12_holdsFor_64 rfl ?_
        refine s_goto 80 E dX12_holdsFor_66 (by decide) ?_
        refine s_sub (lv' := [(0, .ref (G.2.1 76)), (1, .int a1), (2, .int a2), (3, .int a3), (4, .int a4)]) [0, 1, 2, 3, 4] rfl ?_
        exact t_r_holdsFor_80 E hn a1 a2 a3 a4 a3 v2 m hb hx0
def r_holdsFor_20 (a1 : Int32) (a2 : Int32) (a3 : Int32) (a4 : Int32) (m : M) : Option (Int32 × M) :=
  Option.bind (iter (fun z => r_holdsFor_20b a1 a2 z.1 z.2.1 z.2.2) FU (a3, a4, m)) (fun r => (if r.1 = 0 then some ((1 : Int32), r.2) else Option.bind (rdI r.2 80 (0 : Int32)) (fun v11 => (if v11 = 0 then some ((0 : Int32), r.2) else some ((1 : Int32), r.2)))))
set_option maxRecDepth 20000 in
theorem t_r_holdsFor_20 {G : GG} {x : Cx} (E : En G x cX12_holdsFor "WreckBoardModel" 3 (some .boolean)) (hn : xn x = 6) (a1 : Int32) (a2 : Int32) (a3 : Int32) (a4 : Int32) (m : M) : Sm G x 20 [(0, .ref (G.2.1 76)), (1, .int a1), (2, .int a2), (3, .int a3), (4, .int a4)] [] m (r_holdsFor_20 a1 a2 a3 a4 m) KWi := by
  unfold r_holdsFor_20
  refine s_loop (fun z => [(0, .ref (G.2.1 76)), (1, .int a1), (2, .int a2), (3, .int z.1), (4, .int z.2.1)]) (fun z => z.2.2) (fun K2 hb2 hr2 z => ?_) FU (a3, a4, m)
  refine t_r_holdsFor_20b (K := K2) E hn a1 a2 z.1 z.2.1 z.2.2 hb2 (fun r => s_out (hr2 r) ?_)
  · refine s_iload_n 1 E dX12_holdsFor_152 rfl rfl ?_
    refine s_if_eq 165 E dX12_holdsFor_153 (by decide) ?_ ?_
    · refine s_iconst (v := (1 : Int32)) E dX12_holdsFor_165 (by decide) ?_
      refine s_goto 170 E dX12_holdsFor_166 (by decide) ?_
      exact s_zret E (by decide) rfl dX12_holdsFor_170
    · refine s_aload_n 0 E dX12_holdsFor_156 rfl rfl ?_
      refine s_getr (k := 4) (T := TX12) 76 E rfl rfl rfl inX12 (by decide) W1243 dX12_holdsFor_157 ?_
      refine s_iconst (v := (0 : Int32)) E dX12_holdsFor_160 (by decide) ?_
      refine s_iald E dX12_holdsFor_161 (fun v11 => ?_)
      refine s_if_eq 169 E dX12_holdsFor_162 (by decide) ?_ ?_
      · refine s_iconst (v := (0 : Int32)) E dX12_holdsFor_169 (by decide) ?_
        exact s_zret E (by decide) rfl dX12_holdsFor_170
      · refine s_iconst (v := (1 : Int32)) E dX12_holdsFor_165 (by decide) ?_
        refine s_goto 170 E dX12_holdsFor_166 (by decide) ?_
        exact s_zret E (by decide) rfl dX12_holdsFor_170
def r_holdsFor_18 (a1 : Int32) (a2 : Int32) (s0 : Int32) (m : M) : Option (Int32 × M) :=
  r_holdsFor_20 a1 a2 (0 : Int32) s0 m
set_option maxRecDepth 20000 in
theorem t_r_holdsFor_18 {G : GG} {x : Cx} (E : En G x cX12_holdsFor "WreckBoardModel" 3 (some .boolean)) (hn : xn x = 6) (a1 : Int32) (a2 : Int32) (s0 : Int32) (m : M) : Sm G x 18 [(0, .ref (G.2.1 76)), (1, .int a1), (2, .int a2), (3, .int (0 : Int32))] [.int s0] m (r_holdsFor_18 a1 a2 s0 m) KWi := by
  unfold r_holdsFor_18
  refine s_istore (lv' := [(0, .ref (G.2.1 76)), (1, .int a1), (2, .int a2), (3, .int (0 : Int32)), (4, .int s0)]) [1, 2, 3, 4, 0] E dX12_holdsFor_18 (by rw [hn]; decide) rfl ?_
  exact t_r_holdsFor_20 E hn a1 a2 (0 : Int32) s0 m
def r_holdsFor (a1 : Int32) (a2 : Int32) (m : M) : Option (Int32 × M) :=
  (if a1 = 0 then r_holdsFor_18 a1 a2 (0 : Int32) m else Option.bind (r_ruleOf (a1 - (1 : Int32)) (2 : Int32) m) (fun v1 => r_holdsFor_18 a1 a2 v1 m))
set_option maxRecDepth 20000 in
theorem t_r_holdsFor {G : GG} {x : Cx} (E : En G x cX12_holdsFor "WreckBoardModel" 3 (some .boolean)) (hn : xn x = 6) (a1 : Int32) (a2 : Int32) (m : M) : Sm G x 0 [(0, .ref (G.2.1 76)), (1, .int a1), (2, .int a2)] [] m (r_holdsFor a1 a2 m) KWi := by
  unfold r_holdsFor
  refine s_iconst (v := (0 : Int32)) E dX12_holdsFor_0 (by decide) ?_
  refine s_istore_n (lv' := [(0, .ref (G.2.1 76)), (1, .int a1), (2, .int a2), (3, .int (0 : Int32))]) [1, 2, 3, 0] E dX12_holdsFor_1 rfl (by rw [hn]; decide) rfl ?_
  refine s_iload_n 1 E dX12_holdsFor_2 rfl rfl ?_
  refine s_if_ne 10 E dX12_holdsFor_3 (by decide) ?_ ?_
  · refine s_aload_n 0 E dX12_holdsFor_10 rfl rfl ?_
    refine s_iload_n 1 E dX12_holdsFor_11 rfl rfl ?_
    refine s_iconst (v := (1 : Int32)) E dX12_holdsFor_12 (by decide) ?_
    refine s_isub E dX12_holdsFor_13 ?_
    refine s_iconst (v := (2 : Int32)) E dX12_holdsFor_14 (by decide) ?_
    refine s_bd (fun v1 hz => ?_)
    refine s_cV (rest := []) E (C_r_ruleOf (xl x) G (a1 - (1 : Int32)) (2 : Int32) m hz) mdX12_ruleOf W1476 W1478 W51 W103 W1479 rfl rfl rfl rfl (Nat.le_of_ble_eq_true rfl) ⟨by decide, by decide⟩ dX12_holdsFor_15 ?_
    exact t_r_holdsFor_18 E hn a1 a2 v1 m
  · refine s_iconst (v := (0 : Int32)) E dX12_holdsFor_6 (by decide) ?_
    refine s_goto 18 E dX12_holdsFor_7 (by decide) ?_
    exact t_r_holdsFor_18 E hn a1 a2 (0 : Int32) m
set_option maxRecDepth 20000 in
theorem C_r_holdsFor (l : Launch) (G : GG) (a1 : Int32) (a2 : Int32) (m : M) {z : Int32 × M} (hz : r_holdsFor a1 a2 m = some z) : Ct l G yX12_holdsFor cX12_holdsFor 6 (some .boolean) 3 [.ref (G.2.1 76), .int a1, .int a2] m (some (.int z.1)) z.2 :=
  ct_of (K := KWi) (by decide) (Nat.le_of_ble_eq_true rfl) (congrArg (fun q => Option.bind q _) hz) (fun x hl hn E => (t_r_holdsFor E hn a1 a2 m))
theorem mdX12_holdsFor : mdq yX12_holdsFor 2 := ⟨by decide, by decide, by decide +kernel⟩
theorem dX12_willOf_0 : decode cX12_willOf 0 = .ok (.iconst 0, 1) := by decide +kernel
theorem dX12_willOf_1 : decode cX12_willOf 1 = .ok (.istore_n 2, 1) := by decide +kernel
theorem dX12_willOf_2 : decode cX12_willOf 2 = .ok (.iload_n 2, 1) := by decide +kernel
theorem dX12_willOf_3 : decode cX12_willOf 3 = .ok (.aload_n 0, 1) := by decide +kernel
theorem dX12_willOf_4 : decode cX12_willOf 4 = .ok (.getfield 9, 3) := by decide +kernel
theorem dX12_willOf_7 : decode cX12_willOf 7 = .ok (.bipush 7, 2) := by decide +kernel
theorem dX12_willOf_9 : decode cX12_willOf 9 = .ok (.iaload, 1) := by decide +kernel
theorem dX12_willOf_10 : decode cX12_willOf 10 = .ok (.if_icmp .ge 43, 3) := by decide +kernel
theorem dX12_willOf_13 : decode cX12_willOf 13 = .ok (.aload_n 0, 1) := by decide +kernel
theorem dX12_willOf_14 : decode cX12_willOf 14 = .ok (.iload_n 1, 1) := by decide +kernel
theorem dX12_willOf_15 : decode cX12_willOf 15 = .ok (.iconst 0, 1) := by decide +kernel
theorem dX12_willOf_16 : decode cX12_willOf 16 = .ok (.invokevirtual 79, 3) := by decide +kernel
theorem dX12_willOf_19 : decode cX12_willOf 19 = .ok (.aload_n 0, 1) := by decide +kernel
theorem dX12_willOf_20 : decode cX12_willOf 20 = .ok (.iload_n 2, 1) := by decide +kernel
theorem dX12_willOf_21 : decode cX12_willOf 21 = .ok (.iconst 0, 1) := by decide +kernel
theorem dX12_willOf_22 : decode cX12_willOf 22 = .ok (.invokevirtual 110, 3) := by decide +kernel
theorem dX12_willOf_25 : decode cX12_willOf 25 = .ok (.invokestatic 120, 3) := by decide +kernel
theorem dX12_willOf_28 : decode cX12_willOf 28 = .ok (.ifCond .eq 19, 3) := by decide +kernel
theorem dX12_willOf_31 : decode cX12_willOf 31 = .ok (.aload_n 0, 1) := by decide +kernel
theorem dX12_willOf_32 : decode cX12_willOf 32 = .ok (.iload_n 2, 1) := by decide +kernel
theorem dX12_willOf_33 : decode cX12_willOf 33 = .ok (.iload_n 1, 1) := by decide +kernel
theorem dX12_willOf_34 : decode cX12_willOf 34 = .ok (.invokevirtual 124, 3) := by decide +kernel
theorem dX12_willOf_37 : decode cX12_willOf 37 = .ok (.ifCond .eq 10, 3) := by decide +kernel
theorem dX12_willOf_40 : decode cX12_willOf 40 = .ok (.aload_n 0, 1) := by decide +kernel
theorem dX12_willOf_41 : decode cX12_willOf 41 = .ok (.iload_n 2, 1) := by decide +kernel
theorem dX12_willOf_42 : decode cX12_willOf 42 = .ok (.iconst 1, 1) := by decide +kernel
theorem dX12_willOf_43 : decode cX12_willOf 43 = .ok (.invokevirtual 110, 3) := by decide +kernel
theorem dX12_willOf_46 : decode cX12_willOf 46 = .ok (.ireturn, 1) := by decide +kernel
theorem dX12_willOf_47 : decode cX12_willOf 47 = .ok (.iinc 2 1, 3) := by decide +kernel
theorem dX12_willOf_50 : decode cX12_willOf 50 = .ok (.goto (-48), 3) := by decide +kernel
theorem dX12_willOf_53 : decode cX12_willOf 53 = .ok (.iconst 0, 1) := by decide +kernel
theorem dX12_willOf_54 : decode cX12_willOf 54 = .ok (.ireturn, 1) := by decide +kernel
def r_willOf_47 (a1 : Int32) (a2 : Int32) (m : M) : Option ((Int32 × M) ⊕ ((M) ⊕ ((Int32 × M)))) :=
  lt (a2 + (1 : Int32)) (fun w1 : Int32 => some (.inl (w1, m)))
set_option maxRecDepth 20000 in
theorem t_r_willOf_47 {G : GG} {x : Cx} {K : ((Int32 × M) ⊕ ((M) ⊕ ((Int32 × M)))) → Option (Option Value × M)} (E : En G x cX12_willOf "WreckBoardModel" 4 (some .int)) (hn : xn x = 3) (a1 : Int32) (a2 : Int32) (m : M) (hb : ∀ z : Int32 × M, Sm G x 2 [(0, .ref (G.2.1 76)), (1, .int a1), (2, .int z.1)] [] z.2 (some (.inl z)) K) (hx0 : ∀ z : M, Sm G x 53 [] [] z (some (.inr (.inl z))) K) (hx1 : ∀ z : Int32 × M, Sm G x 40 [(0, .ref (G.2.1 76)), (2, .int z.1)] [] z.2 (some (.inr (.inr z))) K) : Sm G x 47 [(0, .ref (G.2.1 76)), (1, .int a1), (2, .int a2)] [] m (r_willOf_47 a1 a2 m) K := by
  unfold r_willOf_47
  refine s_iincL (v := (1 : Int32)) 2 [1, 2, 0] (fun w1 => [(0, .ref (G.2.1 76)), (1, .int a1), (2, .int w1)]) E dX12_willOf_47 rfl (by decide) (by rw [hn]; decide) (fun _ => rfl) (fun w1 => ?_)
  refine s_goto 2 E dX12_willOf_50 (by decide) ?_
  exact hb (w1, m)
def r_willOf_2b (a1 : Int32) (a2 : Int32) (m : M) : Option ((Int32 × M) ⊕ ((M) ⊕ ((Int32 × M)))) :=
  Option.bind (rdI m 77 (7 : Int32)) (fun v1 => (if v1 ≤ a2 then some (.inr (.inl m)) else Option.bind (r_get a1 (0 : Int32) m) (fun v2 => Option.bind (r_ruleOf a2 (0 : Int32) m) (fun v3 => Option.bind (r_isUnder v2 v3 m) (fun v4 => (if v4 = 0 then r_willOf_47 a1 a2 m else Option.bind (r_holdsFor a2 a1 m) (fun z5 => (if z5.1 = 0 then r_willOf_47 a1 a2 z5.2 else some (.inr (.inr (a2, z5.2)))))))))))
set_option maxRecDepth 20000 in
theorem t_r_willOf_2b {G : GG} {x : Cx} {K : ((Int32 × M) ⊕ ((M) ⊕ ((Int32 × M)))) → Option (Option Value × M)} (E : En G x cX12_willOf "WreckBoardModel" 4 (some .int)) (hn : xn x = 3) (a1 : Int32) (a2 : Int32) (m : M) (hb : ∀ z : Int32 × M, Sm G x 2 [(0, .ref (G.2.1 76)), (1, .int a1), (2, .int z.1)] [] z.2 (some (.inl z)) K) (hx0 : ∀ z : M, Sm G x 53 [] [] z (some (.inr (.inl z))) K) (hx1 : ∀ z : Int32 × M, Sm G x 40 [(0, .ref (G.2.1 76)), (2, .int z.1)] [] z.2 (some (.inr (.inr z))) K) : Sm G x 2 [(0, .ref (G.2.1 76)), (1, .int a1), (2, .int a2)] [] m (r_willOf_2b a1 a2 m) K := by
  unfold r_willOf_2b
  refine s_iload_n 2 E dX12_willOf_2 rfl rfl ?_
  refine s_aload_n 0 E dX12_willOf_3 rfl rfl ?_
  refine s_getr (k := 0) (T := TX12) 76 E rfl rfl rfl inX12 (by decide) W1239 dX12_willOf_4 ?_
  refine s_bipush (v := (7 : Int32)) E dX12_willOf_7 (by decide) ?_
  refine s_iald E dX12_willOf_9 (fun v1 => ?_)
  refine s_icmp_ge 53 E dX12_willOf_10 (by decide) ?_ ?_
  · refine s_sub (lv' := []) [] rfl ?_
    exact hx0 m
  · refine s_aload_n 0 E dX12_willOf_13 rfl rfl ?_
    refine s_iload_n 1 E dX12_willOf_14 rfl rfl ?_
    refine s_iconst (v := (0 : Int32)) E dX12_willOf_15 (by decide) ?_
    refine s_bd (fun v2 hz => ?_)
    refine s_cV (rest := []) E (C_r_get (xl x) G a1 (0 : Int32) m hz) mdX12_get W1453 W1455 W46 W103 W1456 rfl rfl rfl rfl (Nat.le_of_ble_eq_true rfl) ⟨by decide, by decide⟩ dX12_willOf_16 ?_
    refine s_aload_n 0 E dX12_willOf_19 rfl rfl ?_
    refine s_iload_n 2 E dX12_willOf_20 rfl rfl ?_
    refine s_iconst (v := (0 : Int32)) E dX12_willOf_21 (by decide) ?_
    refine s_bd (fun v3 hz => ?_)
    refine s_cV (rest := [.int v2]) E (C_r_ruleOf (xl x) G a2 (0 : Int32) m hz) mdX12_ruleOf W1476 W1478 W51 W103 W1479 rfl rfl rfl rfl (Nat.le_of_ble_eq_true rfl) ⟨by decide, by decide⟩ dX12_willOf_22 ?_
    refine s_bd (fun v4 hz => ?_)
    refine s_cS (rest := []) E (C_r_isUnder (xl x) G v2 v3 m hz) mdX12_isUnder W1480 W1481 W103 W1482 rfl rfl (Nat.le_of_ble_eq_true rfl) ⟨by decide, by decide⟩ dX12_willOf_25 ?_
    refine s_if_eq 47 E dX12_willOf_28 (by decide) ?_ ?_
    · exact t_r_willOf_47 E hn a1 a2 m hb hx0 hx1
    · refine s_aload_n 0 E dX12_willOf_31 rfl rfl ?_
      refine s_iload_n 2 E dX12_willOf_32 rfl rfl ?_
      refine s_iload_n 1 E dX12_willOf_33 rfl rfl ?_
      refine s_bd (fun z5 hz => ?_)
      refine s_cV (rest := []) E (C_r_holdsFor (xl x) G a2 a1 m hz) mdX12_holdsFor W1486 W1488 W52 W103 W1489 rfl rfl rfl rfl (Nat.le_of_ble_eq_true rfl) ⟨by decide, by decide⟩ dX12_willOf_34 ?_
      refine s_if_eq 47 E dX12_willOf_37 (by decide) ?_ ?_
      · exact t_r_willOf_47 E hn a1 a2 z5.2 hb hx0 hx1
      · refine s_sub (lv' := [(0, .ref (G.2.1 76)), (2, .int a2)]) [0, 2] rfl ?_
        exact hx1 (a2, z5.2)
def r_willOf_2 (a1 : Int32) (a2 : Int32) (m : M) : Option (Int32 × M) :=
  Option.bind (iter (fun z => r_willOf_2b a1 z.1 z.2) FU (a2, m)) (fun r => (match r with
  | .inl r => some ((0 : Int32), r)
  | .inr r => Option.bind (r_ruleOf r.1 (1 : Int32) r.2) (fun v6 => some (v6, r.2))))
set_option maxRecDepth 20000 in
theorem t_r_willOf_2 {G : GG} {x : Cx} (E : En G x cX12_willOf "WreckBoardModel" 4 (some .int)) (hn : xn x = 3) (a1 : Int32) (a2 : Int32) (m : M) : Sm G x 2 [(0, .ref (G.2.1 76)), (1, .int a1), (2, .int a2)] [] m (r_willOf_2 a1 a2 m) KWi := by
  unfold r_willOf_2
  refine s_loop (fun z => [(0, .ref (G.2.1 76)), (1, .int a1), (2, .int z.1)]) (fun z => z.2) (fun K2 hb2 hr2 z => ?_) FU (a2, m)
  refine t_r_willOf_2b (K := K2) E hn a1 z.1 z.2 hb2 (fun r => s_out (hr2 (.inl r)) ?_) (fun r => s_out (hr2 (.inr r)) ?_)
  · refine s_iconst (v := (0 : Int32)) E dX12_willOf_53 (by decide) ?_
    exact s_iret E rfl dX12_willOf_54
  · refine s_aload_n 0 E dX12_willOf_40 rfl rfl ?_
    refine s_iload_n 1 E dX12_willOf_41 rfl rfl ?_
    refine s_iconst (v := (1 : Int32)) E dX12_willOf_42 (by decide) ?_
    refine s_bd (fun v6 hz => ?_)
    refine s_cV (rest := []) E (C_r_ruleOf (xl x) G r.1 (1 : Int32) r.2 hz) mdX12_ruleOf W1476 W1478 W51 W103 W1479 rfl rfl rfl rfl (Nat.le_of_ble_eq_true rfl) ⟨by decide, by decide⟩ dX12_willOf_43 ?_
    exact s_iret E rfl dX12_willOf_46
def r_willOf (a1 : Int32) (m : M) : Option (Int32 × M) :=
  r_willOf_2 a1 (0 : Int32) m
set_option maxRecDepth 20000 in
theorem t_r_willOf {G : GG} {x : Cx} (E : En G x cX12_willOf "WreckBoardModel" 4 (some .int)) (hn : xn x = 3) (a1 : Int32) (m : M) : Sm G x 0 [(0, .ref (G.2.1 76)), (1, .int a1)] [] m (r_willOf a1 m) KWi := by
  unfold r_willOf
  refine s_iconst (v := (0 : Int32)) E dX12_willOf_0 (by decide) ?_
  refine s_istore_n (lv' := [(0, .ref (G.2.1 76)), (1, .int a1), (2, .int (0 : Int32))]) [1, 2, 0] E dX12_willOf_1 rfl (by rw [hn]; decide) rfl ?_
  exact t_r_willOf_2 E hn a1 (0 : Int32) m
set_option maxRecDepth 20000 in
theorem C_r_willOf (l : Launch) (G : GG) (a1 : Int32) (m : M) {z : Int32 × M} (hz : r_willOf a1 m = some z) : Ct l G yX12_willOf cX12_willOf 3 (some .int) 4 [.ref (G.2.1 76), .int a1] m (some (.int z.1)) z.2 :=
  ct_of (K := KWi) (by decide) (Nat.le_of_ble_eq_true rfl) (congrArg (fun q => Option.bind q _) hz) (fun x hl hn E => (t_r_willOf E hn a1 m))
theorem mdX12_willOf : mdq yX12_willOf 1 := ⟨by decide, by decide, by decide +kernel⟩
theorem dX12_theCount_0 : decode cX12_theCount 0 = .ok (.iconst 0, 1) := by decide +kernel
theorem dX12_theCount_1 : decode cX12_theCount 1 = .ok (.istore_n 1, 1) := by decide +kernel
theorem dX12_theCount_2 : decode cX12_theCount 2 = .ok (.iconst 0, 1) := by decide +kernel
theorem dX12_theCount_3 : decode cX12_theCount 3 = .ok (.istore_n 2, 1) := by decide +kernel
theorem dX12_theCount_4 : decode cX12_theCount 4 = .ok (.iload_n 2, 1) := by decide +kernel
theorem dX12_theCount_5 : decode cX12_theCount 5 = .ok (.aload_n 0, 1) := by decide +kernel
theorem dX12_theCount_6 : decode cX12_theCount 6 = .ok (.getfield 9, 3) := by decide +kernel
theorem dX12_theCount_9 : decode cX12_theCount 9 = .ok (.bipush 6, 2) := by decide +kernel
theorem dX12_theCount_11 : decode cX12_theCount 11 = .ok (.iaload, 1) := by decide +kernel
theorem dX12_theCount_12 : decode cX12_theCount 12 = .ok (.if_icmp .ge 25, 3) := by decide +kernel
theorem dX12_theCount_15 : decode cX12_theCount 15 = .ok (.iload_n 1, 1) := by decide +kernel
theorem dX12_theCount_16 : decode cX12_theCount 16 = .ok (.aload_n 0, 1) := by decide +kernel
theorem dX12_theCount_17 : decode cX12_theCount 17 = .ok (.iload_n 2, 1) := by decide +kernel
theorem dX12_theCount_18 : decode cX12_theCount 18 = .ok (.invokevirtual 94, 3) := by decide +kernel
theorem dX12_theCount_21 : decode cX12_theCount 21 = .ok (.iconst 1, 1) := by decide +kernel
theorem dX12_theCount_22 : decode cX12_theCount 22 = .ok (.isub, 1) := by decide +kernel
theorem dX12_theCount_23 : decode cX12_theCount 23 = .ok (.aload_n 0, 1) := by decide +kernel
theorem dX12_theCount_24 : decode cX12_theCount 24 = .ok (.iload_n 2, 1) := by decide +kernel
theorem dX12_theCount_25 : decode cX12_theCount 25 = .ok (.invokevirtual 97, 3) := by decide +kernel
theorem dX12_theCount_28 : decode cX12_theCount 28 = .ok (.imul, 1) := by decide +kernel
theorem dX12_theCount_29 : decode cX12_theCount 29 = .ok (.iadd, 1) := by decide +kernel
theorem dX12_theCount_30 : decode cX12_theCount 30 = .ok (.istore_n 1, 1) := by decide +kernel
theorem dX12_theCount_31 : decode cX12_theCount 31 = .ok (.iinc 2 1, 3) := by decide +kernel
theorem dX12_theCount_34 : decode cX12_theCount 34 = .ok (.goto (-30), 3) := by decide +kernel
theorem dX12_theCount_37 : decode cX12_theCount 37 = .ok (.iload_n 1, 1) := by decide +kernel
theorem dX12_theCount_38 : decode cX12_theCount 38 = .ok (.ireturn, 1) := by decide +kernel
def r_theCount_4b (a1 : Int32) (a2 : Int32) (m : M) : Option ((Int32 × Int32) ⊕ ((Int32))) :=
  Option.bind (rdI m 77 (6 : Int32)) (fun v1 => (if v1 ≤ a2 then some (.inr a1) else Option.bind (r_sideOf a2 m) (fun v2 => Option.bind (r_weighsOf a2 m) (fun v3 => lt (a1 + ((v2 - (1 : Int32)) * v3)) (fun w4 : Int32 => lt (a2 + (1 : Int32)) (fun w5 : Int32 => some (.inl (w4, w5))))))))
set_option maxRecDepth 20000 in
theorem t_r_theCount_4b {G : GG} {x : Cx} {K : ((Int32 × Int32) ⊕ ((Int32))) → Option (Option Value × M)} (E : En G x cX12_theCount "WreckBoardModel" 4 (some .int)) (hn : xn x = 3) (a1 : Int32) (a2 : Int32) (m : M) (hb : ∀ z : Int32 × Int32, Sm G x 4 [(0, .ref (G.2.1 76)), (1, .int z.1), (2, .int z.2)] [] m (some (.inl z)) K) (hx0 : ∀ z : Int32, Sm G x 37 [(1, .int z)] [] m (some (.inr z)) K) : Sm G x 4 [(0, .ref (G.2.1 76)), (1, .int a1), (2, .int a2)] [] m (r_theCount_4b a1 a2 m) K := by
  unfold r_theCount_4b
  refine s_iload_n 2 E dX12_theCount_4 rfl rfl ?_
  refine s_aload_n 0 E dX12_theCount_5 rfl rfl ?_
  refine s_getr (k := 0) (T := TX12) 76 E rfl rfl rfl inX12 (by decide) W1239 dX12_theCount_6 ?_
  refine s_bipush (v := (6 : Int32)) E dX12_theCount_9 (by decide) ?_
  refine s_iald E dX12_theCount_11 (fun v1 => ?_)
  refine s_icmp_ge 37 E dX12_theCount_12 (by decide) ?_ ?_
  · refine s_sub (lv' := [(1, .int a1)]) [1] rfl ?_
    exact hx0 a1
  · refine s_iload_n 1 E dX12_theCount_15 rfl rfl ?_
    refine s_aload_n 0 E dX12_theCount_16 rfl rfl ?_
    refine s_iload_n 2 E dX12_theCount_17 rfl rfl ?_
    refine s_bd (fun v2 hz => ?_)
    refine s_cV (rest := [.int a1]) E (C_r_sideOf (xl x) G a2 m hz) mdX12_sideOf W1445 W1447 W44 W103 W1448 rfl rfl rfl rfl (Nat.le_of_ble_eq_true rfl) ⟨by decide, by decide⟩ dX12_theCount_18 ?_
    refine s_iconst (v := (1 : Int32)) E dX12_theCount_21 (by decide) ?_
    refine s_isub E dX12_theCount_22 ?_
    refine s_aload_n 0 E dX12_theCount_23 rfl rfl ?_
    refine s_iload_n 2 E dX12_theCount_24 rfl rfl ?_
    refine s_bd (fun v3 hz => ?_)
    refine s_cV (rest := [.int (v2 - (1 : Int32)), .int a1]) E (C_r_weighsOf (xl x) G a2 m hz) mdX12_weighsOf W1464 W1466 W48 W103 W1467 rfl rfl rfl rfl (Nat.le_of_ble_eq_true rfl) ⟨by decide, by decide⟩ dX12_theCount_25 ?_
    refine s_imul E dX12_theCount_28 ?_
    refine s_iadd E dX12_theCount_29 ?_
    refine s_lt (fun w4 => [(0, .ref (G.2.1 76)), (1, .int a1), (2, .int a2)]) (fun w4 => [.int w4]) rfl rfl (fun w4 => ?_)
    refine s_istore_n (lv' := [(0, .ref (G.2.1 76)), (1, .int w4), (2, .int a2)]) [1, 0, 2] E dX12_theCount_30 rfl (by rw [hn]; decide) rfl ?_
    refine s_iincL (v := (1 : Int32)) 2 [1, 2, 0] (fun w5 => [(0, .ref (G.2.1 76)), (1, .int w4), (2, .int w5)]) E dX12_theCount_31 rfl (by decide) (by rw [hn]; decide) (fun _ => rfl) (fun w5 => ?_)
    refine s_goto 4 E dX12_theCount_34 (by decide) ?_
    exact hb (w4, w5)
def r_theCount_4 (a1 : Int32) (a2 : Int32) (m : M) : Option (Int32) :=
  Option.bind (iter (fun z => r_theCount_4b z.1 z.2 m) FU (a1, a2)) (fun r => some r)
set_option maxRecDepth 20000 in
theorem t_r_theCount_4 {G : GG} {x : Cx} (E : En G x cX12_theCount "WreckBoardModel" 4 (some .int)) (hn : xn x = 3) (a1 : Int32) (a2 : Int32) (m : M) : Sm G x 4 [(0, .ref (G.2.1 76)), (1, .int a1), (2, .int a2)] [] m (r_theCount_4 a1 a2 m) (KRi m) := by
  unfold r_theCount_4
  refine s_loop (fun z => [(0, .ref (G.2.1 76)), (1, .int z.1), (2, .int z.2)]) (fun z => m) (fun K2 hb2 hr2 z => ?_) FU (a1, a2)
  refine t_r_theCount_4b (K := K2) E hn z.1 z.2 m hb2 (fun r => s_out (hr2 r) ?_)
  · refine s_iload_n 0 E dX12_theCount_37 rfl rfl ?_
    exact s_iret E rfl dX12_theCount_38
def r_theCount  (m : M) : Option (Int32) :=
  r_theCount_4 (0 : Int32) (0 : Int32) m
set_option maxRecDepth 20000 in
theorem t_r_theCount {G : GG} {x : Cx} (E : En G x cX12_theCount "WreckBoardModel" 4 (some .int)) (hn : xn x = 3)  (m : M) : Sm G x 0 [(0, .ref (G.2.1 76))] [] m (r_theCount m) (KRi m) := by
  unfold r_theCount
  refine s_iconst (v := (0 : Int32)) E dX12_theCount_0 (by decide) ?_
  refine s_istore_n (lv' := [(0, .ref (G.2.1 76)), (1, .int (0 : Int32))]) [1, 0] E dX12_theCount_1 rfl (by rw [hn]; decide) rfl ?_
  refine s_iconst (v := (0 : Int32)) E dX12_theCount_2 (by decide) ?_
  refine s_istore_n (lv' := [(0, .ref (G.2.1 76)), (1, .int (0 : Int32)), (2, .int (0 : Int32))]) [1, 2, 0] E dX12_theCount_3 rfl (by rw [hn]; decide) rfl ?_
  exact t_r_theCount_4 E hn (0 : Int32) (0 : Int32) m
set_option maxRecDepth 20000 in
theorem C_r_theCount (l : Launch) (G : GG)  (m : M) {z : Int32} (hz : r_theCount m = some z) : Ct l G yX12_theCount cX12_theCount 3 (some .int) 4 [.ref (G.2.1 76)] m (some (.int z)) m :=
  ct_of (K := (KRi m)) (by decide) (Nat.le_of_ble_eq_true rfl) (congrArg (fun q => Option.bind q _) hz) (fun x hl hn E => (t_r_theCount E hn  m))
theorem mdX12_theCount : mdq yX12_theCount 0 := ⟨by decide, by decide, by decide +kernel⟩
theorem dX12_isCarried_0 : decode cX12_isCarried 0 = .ok (.iload_n 1, 1) := by decide +kernel
theorem dX12_isCarried_1 : decode cX12_isCarried 1 = .ok (.ifCond .ne 18, 3) := by decide +kernel
theorem dX12_isCarried_4 : decode cX12_isCarried 4 = .ok (.aload_n 0, 1) := by decide +kernel
theorem dX12_isCarried_5 : decode cX12_isCarried 5 = .ok (.invokevirtual 100, 3) := by decide +kernel
theorem dX12_isCarried_8 : decode cX12_isCarried 8 = .ok (.ifCond .le 7, 3) := by decide +kernel
theorem dX12_isCarried_11 : decode cX12_isCarried 11 = .ok (.iconst 1, 1) := by decide +kernel
theorem dX12_isCarried_12 : decode cX12_isCarried 12 = .ok (.goto 24, 3) := by decide +kernel
theorem dX12_isCarried_15 : decode cX12_isCarried 15 = .ok (.iconst 0, 1) := by decide +kernel
theorem dX12_isCarried_16 : decode cX12_isCarried 16 = .ok (.goto 20, 3) := by decide +kernel
theorem dX12_isCarried_19 : decode cX12_isCarried 19 = .ok (.iload_n 1, 1) := by decide +kernel
theorem dX12_isCarried_20 : decode cX12_isCarried 20 = .ok (.iconst 2, 1) := by decide +kernel
theorem dX12_isCarried_21 : decode cX12_isCarried 21 = .ok (.if_icmp .ne 14, 3) := by decide +kernel
theorem dX12_isCarried_24 : decode cX12_isCarried 24 = .ok (.aload_n 0, 1) := by decide +kernel
theorem dX12_isCarried_25 : decode cX12_isCarried 25 = .ok (.invokevirtual 100, 3) := by decide +kernel
theorem dX12_isCarried_28 : decode cX12_isCarried 28 = .ok (.ifCond .ge 7, 3) := by decide +kernel
theorem dX12_isCarried_31 : decode cX12_isCarried 31 = .ok (.iconst 1, 1) := by decide +kernel
theorem dX12_isCarried_32 : decode cX12_isCarried 32 = .ok (.goto 4, 3) := by decide +kernel
theorem dX12_isCarried_35 : decode cX12_isCarried 35 = .ok (.iconst 0, 1) := by decide +kernel
theorem dX12_isCarried_36 : decode cX12_isCarried 36 = .ok (.ireturn, 1) := by decide +kernel
def r_isCarried (a1 : Int32) (m : M) : Option (Int32) :=
  (if a1 = 0 then Option.bind (r_theCount m) (fun v2 => (if v2 ≤ 0 then some (0 : Int32) else some (1 : Int32))) else (if a1 = (2 : Int32) then Option.bind (r_theCount m) (fun v1 => (if 0 ≤ v1 then some (0 : Int32) else some (1 : Int32))) else some (0 : Int32)))
set_option maxRecDepth 20000 in
theorem t_r_isCarried {G : GG} {x : Cx} (E : En G x cX12_isCarried "WreckBoardModel" 5 (some .boolean)) (hn : xn x = 2) (a1 : Int32) (m : M) : Sm G x 0 [(0, .ref (G.2.1 76)), (1, .int a1)] [] m (r_isCarried a1 m) (KRi m) := by
  unfold r_isCarried
  refine s_iload_n 1 E dX12_isCarried_0 rfl rfl ?_
  refine s_if_ne 19 E dX12_isCarried_1 (by decide) ?_ ?_
  · refine s_iload_n 1 E dX12_isCarried_19 rfl rfl ?_
    refine s_iconst (v := (2 : Int32)) E dX12_isCarried_20 (by decide) ?_
    refine s_icmp_ne 35 E dX12_isCarried_21 (by decide) ?_ ?_
    · refine s_iconst (v := (0 : Int32)) E dX12_isCarried_35 (by decide) ?_
      exact s_zret E (by decide) rfl dX12_isCarried_36
    · refine s_aload_n 0 E dX12_isCarried_24 rfl rfl ?_
      refine s_bd (fun v1 hz => ?_)
      refine s_cV (rest := []) E (C_r_theCount (xl x) G  m hz) mdX12_theCount W1501 W1503 W55 W103 W1504 rfl rfl rfl rfl (Nat.le_of_ble_eq_true rfl) ⟨by decide, by decide⟩ dX12_isCarried_25 ?_
      refine s_if_ge 35 E dX12_isCarried_28 (by decide) ?_ ?_
      · refine s_iconst (v := (0 : Int32)) E dX12_isCarried_35 (by decide) ?_
        exact s_zret E (by decide) rfl dX12_isCarried_36
      · refine s_iconst (v := (1 : Int32)) E dX12_isCarried_31 (by decide) ?_
        refine s_goto 36 E dX12_isCarried_32 (by decide) ?_
        exact s_zret E (by decide) rfl dX12_isCarried_36
  · refine s_aload_n 0 E dX12_isCarried_4 rfl rfl ?_
    refine s_bd (fun v2 hz => ?_)
    refine s_cV (rest := []) E (C_r_theCount (xl x) G  m hz) mdX12_theCount W1501 W1503 W55 W103 W1504 rfl rfl rfl rfl (Nat.le_of_ble_eq_true rfl) ⟨by decide, by decide⟩ dX12_isCarried_5 ?_
    refine s_if_le 15 E dX12_isCarried_8 (by decide) ?_ ?_
    · refine s_iconst (v := (0 : Int32)) E dX12_isCarried_15 (by decide) ?_
      refine s_goto 36 E dX12_isCarried_16 (by decide) ?_
      exact s_zret E (by decide) rfl dX12_isCarried_36
    · refine s_iconst (v := (1 : Int32)) E dX12_isCarried_11 (by decide) ?_
      refine s_goto 36 E dX12_isCarried_12 (by decide) ?_
      exact s_zret E (by decide) rfl dX12_isCarried_36
set_option maxRecDepth 20000 in
theorem C_r_isCarried (l : Launch) (G : GG) (a1 : Int32) (m : M) {z : Int32} (hz : r_isCarried a1 m = some z) : Ct l G yX12_isCarried cX12_isCarried 2 (some .boolean) 5 [.ref (G.2.1 76), .int a1] m (some (.int z)) m :=
  ct_of (K := (KRi m)) (by decide) (Nat.le_of_ble_eq_true rfl) (congrArg (fun q => Option.bind q _) hz) (fun x hl hn E => (t_r_isCarried E hn a1 m))
theorem mdX12_isCarried : mdq yX12_isCarried 1 := ⟨by decide, by decide, by decide +kernel⟩
theorem dX12_wouldCarry_0 : decode cX12_wouldCarry 0 = .ok (.aload_n 0, 1) := by decide +kernel
theorem dX12_wouldCarry_1 : decode cX12_wouldCarry 1 = .ok (.iload_n 1, 1) := by decide +kernel
theorem dX12_wouldCarry_2 : decode cX12_wouldCarry 2 = .ok (.iconst 4, 1) := by decide +kernel
theorem dX12_wouldCarry_3 : decode cX12_wouldCarry 3 = .ok (.invokevirtual 79, 3) := by decide +kernel
theorem dX12_wouldCarry_6 : decode cX12_wouldCarry 6 = .ok (.ifCond .ne 19, 3) := by decide +kernel
theorem dX12_wouldCarry_9 : decode cX12_wouldCarry 9 = .ok (.aload_n 0, 1) := by decide +kernel
theorem dX12_wouldCarry_10 : decode cX12_wouldCarry 10 = .ok (.aload_n 0, 1) := by decide +kernel
theorem dX12_wouldCarry_11 : decode cX12_wouldCarry 11 = .ok (.iload_n 1, 1) := by decide +kernel
theorem dX12_wouldCarry_12 : decode cX12_wouldCarry 12 = .ok (.invokevirtual 103, 3) := by decide +kernel
theorem dX12_wouldCarry_15 : decode cX12_wouldCarry 15 = .ok (.invokevirtual 106, 3) := by decide +kernel
theorem dX12_wouldCarry_18 : decode cX12_wouldCarry 18 = .ok (.ifCond .eq 7, 3) := by decide +kernel
theorem dX12_wouldCarry_21 : decode cX12_wouldCarry 21 = .ok (.iconst 1, 1) := by decide +kernel
theorem dX12_wouldCarry_22 : decode cX12_wouldCarry 22 = .ok (.goto 4, 3) := by decide +kernel
theorem dX12_wouldCarry_25 : decode cX12_wouldCarry 25 = .ok (.iconst 0, 1) := by decide +kernel
theorem dX12_wouldCarry_26 : decode cX12_wouldCarry 26 = .ok (.ireturn, 1) := by decide +kernel
def r_wouldCarry (a1 : Int32) (m : M) : Option (Int32 × M) :=
  Option.bind (r_get a1 (4 : Int32) m) (fun v1 => (if v1 = 0 then Option.bind (r_willOf a1 m) (fun z2 => Option.bind (r_isCarried z2.1 z2.2) (fun v3 => (if v3 = 0 then some ((0 : Int32), z2.2) else some ((1 : Int32), z2.2)))) else some ((0 : Int32), m)))
set_option maxRecDepth 20000 in
theorem t_r_wouldCarry {G : GG} {x : Cx} (E : En G x cX12_wouldCarry "WreckBoardModel" 6 (some .boolean)) (hn : xn x = 2) (a1 : Int32) (m : M) : Sm G x 0 [(0, .ref (G.2.1 76)), (1, .int a1)] [] m (r_wouldCarry a1 m) KWi := by
  unfold r_wouldCarry
  refine s_aload_n 0 E dX12_wouldCarry_0 rfl rfl ?_
  refine s_iload_n 1 E dX12_wouldCarry_1 rfl rfl ?_
  refine s_iconst (v := (4 : Int32)) E dX12_wouldCarry_2 (by decide) ?_
  refine s_bd (fun v1 hz => ?_)
  refine s_cV (rest := []) E (C_r_get (xl x) G a1 (4 : Int32) m hz) mdX12_get W1453 W1455 W46 W103 W1456 rfl rfl rfl rfl (Nat.le_of_ble_eq_true rfl) ⟨by decide, by decide⟩ dX12_wouldCarry_3 ?_
  refine s_if_ne 25 E dX12_wouldCarry_6 (by decide) ?_ ?_
  · refine s_iconst (v := (0 : Int32)) E dX12_wouldCarry_25 (by decide) ?_
    exact s_zret E (by decide) rfl dX12_wouldCarry_26
  · refine s_aload_n 0 E dX12_wouldCarry_9 rfl rfl ?_
    refine s_aload_n 0 E dX12_wouldCarry_10 rfl rfl ?_
    refine s_iload_n 1 E dX12_wouldCarry_11 rfl rfl ?_
    refine s_bd (fun z2 hz => ?_)
    refine s_cV (rest := [.ref (G.2.1 76)]) E (C_r_willOf (xl x) G a1 m hz) mdX12_willOf W1472 W1474 W50 W103 W1475 rfl rfl rfl rfl (Nat.le_of_ble_eq_true rfl) ⟨by decide, by decide⟩ dX12_wouldCarry_12 ?_
    refine s_bd (fun v3 hz => ?_)
    refine s_cV (rest := []) E (C_r_isCarried (xl x) G z2.1 z2.2 hz) mdX12_isCarried W1497 W1499 W54 W103 W1500 rfl rfl rfl rfl (Nat.le_of_ble_eq_true rfl) ⟨by decide, by decide⟩ dX12_wouldCarry_15 ?_
    refine s_if_eq 25 E dX12_wouldCarry_18 (by decide) ?_ ?_
    · refine s_iconst (v := (0 : Int32)) E dX12_wouldCarry_25 (by decide) ?_
      exact s_zret E (by decide) rfl dX12_wouldCarry_26
    · refine s_iconst (v := (1 : Int32)) E dX12_wouldCarry_21 (by decide) ?_
      refine s_goto 26 E dX12_wouldCarry_22 (by decide) ?_
      exact s_zret E (by decide) rfl dX12_wouldCarry_26
set_option maxRecDepth 20000 in
theorem C_r_wouldCarry (l : Launch) (G : GG) (a1 : Int32) (m : M) {z : Int32 × M} (hz : r_wouldCarry a1 m = some z) : Ct l G yX12_wouldCarry cX12_wouldCarry 2 (some .boolean) 6 [.ref (G.2.1 76), .int a1] m (some (.int z.1)) z.2 :=
  ct_of (K := KWi) (by decide) (Nat.le_of_ble_eq_true rfl) (congrArg (fun q => Option.bind q _) hz) (fun x hl hn E => (t_r_wouldCarry E hn a1 m))
theorem mdX12_wouldCarry : mdq yX12_wouldCarry 1 := ⟨by decide, by decide, by decide +kernel⟩
theorem dX12_memberOf_0 : decode cX12_memberOf 0 = .ok (.aload_n 0, 1) := by decide +kernel
theorem dX12_memberOf_1 : decode cX12_memberOf 1 = .ok (.iload_n 1, 1) := by decide +kernel
theorem dX12_memberOf_2 : decode cX12_memberOf 2 = .ok (.invokevirtual 226, 3) := by decide +kernel
theorem dX12_memberOf_5 : decode cX12_memberOf 5 = .ok (.ifCond .eq 13, 3) := by decide +kernel
theorem dX12_memberOf_8 : decode cX12_memberOf 8 = .ok (.iload_n 2, 1) := by decide +kernel
theorem dX12_memberOf_9 : decode cX12_memberOf 9 = .ok (.iconst 0, 1) := by decide +kernel
theorem dX12_memberOf_10 : decode cX12_memberOf 10 = .ok (.bipush 8, 2) := by decide +kernel
theorem dX12_memberOf_12 : decode cX12_memberOf 12 = .ok (.invokestatic 71, 3) := by decide +kernel
theorem dX12_memberOf_15 : decode cX12_memberOf 15 = .ok (.ifCond .ne 5, 3) := by decide +kernel
theorem dX12_memberOf_18 : decode cX12_memberOf 18 = .ok (.iconst (-1), 1) := by decide +kernel
theorem dX12_memberOf_19 : decode cX12_memberOf 19 = .ok (.ireturn, 1) := by decide +kernel
theorem dX12_memberOf_20 : decode cX12_memberOf 20 = .ok (.iload_n 2, 1) := by decide +kernel
theorem dX12_memberOf_21 : decode cX12_memberOf 21 = .ok (.tableswitch 63 5 8 #[31, 37, 43, 57], 31) := by decide +kernel
theorem dX12_memberOf_52 : decode cX12_memberOf 52 = .ok (.aload_n 0, 1) := by decide +kernel
theorem dX12_memberOf_53 : decode cX12_memberOf 53 = .ok (.iload_n 1, 1) := by decide +kernel
theorem dX12_memberOf_54 : decode cX12_memberOf 54 = .ok (.invokevirtual 94, 3) := by decide +kernel
theorem dX12_memberOf_57 : decode cX12_memberOf 57 = .ok (.ireturn, 1) := by decide +kernel
theorem dX12_memberOf_58 : decode cX12_memberOf 58 = .ok (.aload_n 0, 1) := by decide +kernel
theorem dX12_memberOf_59 : decode cX12_memberOf 59 = .ok (.iload_n 1, 1) := by decide +kernel
theorem dX12_memberOf_60 : decode cX12_memberOf 60 = .ok (.invokevirtual 97, 3) := by decide +kernel
theorem dX12_memberOf_63 : decode cX12_memberOf 63 = .ok (.ireturn, 1) := by decide +kernel
theorem dX12_memberOf_64 : decode cX12_memberOf 64 = .ok (.aload_n 0, 1) := by decide +kernel
theorem dX12_memberOf_65 : decode cX12_memberOf 65 = .ok (.iload_n 1, 1) := by decide +kernel
theorem dX12_memberOf_66 : decode cX12_memberOf 66 = .ok (.invokevirtual 202, 3) := by decide +kernel
theorem dX12_memberOf_69 : decode cX12_memberOf 69 = .ok (.ifCond .eq 7, 3) := by decide +kernel
theorem dX12_memberOf_72 : decode cX12_memberOf 72 = .ok (.iconst 1, 1) := by decide +kernel
theorem dX12_memberOf_73 : decode cX12_memberOf 73 = .ok (.goto 4, 3) := by decide +kernel
theorem dX12_memberOf_76 : decode cX12_memberOf 76 = .ok (.iconst 0, 1) := by decide +kernel
theorem dX12_memberOf_77 : decode cX12_memberOf 77 = .ok (.ireturn, 1) := by decide +kernel
theorem dX12_memberOf_78 : decode cX12_memberOf 78 = .ok (.aload_n 0, 1) := by decide +kernel
theorem dX12_memberOf_79 : decode cX12_memberOf 79 = .ok (.iload_n 1, 1) := by decide +kernel
theorem dX12_memberOf_80 : decode cX12_memberOf 80 = .ok (.invokevirtual 103, 3) := by decide +kernel
theorem dX12_memberOf_83 : decode cX12_memberOf 83 = .ok (.ireturn, 1) := by decide +kernel
theorem dX12_memberOf_84 : decode cX12_memberOf 84 = .ok (.aload_n 0, 1) := by decide +kernel
theorem dX12_memberOf_85 : decode cX12_memberOf 85 = .ok (.iload_n 1, 1) := by decide +kernel
theorem dX12_memberOf_86 : decode cX12_memberOf 86 = .ok (.iload_n 2, 1) := by decide +kernel
theorem dX12_memberOf_87 : decode cX12_memberOf 87 = .ok (.invokevirtual 79, 3) := by decide +kernel
theorem dX12_memberOf_90 : decode cX12_memberOf 90 = .ok (.ireturn, 1) := by decide +kernel
def r_memberOf (a1 : Int32) (a2 : Int32) (m : M) : Option (Int32 × M) :=
  Option.bind (r_isMember a1 m) (fun v1 => (if v1 = 0 then some ((-1 : Int32), m) else Option.bind (r_in1 a2 (0 : Int32) (8 : Int32) m) (fun v2 => (if v2 = 0 then some ((-1 : Int32), m) else (if a2 = (5 : Int32) then Option.bind (r_sideOf a1 m) (fun v3 => some (v3, m)) else (if a2 = (6 : Int32) then Option.bind (r_weighsOf a1 m) (fun v4 => some (v4, m)) else (if a2 = (7 : Int32) then Option.bind (r_wouldCarry a1 m) (fun z5 => (if z5.1 = 0 then some ((0 : Int32), z5.2) else some ((1 : Int32), z5.2))) else (if a2 = (8 : Int32) then Option.bind (r_willOf a1 m) (fun z6 => some (z6.1, z6.2)) else Option.bind (r_get a1 a2 m) (fun v7 => some (v7, m))))))))))
set_option maxRecDepth 20000 in
theorem t_r_memberOf {G : GG} {x : Cx} (E : En G x cX12_memberOf "WreckBoardModel" 7 (some .int)) (hn : xn x = 3) (a1 : Int32) (a2 : Int32) (m : M) : Sm G x 0 [(0, .ref (G.2.1 76)), (1, .int a1), (2, .int a2)] [] m (r_memberOf a1 a2 m) KWi := by
  unfold r_memberOf
  refine s_aload_n 0 E dX12_memberOf_0 rfl rfl ?_
  refine s_iload_n 1 E dX12_memberOf_1 rfl rfl ?_
  refine s_bd (fun v1 hz => ?_)
  refine s_cV (rest := []) E (C_r_isMember (xl x) G a1 m hz) mdX12_isMember W1441 W1443 W43 W103 W1444 rfl rfl rfl rfl (Nat.le_of_ble_eq_true rfl) ⟨by decide, by decide⟩ dX12_memberOf_2 ?_
  refine s_if_eq 18 E dX12_memberOf_5 (by decide) ?_ ?_
  · refine s_iconst (v := (-1 : Int32)) E dX12_memberOf_18 (by decide) ?_
    exact s_iret E rfl dX12_memberOf_19
  · refine s_iload_n 2 E dX12_memberOf_8 rfl rfl ?_
    refine s_iconst (v := (0 : Int32)) E dX12_memberOf_9 (by decide) ?_
    refine s_bipush (v := (8 : Int32)) E dX12_memberOf_10 (by decide) ?_
    refine s_bd (fun v2 hz => ?_)
    refine s_cS (rest := []) E (C_r_in1 (xl x) G a2 (0 : Int32) (8 : Int32) m hz) mdX12_in1 W1359 W1360 W103 W1361 rfl rfl (Nat.le_of_ble_eq_true rfl) ⟨by decide, by decide⟩ dX12_memberOf_12 ?_
    refine s_if_ne 20 E dX12_memberOf_15 (by decide) ?_ ?_
    · refine s_iload_n 2 E dX12_memberOf_20 rfl rfl ?_
      refine s_case (fun h21_0 => ?_) (fun h21_0 => ?_)
      · refine s_tabIn 52 E dX12_memberOf_21 h21_0 (by decide) (by decide) rfl (by decide) ?_
        refine s_aload_n 0 E dX12_memberOf_52 rfl rfl ?_
        refine s_iload_n 1 E dX12_memberOf_53 rfl rfl ?_
        refine s_bd (fun v3 hz => ?_)
        refine s_cV (rest := []) E (C_r_sideOf (xl x) G a1 m hz) mdX12_sideOf W1445 W1447 W44 W103 W1448 rfl rfl rfl rfl (Nat.le_of_ble_eq_true rfl) ⟨by decide, by decide⟩ dX12_memberOf_54 ?_
        exact s_iret E rfl dX12_memberOf_57
      · refine s_case (fun h21_1 => ?_) (fun h21_1 => ?_)
        · refine s_tabIn 58 E dX12_memberOf_21 h21_1 (by decide) (by decide) rfl (by decide) ?_
          refine s_aload_n 0 E dX12_memberOf_58 rfl rfl ?_
          refine s_iload_n 1 E dX12_memberOf_59 rfl rfl ?_
          refine s_bd (fun v4 hz => ?_)
          refine s_cV (rest := []) E (C_r_weighsOf (xl x) G a1 m hz) mdX12_weighsOf W1464 W1466 W48 W103 W1467 rfl rfl rfl rfl (Nat.le_of_ble_eq_true rfl) ⟨by decide, by decide⟩ dX12_memberOf_60 ?_
          exact s_iret E rfl dX12_memberOf_63
        · refine s_case (fun h21_2 => ?_) (fun h21_2 => ?_)
          · refine s_tabIn 64 E dX12_memberOf_21 h21_2 (by decide) (by decide) rfl (by decide) ?_
            refine s_aload_n 0 E dX12_memberOf_64 rfl rfl ?_
            refine s_iload_n 1 E dX12_memberOf_65 rfl rfl ?_
            refine s_bd (fun z5 hz => ?_)
            refine s_cV (rest := []) E (C_r_wouldCarry (xl x) G a1 m hz) mdX12_wouldCarry W1468 W1470 W49 W103 W1471 rfl rfl rfl rfl (Nat.le_of_ble_eq_true rfl) ⟨by decide, by decide⟩ dX12_memberOf_66 ?_
            refine s_if_eq 76 E dX12_memberOf_69 (by decide) ?_ ?_
            · refine s_iconst (v := (0 : Int32)) E dX12_memberOf_76 (by decide) ?_
              exact s_iret E rfl dX12_memberOf_77
            · refine s_iconst (v := (1 : Int32)) E dX12_memberOf_72 (by decide) ?_
              refine s_goto 77 E dX12_memberOf_73 (by decide) ?_
              exact s_iret E rfl dX12_memberOf_77
          · refine s_case (fun h21_3 => ?_) (fun h21_3 => ?_)
            · refine s_tabIn 78 E dX12_memberOf_21 h21_3 (by decide) (by decide) rfl (by decide) ?_
              refine s_aload_n 0 E dX12_memberOf_78 rfl rfl ?_
              refine s_iload_n 1 E dX12_memberOf_79 rfl rfl ?_
              refine s_bd (fun z6 hz => ?_)
              refine s_cV (rest := []) E (C_r_willOf (xl x) G a1 m hz) mdX12_willOf W1472 W1474 W50 W103 W1475 rfl rfl rfl rfl (Nat.le_of_ble_eq_true rfl) ⟨by decide, by decide⟩ dX12_memberOf_80 ?_
              exact s_iret E rfl dX12_memberOf_83
            · refine s_tabOut 84 E dX12_memberOf_21 (by have e0 := ne_toIntK h21_0 (k := 5) (by decide); have e1 := ne_toIntK h21_1 (k := 6) (by decide); have e2 := ne_toIntK h21_2 (k := 7) (by decide); have e3 := ne_toIntK h21_3 (k := 8) (by decide); omega) (by decide) ?_
              refine s_aload_n 0 E dX12_memberOf_84 rfl rfl ?_
              refine s_iload_n 1 E dX12_memberOf_85 rfl rfl ?_
              refine s_iload_n 2 E dX12_memberOf_86 rfl rfl ?_
              refine s_bd (fun v7 hz => ?_)
              refine s_cV (rest := []) E (C_r_get (xl x) G a1 a2 m hz) mdX12_get W1453 W1455 W46 W103 W1456 rfl rfl rfl rfl (Nat.le_of_ble_eq_true rfl) ⟨by decide, by decide⟩ dX12_memberOf_87 ?_
              exact s_iret E rfl dX12_memberOf_90
    · refine s_iconst (v := (-1 : Int32)) E dX12_memberOf_18 (by decide) ?_
      exact s_iret E rfl dX12_memberOf_19
set_option maxRecDepth 20000 in
theorem C_r_memberOf (l : Launch) (G : GG) (a1 : Int32) (a2 : Int32) (m : M) {z : Int32 × M} (hz : r_memberOf a1 a2 m = some z) : Ct l G yX12_memberOf cX12_memberOf 3 (some .int) 7 [.ref (G.2.1 76), .int a1, .int a2] m (some (.int z.1)) z.2 :=
  ct_of (K := KWi) (by decide) (Nat.le_of_ble_eq_true rfl) (congrArg (fun q => Option.bind q _) hz) (fun x hl hn E => (t_r_memberOf E hn a1 a2 m))
theorem dX12_becomes_0 : decode cX12_becomes 0 = .ok (.aload_n 0, 1) := by decide +kernel
theorem dX12_becomes_1 : decode cX12_becomes 1 = .ok (.getfield 9, 3) := by decide +kernel
theorem dX12_becomes_4 : decode cX12_becomes 4 = .ok (.iload_n 1, 1) := by decide +kernel
theorem dX12_becomes_5 : decode cX12_becomes 5 = .ok (.iaload, 1) := by decide +kernel
theorem dX12_becomes_6 : decode cX12_becomes 6 = .ok (.istore_n 3, 1) := by decide +kernel
theorem dX12_becomes_7 : decode cX12_becomes 7 = .ok (.aload_n 0, 1) := by decide +kernel
theorem dX12_becomes_8 : decode cX12_becomes 8 = .ok (.getfield 9, 3) := by decide +kernel
theorem dX12_becomes_11 : decode cX12_becomes 11 = .ok (.iload_n 1, 1) := by decide +kernel
theorem dX12_becomes_12 : decode cX12_becomes 12 = .ok (.iload_n 2, 1) := by decide +kernel
theorem dX12_becomes_13 : decode cX12_becomes 13 = .ok (.iastore, 1) := by decide +kernel
theorem dX12_becomes_14 : decode cX12_becomes 14 = .ok (.iload_n 3, 1) := by decide +kernel
theorem dX12_becomes_15 : decode cX12_becomes 15 = .ok (.ireturn, 1) := by decide +kernel
def r_becomes (a1 : Int32) (a2 : Int32) (m : M) : Option (Int32 × M) :=
  Option.bind (rdI m 77 a1) (fun v1 => Option.bind (wrI m 77 a1 a2) (fun m2 => some (v1, m2)))
set_option maxRecDepth 20000 in
theorem t_r_becomes {G : GG} {x : Cx} (E : En G x cX12_becomes "WreckBoardModel" 1 (some .int)) (hn : xn x = 4) (a1 : Int32) (a2 : Int32) (m : M) : Sm G x 0 [(0, .ref (G.2.1 76)), (1, .int a1), (2, .int a2)] [] m (r_becomes a1 a2 m) KWi := by
  unfold r_becomes
  refine s_aload_n 0 E dX12_becomes_0 rfl rfl ?_
  refine s_getr (k := 0) (T := TX12) 76 E rfl rfl rfl inX12 (by decide) W1239 dX12_becomes_1 ?_
  refine s_iload_n 1 E dX12_becomes_4 rfl rfl ?_
  refine s_iald E dX12_becomes_5 (fun v1 => ?_)
  refine s_istore_n (lv' := [(0, .ref (G.2.1 76)), (1, .int a1), (2, .int a2), (3, .int v1)]) [1, 2, 3, 0] E dX12_becomes_6 rfl (by rw [hn]; decide) rfl ?_
  refine s_aload_n 0 E dX12_becomes_7 rfl rfl ?_
  refine s_getr (k := 0) (T := TX12) 76 E rfl rfl rfl inX12 (by decide) W1239 dX12_becomes_8 ?_
  refine s_iload_n 1 E dX12_becomes_11 rfl rfl ?_
  refine s_iload_n 2 E dX12_becomes_12 rfl rfl ?_
  refine s_iast E dX12_becomes_13 (fun m2 => ?_)
  refine s_iload_n 3 E dX12_becomes_14 rfl rfl ?_
  exact s_iret E rfl dX12_becomes_15
set_option maxRecDepth 20000 in
theorem C_r_becomes (l : Launch) (G : GG) (a1 : Int32) (a2 : Int32) (m : M) {z : Int32 × M} (hz : r_becomes a1 a2 m = some z) : Ct l G yX12_becomes cX12_becomes 4 (some .int) 1 [.ref (G.2.1 76), .int a1, .int a2] m (some (.int z.1)) z.2 :=
  ct_of (K := KWi) (by decide) (Nat.le_of_ble_eq_true rfl) (congrArg (fun q => Option.bind q _) hz) (fun x hl hn E => (t_r_becomes E hn a1 a2 m))
theorem mdX12_becomes : mdq yX12_becomes 2 := ⟨by decide, by decide, by decide +kernel⟩
theorem dX12_change_0 : decode cX12_change 0 = .ok (.iload_n 2, 1) := by decide +kernel
theorem dX12_change_1 : decode cX12_change 1 = .ok (.iconst 3, 1) := by decide +kernel
theorem dX12_change_2 : decode cX12_change 2 = .ok (.if_icmp .ne 7, 3) := by decide +kernel
theorem dX12_change_5 : decode cX12_change 5 = .ok (.iconst 5, 1) := by decide +kernel
theorem dX12_change_6 : decode cX12_change 6 = .ok (.goto 14, 3) := by decide +kernel
theorem dX12_change_9 : decode cX12_change 9 = .ok (.iload_n 2, 1) := by decide +kernel
theorem dX12_change_10 : decode cX12_change 10 = .ok (.iconst 4, 1) := by decide +kernel
theorem dX12_change_11 : decode cX12_change 11 = .ok (.if_icmp .ne 7, 3) := by decide +kernel
theorem dX12_change_14 : decode cX12_change 14 = .ok (.iconst 1, 1) := by decide +kernel
theorem dX12_change_15 : decode cX12_change 15 = .ok (.goto 5, 3) := by decide +kernel
theorem dX12_change_18 : decode cX12_change 18 = .ok (.bipush 9, 2) := by decide +kernel
theorem dX12_change_20 : decode cX12_change 20 = .ok (.istore 4, 2) := by decide +kernel
theorem dX12_change_22 : decode cX12_change 22 = .ok (.aload_n 0, 1) := by decide +kernel
theorem dX12_change_23 : decode cX12_change 23 = .ok (.iload_n 1, 1) := by decide +kernel
theorem dX12_change_24 : decode cX12_change 24 = .ok (.invokevirtual 226, 3) := by decide +kernel
theorem dX12_change_27 : decode cX12_change 27 = .ok (.ifCond .eq 38, 3) := by decide +kernel
theorem dX12_change_30 : decode cX12_change 30 = .ok (.iload_n 2, 1) := by decide +kernel
theorem dX12_change_31 : decode cX12_change 31 = .ok (.iconst 1, 1) := by decide +kernel
theorem dX12_change_32 : decode cX12_change 32 = .ok (.iconst 4, 1) := by decide +kernel
theorem dX12_change_33 : decode cX12_change 33 = .ok (.invokestatic 71, 3) := by decide +kernel
theorem dX12_change_36 : decode cX12_change 36 = .ok (.ifCond .eq 29, 3) := by decide +kernel
theorem dX12_change_39 : decode cX12_change 39 = .ok (.iload_n 3, 1) := by decide +kernel
theorem dX12_change_40 : decode cX12_change 40 = .ok (.iconst 0, 1) := by decide +kernel
theorem dX12_change_41 : decode cX12_change 41 = .ok (.iload 4, 2) := by decide +kernel
theorem dX12_change_43 : decode cX12_change 43 = .ok (.invokestatic 71, 3) := by decide +kernel
theorem dX12_change_46 : decode cX12_change 46 = .ok (.ifCond .eq 19, 3) := by decide +kernel
theorem dX12_change_49 : decode cX12_change 49 = .ok (.aload_n 0, 1) := by decide +kernel
theorem dX12_change_50 : decode cX12_change 50 = .ok (.bipush 37, 2) := by decide +kernel
theorem dX12_change_52 : decode cX12_change 52 = .ok (.iconst 5, 1) := by decide +kernel
theorem dX12_change_53 : decode cX12_change 53 = .ok (.iload_n 1, 1) := by decide +kernel
theorem dX12_change_54 : decode cX12_change 54 = .ok (.imul, 1) := by decide +kernel
theorem dX12_change_55 : decode cX12_change 55 = .ok (.iadd, 1) := by decide +kernel
theorem dX12_change_56 : decode cX12_change 56 = .ok (.iload_n 2, 1) := by decide +kernel
theorem dX12_change_57 : decode cX12_change 57 = .ok (.iadd, 1) := by decide +kernel
theorem dX12_change_58 : decode cX12_change 58 = .ok (.iload_n 3, 1) := by decide +kernel
theorem dX12_change_59 : decode cX12_change 59 = .ok (.invokevirtual 229, 3) := by decide +kernel
theorem dX12_change_62 : decode cX12_change 62 = .ok (.goto 4, 3) := by decide +kernel
theorem dX12_change_65 : decode cX12_change 65 = .ok (.iconst (-1), 1) := by decide +kernel
theorem dX12_change_66 : decode cX12_change 66 = .ok (.ireturn, 1) := by decide +kernel
def r_change_20 (a1 : Int32) (a2 : Int32) (a3 : Int32) (s0 : Int32) (m : M) : Option (Int32 × M) :=
  Option.bind (r_isMember a1 m) (fun v1 => (if v1 = 0 then some ((-1 : Int32), m) else Option.bind (r_in1 a2 (1 : Int32) (4 : Int32) m) (fun v2 => (if v2 = 0 then some ((-1 : Int32), m) else Option.bind (r_in1 a3 (0 : Int32) s0 m) (fun v3 => (if v3 = 0 then some ((-1 : Int32), m) else Option.bind (r_becomes (((37 : Int32) + ((5 : Int32) * a1)) + a2) a3 m) (fun z4 => some (z4.1, z4.2))))))))
set_option maxRecDepth 20000 in
theorem t_r_change_20 {G : GG} {x : Cx} (E : En G x cX12_change "WreckBoardModel" 3 (some .int)) (hn : xn x = 5) (a1 : Int32) (a2 : Int32) (a3 : Int32) (s0 : Int32) (m : M) : Sm G x 20 [(0, .ref (G.2.1 76)), (1, .int a1), (2, .int a2), (3, .int a3)] [.int s0] m (r_change_20 a1 a2 a3 s0 m) KWi := by
  unfold r_change_20
  refine s_istore (lv' := [(0, .ref (G.2.1 76)), (1, .int a1), (2, .int a2), (3, .int a3), (4, .int s0)]) [1, 2, 3, 4, 0] E dX12_change_20 (by rw [hn]; decide) rfl ?_
  refine s_aload_n 0 E dX12_change_22 rfl rfl ?_
  refine s_iload_n 1 E dX12_change_23 rfl rfl ?_
  refine s_bd (fun v1 hz => ?_)
  refine s_cV (rest := []) E (C_r_isMember (xl x) G a1 m hz) mdX12_isMember W1441 W1443 W43 W103 W1444 rfl rfl rfl rfl (Nat.le_of_ble_eq_true rfl) ⟨by decide, by decide⟩ dX12_change_24 ?_
  refine s_if_eq 65 E dX12_change_27 (by decide) ?_ ?_
  · refine s_iconst (v := (-1 : Int32)) E dX12_change_65 (by decide) ?_
    exact s_iret E rfl dX12_change_66
  · refine s_iload_n 2 E dX12_change_30 rfl rfl ?_
    refine s_iconst (v := (1 : Int32)) E dX12_change_31 (by decide) ?_
    refine s_iconst (v := (4 : Int32)) E dX12_change_32 (by decide) ?_
    refine s_bd (fun v2 hz => ?_)
    refine s_cS (rest := []) E (C_r_in1 (xl x) G a2 (1 : Int32) (4 : Int32) m hz) mdX12_in1 W1359 W1360 W103 W1361 rfl rfl (Nat.le_of_ble_eq_true rfl) ⟨by decide, by decide⟩ dX12_change_33 ?_
    refine s_if_eq 65 E dX12_change_36 (by decide) ?_ ?_
    · refine s_iconst (v := (-1 : Int32)) E dX12_change_65 (by decide) ?_
      exact s_iret E rfl dX12_change_66
    · refine s_iload_n 3 E dX12_change_39 rfl rfl ?_
      refine s_iconst (v := (0 : Int32)) E dX12_change_40 (by decide) ?_
      refine s_iload 4 E dX12_change_41 rfl ?_
      refine s_bd (fun v3 hz => ?_)
      refine s_cS (rest := []) E (C_r_in1 (xl x) G a3 (0 : Int32) s0 m hz) mdX12_in1 W1359 W1360 W103 W1361 rfl rfl (Nat.le_of_ble_eq_true rfl) ⟨by decide, by decide⟩ dX12_change_43 ?_
      refine s_if_eq 65 E dX12_change_46 (by decide) ?_ ?_
      · refine s_iconst (v := (-1 : Int32)) E dX12_change_65 (by decide) ?_
        exact s_iret E rfl dX12_change_66
      · refine s_aload_n 0 E dX12_change_49 rfl rfl ?_
        refine s_bipush (v := (37 : Int32)) E dX12_change_50 (by decide) ?_
        refine s_iconst (v := (5 : Int32)) E dX12_change_52 (by decide) ?_
        refine s_iload_n 1 E dX12_change_53 rfl rfl ?_
        refine s_imul E dX12_change_54 ?_
        refine s_iadd E dX12_change_55 ?_
        refine s_iload_n 2 E dX12_change_56 rfl rfl ?_
        refine s_iadd E dX12_change_57 ?_
        refine s_iload_n 3 E dX12_change_58 rfl rfl ?_
        refine s_bd (fun z4 hz => ?_)
        refine s_cV (rest := []) E (C_r_becomes (xl x) G (((37 : Int32) + ((5 : Int32) * a1)) + a2) a3 m hz) mdX12_becomes W1509 W1511 W56 W103 W1512 rfl rfl rfl rfl (Nat.le_of_ble_eq_true rfl) ⟨by decide, by decide⟩ dX12_change_59 ?_
        refine s_goto 66 E dX12_change_62 (by decide) ?_
        exact s_iret E rfl dX12_change_66
def r_change (a1 : Int32) (a2 : Int32) (a3 : Int32) (m : M) : Option (Int32 × M) :=
  (if a2 = (3 : Int32) then r_change_20 a1 a2 a3 (5 : Int32) m else (if a2 = (4 : Int32) then r_change_20 a1 a2 a3 (1 : Int32) m else r_change_20 a1 a2 a3 (9 : Int32) m))
set_option maxRecDepth 20000 in
theorem t_r_change {G : GG} {x : Cx} (E : En G x cX12_change "WreckBoardModel" 3 (some .int)) (hn : xn x = 5) (a1 : Int32) (a2 : Int32) (a3 : Int32) (m : M) : Sm G x 0 [(0, .ref (G.2.1 76)), (1, .int a1), (2, .int a2), (3, .int a3)] [] m (r_change a1 a2 a3 m) KWi := by
  unfold r_change
  refine s_iload_n 2 E dX12_change_0 rfl rfl ?_
  refine s_iconst (v := (3 : Int32)) E dX12_change_1 (by decide) ?_
  refine s_icmp_ne 9 E dX12_change_2 (by decide) ?_ ?_
  · refine s_iload_n 2 E dX12_change_9 rfl rfl ?_
    refine s_iconst (v := (4 : Int32)) E dX12_change_10 (by decide) ?_
    refine s_icmp_ne 18 E dX12_change_11 (by decide) ?_ ?_
    · refine s_bipush (v := (9 : Int32)) E dX12_change_18 (by decide) ?_
      exact t_r_change_20 E hn a1 a2 a3 (9 : Int32) m
    · refine s_iconst (v := (1 : Int32)) E dX12_change_14 (by decide) ?_
      refine s_goto 20 E dX12_change_15 (by decide) ?_
      exact t_r_change_20 E hn a1 a2 a3 (1 : Int32) m
  · refine s_iconst (v := (5 : Int32)) E dX12_change_5 (by decide) ?_
    refine s_goto 20 E dX12_change_6 (by decide) ?_
    exact t_r_change_20 E hn a1 a2 a3 (5 : Int32) m
set_option maxRecDepth 20000 in
theorem C_r_change (l : Launch) (G : GG) (a1 : Int32) (a2 : Int32) (a3 : Int32) (m : M) {z : Int32 × M} (hz : r_change a1 a2 a3 m = some z) : Ct l G yX12_change cX12_change 5 (some .int) 3 [.ref (G.2.1 76), .int a1, .int a2, .int a3] m (some (.int z.1)) z.2 :=
  ct_of (K := KWi) (by decide) (Nat.le_of_ble_eq_true rfl) (congrArg (fun q => Option.bind q _) hz) (fun x hl hn E => (t_r_change E hn a1 a2 a3 m))
theorem dX12_remake_0 : decode cX12_remake 0 = .ok (.aload_n 0, 1) := by decide +kernel
theorem dX12_remake_1 : decode cX12_remake 1 = .ok (.iload_n 1, 1) := by decide +kernel
theorem dX12_remake_2 : decode cX12_remake 2 = .ok (.invokevirtual 226, 3) := by decide +kernel
theorem dX12_remake_5 : decode cX12_remake 5 = .ok (.ifCond .eq 26, 3) := by decide +kernel
theorem dX12_remake_8 : decode cX12_remake 8 = .ok (.iload_n 2, 1) := by decide +kernel
theorem dX12_remake_9 : decode cX12_remake 9 = .ok (.iconst 1, 1) := by decide +kernel
theorem dX12_remake_10 : decode cX12_remake 10 = .ok (.iconst 5, 1) := by decide +kernel
theorem dX12_remake_11 : decode cX12_remake 11 = .ok (.invokestatic 71, 3) := by decide +kernel
theorem dX12_remake_14 : decode cX12_remake 14 = .ok (.ifCond .eq 17, 3) := by decide +kernel
theorem dX12_remake_17 : decode cX12_remake 17 = .ok (.aload_n 0, 1) := by decide +kernel
theorem dX12_remake_18 : decode cX12_remake 18 = .ok (.bipush 37, 2) := by decide +kernel
theorem dX12_remake_20 : decode cX12_remake 20 = .ok (.iconst 5, 1) := by decide +kernel
theorem dX12_remake_21 : decode cX12_remake 21 = .ok (.iload_n 1, 1) := by decide +kernel
theorem dX12_remake_22 : decode cX12_remake 22 = .ok (.imul, 1) := by decide +kernel
theorem dX12_remake_23 : decode cX12_remake 23 = .ok (.iadd, 1) := by decide +kernel
theorem dX12_remake_24 : decode cX12_remake 24 = .ok (.iload_n 2, 1) := by decide +kernel
theorem dX12_remake_25 : decode cX12_remake 25 = .ok (.invokevirtual 229, 3) := by decide +kernel
theorem dX12_remake_28 : decode cX12_remake 28 = .ok (.goto 4, 3) := by decide +kernel
theorem dX12_remake_31 : decode cX12_remake 31 = .ok (.iconst (-1), 1) := by decide +kernel
theorem dX12_remake_32 : decode cX12_remake 32 = .ok (.ireturn, 1) := by decide +kernel
def r_remake (a1 : Int32) (a2 : Int32) (m : M) : Option (Int32 × M) :=
  Option.bind (r_isMember a1 m) (fun v1 => (if v1 = 0 then some ((-1 : Int32), m) else Option.bind (r_in1 a2 (1 : Int32) (5 : Int32) m) (fun v2 => (if v2 = 0 then some ((-1 : Int32), m) else Option.bind (r_becomes ((37 : Int32) + ((5 : Int32) * a1)) a2 m) (fun z3 => some (z3.1, z3.2))))))
set_option maxRecDepth 20000 in
theorem t_r_remake {G : GG} {x : Cx} (E : En G x cX12_remake "WreckBoardModel" 3 (some .int)) (hn : xn x = 3) (a1 : Int32) (a2 : Int32) (m : M) : Sm G x 0 [(0, .ref (G.2.1 76)), (1, .int a1), (2, .int a2)] [] m (r_remake a1 a2 m) KWi := by
  unfold r_remake
  refine s_aload_n 0 E dX12_remake_0 rfl rfl ?_
  refine s_iload_n 1 E dX12_remake_1 rfl rfl ?_
  refine s_bd (fun v1 hz => ?_)
  refine s_cV (rest := []) E (C_r_isMember (xl x) G a1 m hz) mdX12_isMember W1441 W1443 W43 W103 W1444 rfl rfl rfl rfl (Nat.le_of_ble_eq_true rfl) ⟨by decide, by decide⟩ dX12_remake_2 ?_
  refine s_if_eq 31 E dX12_remake_5 (by decide) ?_ ?_
  · refine s_iconst (v := (-1 : Int32)) E dX12_remake_31 (by decide) ?_
    exact s_iret E rfl dX12_remake_32
  · refine s_iload_n 2 E dX12_remake_8 rfl rfl ?_
    refine s_iconst (v := (1 : Int32)) E dX12_remake_9 (by decide) ?_
    refine s_iconst (v := (5 : Int32)) E dX12_remake_10 (by decide) ?_
    refine s_bd (fun v2 hz => ?_)
    refine s_cS (rest := []) E (C_r_in1 (xl x) G a2 (1 : Int32) (5 : Int32) m hz) mdX12_in1 W1359 W1360 W103 W1361 rfl rfl (Nat.le_of_ble_eq_true rfl) ⟨by decide, by decide⟩ dX12_remake_11 ?_
    refine s_if_eq 31 E dX12_remake_14 (by decide) ?_ ?_
    · refine s_iconst (v := (-1 : Int32)) E dX12_remake_31 (by decide) ?_
      exact s_iret E rfl dX12_remake_32
    · refine s_aload_n 0 E dX12_remake_17 rfl rfl ?_
      refine s_bipush (v := (37 : Int32)) E dX12_remake_18 (by decide) ?_
      refine s_iconst (v := (5 : Int32)) E dX12_remake_20 (by decide) ?_
      refine s_iload_n 1 E dX12_remake_21 rfl rfl ?_
      refine s_imul E dX12_remake_22 ?_
      refine s_iadd E dX12_remake_23 ?_
      refine s_iload_n 2 E dX12_remake_24 rfl rfl ?_
      refine s_bd (fun z3 hz => ?_)
      refine s_cV (rest := []) E (C_r_becomes (xl x) G ((37 : Int32) + ((5 : Int32) * a1)) a2 m hz) mdX12_becomes W1509 W1511 W56 W103 W1512 rfl rfl rfl rfl (Nat.le_of_ble_eq_true rfl) ⟨by decide, by decide⟩ dX12_remake_25 ?_
      refine s_goto 32 E dX12_remake_28 (by decide) ?_
      exact s_iret E rfl dX12_remake_32
set_option maxRecDepth 20000 in
theorem C_r_remake (l : Launch) (G : GG) (a1 : Int32) (a2 : Int32) (m : M) {z : Int32 × M} (hz : r_remake a1 a2 m = some z) : Ct l G yX12_remake cX12_remake 3 (some .int) 3 [.ref (G.2.1 76), .int a1, .int a2] m (some (.int z.1)) z.2 :=
  ct_of (K := KWi) (by decide) (Nat.le_of_ble_eq_true rfl) (congrArg (fun q => Option.bind q _) hz) (fun x hl hn E => (t_r_remake E hn a1 a2 m))
theorem dX12_ship_0 : decode cX12_ship 0 = .ok (.iload_n 1, 1) := by decide +kernel
theorem dX12_ship_1 : decode cX12_ship 1 = .ok (.iconst 0, 1) := by decide +kernel
theorem dX12_ship_2 : decode cX12_ship 2 = .ok (.bipush 15, 2) := by decide +kernel
theorem dX12_ship_4 : decode cX12_ship 4 = .ok (.invokestatic 71, 3) := by decide +kernel
theorem dX12_ship_7 : decode cX12_ship 7 = .ok (.ifCond .eq 25, 3) := by decide +kernel
theorem dX12_ship_10 : decode cX12_ship 10 = .ok (.iload_n 2, 1) := by decide +kernel
theorem dX12_ship_11 : decode cX12_ship 11 = .ok (.iconst 0, 1) := by decide +kernel
theorem dX12_ship_12 : decode cX12_ship 12 = .ok (.bipush 15, 2) := by decide +kernel
theorem dX12_ship_14 : decode cX12_ship 14 = .ok (.invokestatic 71, 3) := by decide +kernel
theorem dX12_ship_17 : decode cX12_ship 17 = .ok (.ifCond .eq 15, 3) := by decide +kernel
theorem dX12_ship_20 : decode cX12_ship 20 = .ok (.aload_n 0, 1) := by decide +kernel
theorem dX12_ship_21 : decode cX12_ship 21 = .ok (.bipush 9, 2) := by decide +kernel
theorem dX12_ship_23 : decode cX12_ship 23 = .ok (.iload_n 1, 1) := by decide +kernel
theorem dX12_ship_24 : decode cX12_ship 24 = .ok (.iadd, 1) := by decide +kernel
theorem dX12_ship_25 : decode cX12_ship 25 = .ok (.iload_n 2, 1) := by decide +kernel
theorem dX12_ship_26 : decode cX12_ship 26 = .ok (.invokevirtual 229, 3) := by decide +kernel
theorem dX12_ship_29 : decode cX12_ship 29 = .ok (.goto 4, 3) := by decide +kernel
theorem dX12_ship_32 : decode cX12_ship 32 = .ok (.iconst (-1), 1) := by decide +kernel
theorem dX12_ship_33 : decode cX12_ship 33 = .ok (.ireturn, 1) := by decide +kernel
def r_ship (a1 : Int32) (a2 : Int32) (m : M) : Option (Int32 × M) :=
  Option.bind (r_in1 a1 (0 : Int32) (15 : Int32) m) (fun v1 => (if v1 = 0 then some ((-1 : Int32), m) else Option.bind (r_in1 a2 (0 : Int32) (15 : Int32) m) (fun v2 => (if v2 = 0 then some ((-1 : Int32), m) else Option.bind (r_becomes ((9 : Int32) + a1) a2 m) (fun z3 => some (z3.1, z3.2))))))
set_option maxRecDepth 20000 in
theorem t_r_ship {G : GG} {x : Cx} (E : En G x cX12_ship "WreckBoardModel" 2 (some .int)) (hn : xn x = 3) (a1 : Int32) (a2 : Int32) (m : M) : Sm G x 0 [(0, .ref (G.2.1 76)), (1, .int a1), (2, .int a2)] [] m (r_ship a1 a2 m) KWi := by
  unfold r_ship
  refine s_iload_n 1 E dX12_ship_0 rfl rfl ?_
  refine s_iconst (v := (0 : Int32)) E dX12_ship_1 (by decide) ?_
  refine s_bipush (v := (15 : Int32)) E dX12_ship_2 (by decide) ?_
  refine s_bd (fun v1 hz => ?_)
  refine s_cS (rest := []) E (C_r_in1 (xl x) G a1 (0 : Int32) (15 : Int32) m hz) mdX12_in1 W1359 W1360 W103 W1361 rfl rfl (Nat.le_of_ble_eq_true rfl) ⟨by decide, by decide⟩ dX12_ship_4 ?_
  refine s_if_eq 32 E dX12_ship_7 (by decide) ?_ ?_
  · refine s_iconst (v := (-1 : Int32)) E dX12_ship_32 (by decide) ?_
    exact s_iret E rfl dX12_ship_33
  · refine s_iload_n 2 E dX12_ship_10 rfl rfl ?_
    refine s_iconst (v := (0 : Int32)) E dX12_ship_11 (by decide) ?_
    refine s_bipush (v := (15 : Int32)) E dX12_ship_12 (by decide) ?_
    refine s_bd (fun v2 hz => ?_)
    refine s_cS (rest := []) E (C_r_in1 (xl x) G a2 (0 : Int32) (15 : Int32) m hz) mdX12_in1 W1359 W1360 W103 W1361 rfl rfl (Nat.le_of_ble_eq_true rfl) ⟨by decide, by decide⟩ dX12_ship_14 ?_
    refine s_if_eq 32 E dX12_ship_17 (by decide) ?_ ?_
    · refine s_iconst (v := (-1 : Int32)) E dX12_ship_32 (by decide) ?_
      exact s_iret E rfl dX12_ship_33
    · refine s_aload_n 0 E dX12_ship_20 rfl rfl ?_
      refine s_bipush (v := (9 : Int32)) E dX12_ship_21 (by decide) ?_
      refine s_iload_n 1 E dX12_ship_23 rfl rfl ?_
      refine s_iadd E dX12_ship_24 ?_
      refine s_iload_n 2 E dX12_ship_25 rfl rfl ?_
      refine s_bd (fun z3 hz => ?_)
      refine s_cV (rest := []) E (C_r_becomes (xl x) G ((9 : Int32) + a1) a2 m hz) mdX12_becomes W1509 W1511 W56 W103 W1512 rfl rfl rfl rfl (Nat.le_of_ble_eq_true rfl) ⟨by decide, by decide⟩ dX12_ship_26 ?_
      refine s_goto 33 E dX12_ship_29 (by decide) ?_
      exact s_iret E rfl dX12_ship_33
set_option maxRecDepth 20000 in
theorem C_r_ship (l : Launch) (G : GG) (a1 : Int32) (a2 : Int32) (m : M) {z : Int32 × M} (hz : r_ship a1 a2 m = some z) : Ct l G yX12_ship cX12_ship 3 (some .int) 2 [.ref (G.2.1 76), .int a1, .int a2] m (some (.int z.1)) z.2 :=
  ct_of (K := KWi) (by decide) (Nat.le_of_ble_eq_true rfl) (congrArg (fun q => Option.bind q _) hz) (fun x hl hn E => (t_r_ship E hn a1 a2 m))
theorem dX12_bench_0 : decode cX12_bench 0 = .ok (.iload_n 1, 1) := by decide +kernel
theorem dX12_bench_1 : decode cX12_bench 1 = .ok (.invokestatic 223, 3) := by decide +kernel
theorem dX12_bench_4 : decode cX12_bench 4 = .ok (.ifCond .eq 40, 3) := by decide +kernel
theorem dX12_bench_7 : decode cX12_bench 7 = .ok (.iload_n 2, 1) := by decide +kernel
theorem dX12_bench_8 : decode cX12_bench 8 = .ok (.iconst 0, 1) := by decide +kernel
theorem dX12_bench_9 : decode cX12_bench 9 = .ok (.iconst 1, 1) := by decide +kernel
theorem dX12_bench_10 : decode cX12_bench 10 = .ok (.invokestatic 71, 3) := by decide +kernel
theorem dX12_bench_13 : decode cX12_bench 13 = .ok (.ifCond .eq 31, 3) := by decide +kernel
theorem dX12_bench_16 : decode cX12_bench 16 = .ok (.iload_n 3, 1) := by decide +kernel
theorem dX12_bench_17 : decode cX12_bench 17 = .ok (.invokestatic 220, 3) := by decide +kernel
theorem dX12_bench_20 : decode cX12_bench 20 = .ok (.ifCond .eq 24, 3) := by decide +kernel
theorem dX12_bench_23 : decode cX12_bench 23 = .ok (.aload_n 0, 1) := by decide +kernel
theorem dX12_bench_24 : decode cX12_bench 24 = .ok (.iload_n 2, 1) := by decide +kernel
theorem dX12_bench_25 : decode cX12_bench 25 = .ok (.ifCond .ne 8, 3) := by decide +kernel
theorem dX12_bench_28 : decode cX12_bench 28 = .ok (.bipush 25, 2) := by decide +kernel
theorem dX12_bench_30 : decode cX12_bench 30 = .ok (.goto 5, 3) := by decide +kernel
theorem dX12_bench_33 : decode cX12_bench 33 = .ok (.bipush 31, 2) := by decide +kernel
theorem dX12_bench_35 : decode cX12_bench 35 = .ok (.iload_n 1, 1) := by decide +kernel
theorem dX12_bench_36 : decode cX12_bench 36 = .ok (.iadd, 1) := by decide +kernel
theorem dX12_bench_37 : decode cX12_bench 37 = .ok (.iload_n 3, 1) := by decide +kernel
theorem dX12_bench_38 : decode cX12_bench 38 = .ok (.invokevirtual 229, 3) := by decide +kernel
theorem dX12_bench_41 : decode cX12_bench 41 = .ok (.goto 4, 3) := by decide +kernel
theorem dX12_bench_44 : decode cX12_bench 44 = .ok (.iconst (-1), 1) := by decide +kernel
theorem dX12_bench_45 : decode cX12_bench 45 = .ok (.ireturn, 1) := by decide +kernel
def r_bench_35 (a1 : Int32) (a3 : Int32) (s1 : Int32) (m : M) : Option (Int32 × M) :=
  Option.bind (r_becomes (s1 + a1) a3 m) (fun z1 => some (z1.1, z1.2))
set_option maxRecDepth 20000 in
theorem t_r_bench_35 {G : GG} {x : Cx} (E : En G x cX12_bench "WreckBoardModel" 3 (some .int)) (hn : xn x = 4) (a1 : Int32) (a3 : Int32) (s1 : Int32) (m : M) : Sm G x 35 [(1, .int a1), (3, .int a3)] [.int s1, .ref (G.2.1 76)] m (r_bench_35 a1 a3 s1 m) KWi := by
  unfold r_bench_35
  refine s_iload_n 0 E dX12_bench_35 rfl rfl ?_
  refine s_iadd E dX12_bench_36 ?_
  refine s_iload_n 1 E dX12_bench_37 rfl rfl ?_
  refine s_bd (fun z1 hz => ?_)
  refine s_cV (rest := []) E (C_r_becomes (xl x) G (s1 + a1) a3 m hz) mdX12_becomes W1509 W1511 W56 W103 W1512 rfl rfl rfl rfl (Nat.le_of_ble_eq_true rfl) ⟨by decide, by decide⟩ dX12_bench_38 ?_
  refine s_goto 45 E dX12_bench_41 (by decide) ?_
  exact s_iret E rfl dX12_bench_45
def r_bench (a1 : Int32) (a2 : Int32) (a3 : Int32) (m : M) : Option (Int32 × M) :=
  Option.bind (r_isBench a1 m) (fun v1 => (if v1 = 0 then some ((-1 : Int32), m) else Option.bind (r_in1 a2 (0 : Int32) (1 : Int32) m) (fun v2 => (if v2 = 0 then some ((-1 : Int32), m) else Option.bind (r_isDigit a3 m) (fun v3 => (if v3 = 0 then some ((-1 : Int32), m) else (if a2 = 0 then r_bench_35 a1 a3 (25 : Int32) m else r_bench_35 a1 a3 (31 : Int32) m)))))))
set_option maxRecDepth 20000 in
theorem t_r_bench {G : GG} {x : Cx} (E : En G x cX12_bench "WreckBoardModel" 3 (some .int)) (hn : xn x = 4) (a1 : Int32) (a2 : Int32) (a3 : Int32) (m : M) : Sm G x 0 [(0, .ref (G.2.1 76)), (1, .int a1), (2, .int a2), (3, .int a3)] [] m (r_bench a1 a2 a3 m) KWi := by
  unfold r_bench
  refine s_iload_n 1 E dX12_bench_0 rfl rfl ?_
  refine s_bd (fun v1 hz => ?_)
  refine s_cS (rest := []) E (C_r_isBench (xl x) G a1 m hz) mdX12_isBench W1430 W1431 W103 W1432 rfl rfl (Nat.le_of_ble_eq_true rfl) ⟨by decide, by decide⟩ dX12_bench_1 ?_
  refine s_if_eq 44 E dX12_bench_4 (by decide) ?_ ?_
  · refine s_iconst (v := (-1 : Int32)) E dX12_bench_44 (by decide) ?_
    exact s_iret E rfl dX12_bench_45
  · refine s_iload_n 2 E dX12_bench_7 rfl rfl ?_
    refine s_iconst (v := (0 : Int32)) E dX12_bench_8 (by decide) ?_
    refine s_iconst (v := (1 : Int32)) E dX12_bench_9 (by decide) ?_
    refine s_bd (fun v2 hz => ?_)
    refine s_cS (rest := []) E (C_r_in1 (xl x) G a2 (0 : Int32) (1 : Int32) m hz) mdX12_in1 W1359 W1360 W103 W1361 rfl rfl (Nat.le_of_ble_eq_true rfl) ⟨by decide, by decide⟩ dX12_bench_10 ?_
    refine s_if_eq 44 E dX12_bench_13 (by decide) ?_ ?_
    · refine s_iconst (v := (-1 : Int32)) E dX12_bench_44 (by decide) ?_
      exact s_iret E rfl dX12_bench_45
    · refine s_iload_n 3 E dX12_bench_16 rfl rfl ?_
      refine s_bd (fun v3 hz => ?_)
      refine s_cS (rest := []) E (C_r_isDigit (xl x) G a3 m hz) mdX12_isDigit W1427 W1428 W103 W1429 rfl rfl (Nat.le_of_ble_eq_true rfl) ⟨by decide, by decide⟩ dX12_bench_17 ?_
      refine s_if_eq 44 E dX12_bench_20 (by decide) ?_ ?_
      · refine s_iconst (v := (-1 : Int32)) E dX12_bench_44 (by decide) ?_
        exact s_iret E rfl dX12_bench_45
      · refine s_aload_n 0 E dX12_bench_23 rfl rfl ?_
        refine s_iload_n 2 E dX12_bench_24 rfl rfl ?_
        refine s_if_ne 33 E dX12_bench_25 (by decide) ?_ ?_
        · refine s_bipush (v := (31 : Int32)) E dX12_bench_33 (by decide) ?_
          refine s_sub (lv' := [(1, .int a1), (3, .int a3)]) [1, 3] rfl ?_
          exact t_r_bench_35 E hn a1 a3 (31 : Int32) m
        · refine s_bipush (v := (25 : Int32)) E dX12_bench_28 (by decide) ?_
          refine s_goto 35 E dX12_bench_30 (by decide) ?_
          refine s_sub (lv' := [(1, .int a1), (3, .int a3)]) [1, 3] rfl ?_
          exact t_r_bench_35 E hn a1 a3 (25 : Int32) m
set_option maxRecDepth 20000 in
theorem C_r_bench (l : Launch) (G : GG) (a1 : Int32) (a2 : Int32) (a3 : Int32) (m : M) {z : Int32 × M} (hz : r_bench a1 a2 a3 m = some z) : Ct l G yX12_bench cX12_bench 4 (some .int) 3 [.ref (G.2.1 76), .int a1, .int a2, .int a3] m (some (.int z.1)) z.2 :=
  ct_of (K := KWi) (by decide) (Nat.le_of_ble_eq_true rfl) (congrArg (fun q => Option.bind q _) hz) (fun x hl hn E => (t_r_bench E hn a1 a2 a3 m))
theorem dX12_benchOf_0 : decode cX12_benchOf 0 = .ok (.iload_n 1, 1) := by decide +kernel
theorem dX12_benchOf_1 : decode cX12_benchOf 1 = .ok (.invokestatic 223, 3) := by decide +kernel
theorem dX12_benchOf_4 : decode cX12_benchOf 4 = .ok (.ifCond .eq 33, 3) := by decide +kernel
theorem dX12_benchOf_7 : decode cX12_benchOf 7 = .ok (.iload_n 2, 1) := by decide +kernel
theorem dX12_benchOf_8 : decode cX12_benchOf 8 = .ok (.iconst 0, 1) := by decide +kernel
theorem dX12_benchOf_9 : decode cX12_benchOf 9 = .ok (.iconst 1, 1) := by decide +kernel
theorem dX12_benchOf_10 : decode cX12_benchOf 10 = .ok (.invokestatic 71, 3) := by decide +kernel
theorem dX12_benchOf_13 : decode cX12_benchOf 13 = .ok (.ifCond .eq 24, 3) := by decide +kernel
theorem dX12_benchOf_16 : decode cX12_benchOf 16 = .ok (.aload_n 0, 1) := by decide +kernel
theorem dX12_benchOf_17 : decode cX12_benchOf 17 = .ok (.getfield 9, 3) := by decide +kernel
theorem dX12_benchOf_20 : decode cX12_benchOf 20 = .ok (.iload_n 2, 1) := by decide +kernel
theorem dX12_benchOf_21 : decode cX12_benchOf 21 = .ok (.ifCond .ne 8, 3) := by decide +kernel
theorem dX12_benchOf_24 : decode cX12_benchOf 24 = .ok (.bipush 25, 2) := by decide +kernel
theorem dX12_benchOf_26 : decode cX12_benchOf 26 = .ok (.goto 5, 3) := by decide +kernel
theorem dX12_benchOf_29 : decode cX12_benchOf 29 = .ok (.bipush 31, 2) := by decide +kernel
theorem dX12_benchOf_31 : decode cX12_benchOf 31 = .ok (.iload_n 1, 1) := by decide +kernel
theorem dX12_benchOf_32 : decode cX12_benchOf 32 = .ok (.iadd, 1) := by decide +kernel
theorem dX12_benchOf_33 : decode cX12_benchOf 33 = .ok (.iaload, 1) := by decide +kernel
theorem dX12_benchOf_34 : decode cX12_benchOf 34 = .ok (.goto 4, 3) := by decide +kernel
theorem dX12_benchOf_37 : decode cX12_benchOf 37 = .ok (.iconst (-1), 1) := by decide +kernel
theorem dX12_benchOf_38 : decode cX12_benchOf 38 = .ok (.ireturn, 1) := by decide +kernel
def r_benchOf_31 (a1 : Int32) (s1 : Int32) (m : M) : Option (Int32) :=
  Option.bind (rdI m 77 (s1 + a1)) (fun v1 => some v1)
set_option maxRecDepth 20000 in
theorem t_r_benchOf_31 {G : GG} {x : Cx} (E : En G x cX12_benchOf "WreckBoardModel" 3 (some .int)) (hn : xn x = 3) (a1 : Int32) (s1 : Int32) (m : M) : Sm G x 31 [(1, .int a1)] [.int s1, .ref (G.2.1 77)] m (r_benchOf_31 a1 s1 m) (KRi m) := by
  unfold r_benchOf_31
  refine s_iload_n 0 E dX12_benchOf_31 rfl rfl ?_
  refine s_iadd E dX12_benchOf_32 ?_
  refine s_iald E dX12_benchOf_33 (fun v1 => ?_)
  refine s_goto 38 E dX12_benchOf_34 (by decide) ?_
  exact s_iret E rfl dX12_benchOf_38
def r_benchOf (a1 : Int32) (a2 : Int32) (m : M) : Option (Int32) :=
  Option.bind (r_isBench a1 m) (fun v1 => (if v1 = 0 then some (-1 : Int32) else Option.bind (r_in1 a2 (0 : Int32) (1 : Int32) m) (fun v2 => (if v2 = 0 then some (-1 : Int32) else (if a2 = 0 then r_benchOf_31 a1 (25 : Int32) m else r_benchOf_31 a1 (31 : Int32) m)))))
set_option maxRecDepth 20000 in
theorem t_r_benchOf {G : GG} {x : Cx} (E : En G x cX12_benchOf "WreckBoardModel" 3 (some .int)) (hn : xn x = 3) (a1 : Int32) (a2 : Int32) (m : M) : Sm G x 0 [(0, .ref (G.2.1 76)), (1, .int a1), (2, .int a2)] [] m (r_benchOf a1 a2 m) (KRi m) := by
  unfold r_benchOf
  refine s_iload_n 1 E dX12_benchOf_0 rfl rfl ?_
  refine s_bd (fun v1 hz => ?_)
  refine s_cS (rest := []) E (C_r_isBench (xl x) G a1 m hz) mdX12_isBench W1430 W1431 W103 W1432 rfl rfl (Nat.le_of_ble_eq_true rfl) ⟨by decide, by decide⟩ dX12_benchOf_1 ?_
  refine s_if_eq 37 E dX12_benchOf_4 (by decide) ?_ ?_
  · refine s_iconst (v := (-1 : Int32)) E dX12_benchOf_37 (by decide) ?_
    exact s_iret E rfl dX12_benchOf_38
  · refine s_iload_n 2 E dX12_benchOf_7 rfl rfl ?_
    refine s_iconst (v := (0 : Int32)) E dX12_benchOf_8 (by decide) ?_
    refine s_iconst (v := (1 : Int32)) E dX12_benchOf_9 (by decide) ?_
    refine s_bd (fun v2 hz => ?_)
    refine s_cS (rest := []) E (C_r_in1 (xl x) G a2 (0 : Int32) (1 : Int32) m hz) mdX12_in1 W1359 W1360 W103 W1361 rfl rfl (Nat.le_of_ble_eq_true rfl) ⟨by decide, by decide⟩ dX12_benchOf_10 ?_
    refine s_if_eq 37 E dX12_benchOf_13 (by decide) ?_ ?_
    · refine s_iconst (v := (-1 : Int32)) E dX12_benchOf_37 (by decide) ?_
      exact s_iret E rfl dX12_benchOf_38
    · refine s_aload_n 0 E dX12_benchOf_16 rfl rfl ?_
      refine s_getr (k := 0) (T := TX12) 76 E rfl rfl rfl inX12 (by decide) W1239 dX12_benchOf_17 ?_
      refine s_iload_n 2 E dX12_benchOf_20 rfl rfl ?_
      refine s_if_ne 29 E dX12_benchOf_21 (by decide) ?_ ?_
      · refine s_bipush (v := (31 : Int32)) E dX12_benchOf_29 (by decide) ?_
        refine s_sub (lv' := [(1, .int a1)]) [1] rfl ?_
        exact t_r_benchOf_31 E hn a1 (31 : Int32) m
      · refine s_bipush (v := (25 : Int32)) E dX12_benchOf_24 (by decide) ?_
        refine s_goto 31 E dX12_benchOf_26 (by decide) ?_
        refine s_sub (lv' := [(1, .int a1)]) [1] rfl ?_
        exact t_r_benchOf_31 E hn a1 (25 : Int32) m
