set_option maxRecDepth 20000 in
theorem C_r_wrecks (l : Launch) (G : GG) (a1 : Int32) (m : M) {z : Int32 × M} (hz : r_wrecks a1 m = some z) : Ct l G yX12_wrecks cX12_wrecks 4 (some .int) 10 [.ref (G.2.1 76), .int a1] m (some (.int z.1)) z.2 :=
  ct_of (K := KWi) (by decide) (Nat.le_of_ble_eq_true rfl) (congrArg (fun q => Option.bind q _) hz) (fun x hl hn E => (t_r_wrecks E hn a1 m))
theorem dX12_areClose_0 : decode cX12_areClose 0 = .ok (.aload_n 0, 1) := by decide +kernel
theorem dX12_areClose_1 : decode cX12_areClose 1 = .ok (.iload_n 1, 1) := by decide +kernel
theorem dX12_areClose_2 : decode cX12_areClose 2 = .ok (.iconst 3, 1) := by decide +kernel
theorem dX12_areClose_3 : decode cX12_areClose 3 = .ok (.invokevirtual 79, 3) := by decide +kernel
theorem dX12_areClose_6 : decode cX12_areClose 6 = .ok (.aload_n 0, 1) := by decide +kernel
theorem dX12_areClose_7 : decode cX12_areClose 7 = .ok (.iload_n 2, 1) := by decide +kernel
theorem dX12_areClose_8 : decode cX12_areClose 8 = .ok (.iconst 3, 1) := by decide +kernel
theorem dX12_areClose_9 : decode cX12_areClose 9 = .ok (.invokevirtual 79, 3) := by decide +kernel
theorem dX12_areClose_12 : decode cX12_areClose 12 = .ok (.if_icmp .eq 25, 3) := by decide +kernel
theorem dX12_areClose_15 : decode cX12_areClose 15 = .ok (.aload_n 0, 1) := by decide +kernel
theorem dX12_areClose_16 : decode cX12_areClose 16 = .ok (.iload_n 1, 1) := by decide +kernel
theorem dX12_areClose_17 : decode cX12_areClose 17 = .ok (.invokevirtual 94, 3) := by decide +kernel
theorem dX12_areClose_20 : decode cX12_areClose 20 = .ok (.aload_n 0, 1) := by decide +kernel
theorem dX12_areClose_21 : decode cX12_areClose 21 = .ok (.iload_n 2, 1) := by decide +kernel
theorem dX12_areClose_22 : decode cX12_areClose 22 = .ok (.invokevirtual 94, 3) := by decide +kernel
theorem dX12_areClose_25 : decode cX12_areClose 25 = .ok (.if_icmp .ne 16, 3) := by decide +kernel
theorem dX12_areClose_28 : decode cX12_areClose 28 = .ok (.aload_n 0, 1) := by decide +kernel
theorem dX12_areClose_29 : decode cX12_areClose 29 = .ok (.iload_n 1, 1) := by decide +kernel
theorem dX12_areClose_30 : decode cX12_areClose 30 = .ok (.invokevirtual 94, 3) := by decide +kernel
theorem dX12_areClose_33 : decode cX12_areClose 33 = .ok (.iconst 1, 1) := by decide +kernel
theorem dX12_areClose_34 : decode cX12_areClose 34 = .ok (.if_icmp .eq 7, 3) := by decide +kernel
theorem dX12_areClose_37 : decode cX12_areClose 37 = .ok (.iconst 1, 1) := by decide +kernel
theorem dX12_areClose_38 : decode cX12_areClose 38 = .ok (.goto 4, 3) := by decide +kernel
theorem dX12_areClose_41 : decode cX12_areClose 41 = .ok (.iconst 0, 1) := by decide +kernel
theorem dX12_areClose_42 : decode cX12_areClose 42 = .ok (.istore_n 3, 1) := by decide +kernel
theorem dX12_areClose_43 : decode cX12_areClose 43 = .ok (.iload_n 3, 1) := by decide +kernel
theorem dX12_areClose_44 : decode cX12_areClose 44 = .ok (.ifCond .eq 25, 3) := by decide +kernel
theorem dX12_areClose_47 : decode cX12_areClose 47 = .ok (.aload_n 0, 1) := by decide +kernel
theorem dX12_areClose_48 : decode cX12_areClose 48 = .ok (.iload_n 1, 1) := by decide +kernel
theorem dX12_areClose_49 : decode cX12_areClose 49 = .ok (.iconst 4, 1) := by decide +kernel
theorem dX12_areClose_50 : decode cX12_areClose 50 = .ok (.invokevirtual 79, 3) := by decide +kernel
theorem dX12_areClose_53 : decode cX12_areClose 53 = .ok (.ifCond .ne 16, 3) := by decide +kernel
theorem dX12_areClose_56 : decode cX12_areClose 56 = .ok (.aload_n 0, 1) := by decide +kernel
theorem dX12_areClose_57 : decode cX12_areClose 57 = .ok (.iload_n 2, 1) := by decide +kernel
theorem dX12_areClose_58 : decode cX12_areClose 58 = .ok (.iconst 4, 1) := by decide +kernel
theorem dX12_areClose_59 : decode cX12_areClose 59 = .ok (.invokevirtual 79, 3) := by decide +kernel
theorem dX12_areClose_62 : decode cX12_areClose 62 = .ok (.ifCond .ne 7, 3) := by decide +kernel
theorem dX12_areClose_65 : decode cX12_areClose 65 = .ok (.iconst 1, 1) := by decide +kernel
theorem dX12_areClose_66 : decode cX12_areClose 66 = .ok (.goto 4, 3) := by decide +kernel
theorem dX12_areClose_69 : decode cX12_areClose 69 = .ok (.iconst 0, 1) := by decide +kernel
theorem dX12_areClose_70 : decode cX12_areClose 70 = .ok (.ireturn, 1) := by decide +kernel
def r_areClose_42 (a1 : Int32) (a2 : Int32) (s0 : Int32) (m : M) : Option (Int32) :=
  (if s0 = 0 then some (0 : Int32) else Option.bind (r_get a1 (4 : Int32) m) (fun v1 => (if v1 = 0 then Option.bind (r_get a2 (4 : Int32) m) (fun v2 => (if v2 = 0 then some (1 : Int32) else some (0 : Int32))) else some (0 : Int32))))
set_option maxRecDepth 20000 in
theorem t_r_areClose_42 {G : GG} {x : Cx} (E : En G x cX12_areClose "WreckBoardModel" 4 (some .boolean)) (hn : xn x = 4) (a1 : Int32) (a2 : Int32) (s0 : Int32) (m : M) : Sm G x 42 [(0, .ref (G.2.1 76)), (1, .int a1), (2, .int a2)] [.int s0] m (r_areClose_42 a1 a2 s0 m) (KRi m) := by
  unfold r_areClose_42
  refine s_istore_n (lv' := [(0, .ref (G.2.1 76)), (1, .int a1), (2, .int a2), (3, .int s0)]) [1, 2, 3, 0] E dX12_areClose_42 rfl (by rw [hn]; decide) rfl ?_
  refine s_iload_n 3 E dX12_areClose_43 rfl rfl ?_
  refine s_if_eq 69 E dX12_areClose_44 (by decide) ?_ ?_
  · refine s_iconst (v := (0 : Int32)) E dX12_areClose_69 (by decide) ?_
    exact s_zret E (by decide) rfl dX12_areClose_70
  · refine s_aload_n 0 E dX12_areClose_47 rfl rfl ?_
    refine s_iload_n 1 E dX12_areClose_48 rfl rfl ?_
    refine s_iconst (v := (4 : Int32)) E dX12_areClose_49 (by decide) ?_
    refine s_bd (fun v1 hz => ?_)
    refine s_cV (rest := []) E (C_r_get (xl x) G a1 (4 : Int32) m hz) mdX12_get W1453 W1455 W46 W103 W1456 rfl rfl rfl rfl (Nat.le_of_ble_eq_true rfl) ⟨by decide, by decide⟩ dX12_areClose_50 ?_
    refine s_if_ne 69 E dX12_areClose_53 (by decide) ?_ ?_
    · refine s_iconst (v := (0 : Int32)) E dX12_areClose_69 (by decide) ?_
      exact s_zret E (by decide) rfl dX12_areClose_70
    · refine s_aload_n 0 E dX12_areClose_56 rfl rfl ?_
      refine s_iload_n 2 E dX12_areClose_57 rfl rfl ?_
      refine s_iconst (v := (4 : Int32)) E dX12_areClose_58 (by decide) ?_
      refine s_bd (fun v2 hz => ?_)
      refine s_cV (rest := []) E (C_r_get (xl x) G a2 (4 : Int32) m hz) mdX12_get W1453 W1455 W46 W103 W1456 rfl rfl rfl rfl (Nat.le_of_ble_eq_true rfl) ⟨by decide, by decide⟩ dX12_areClose_59 ?_
      refine s_if_ne 69 E dX12_areClose_62 (by decide) ?_ ?_
      · refine s_iconst (v := (0 : Int32)) E dX12_areClose_69 (by decide) ?_
        exact s_zret E (by decide) rfl dX12_areClose_70
      · refine s_iconst (v := (1 : Int32)) E dX12_areClose_65 (by decide) ?_
        refine s_goto 70 E dX12_areClose_66 (by decide) ?_
        exact s_zret E (by decide) rfl dX12_areClose_70
def r_areClose_37 (a1 : Int32) (a2 : Int32) (m : M) : Option (Int32) :=
  r_areClose_42 a1 a2 (1 : Int32) m
set_option maxRecDepth 20000 in
theorem t_r_areClose_37 {G : GG} {x : Cx} (E : En G x cX12_areClose "WreckBoardModel" 4 (some .boolean)) (hn : xn x = 4) (a1 : Int32) (a2 : Int32) (m : M) : Sm G x 37 [(0, .ref (G.2.1 76)), (1, .int a1), (2, .int a2)] [] m (r_areClose_37 a1 a2 m) (KRi m) := by
  unfold r_areClose_37
  refine s_iconst (v := (1 : Int32)) E dX12_areClose_37 (by decide) ?_
  refine s_goto 42 E dX12_areClose_38 (by decide) ?_
  exact t_r_areClose_42 E hn a1 a2 (1 : Int32) m
def r_areClose_41 (a1 : Int32) (a2 : Int32) (m : M) : Option (Int32) :=
  r_areClose_42 a1 a2 (0 : Int32) m
set_option maxRecDepth 20000 in
theorem t_r_areClose_41 {G : GG} {x : Cx} (E : En G x cX12_areClose "WreckBoardModel" 4 (some .boolean)) (hn : xn x = 4) (a1 : Int32) (a2 : Int32) (m : M) : Sm G x 41 [(0, .ref (G.2.1 76)), (1, .int a1), (2, .int a2)] [] m (r_areClose_41 a1 a2 m) (KRi m) := by
  unfold r_areClose_41
  refine s_iconst (v := (0 : Int32)) E dX12_areClose_41 (by decide) ?_
  exact t_r_areClose_42 E hn a1 a2 (0 : Int32) m
def r_areClose (a1 : Int32) (a2 : Int32) (m : M) : Option (Int32) :=
  Option.bind (r_get a1 (3 : Int32) m) (fun v1 => Option.bind (r_get a2 (3 : Int32) m) (fun v2 => (if v1 = v2 then r_areClose_37 a1 a2 m else Option.bind (r_sideOf a1 m) (fun v3 => Option.bind (r_sideOf a2 m) (fun v4 => (if v3 = v4 then Option.bind (r_sideOf a1 m) (fun v5 => (if v5 = (1 : Int32) then r_areClose_41 a1 a2 m else r_areClose_37 a1 a2 m)) else r_areClose_41 a1 a2 m))))))
set_option maxRecDepth 20000 in
theorem t_r_areClose {G : GG} {x : Cx} (E : En G x cX12_areClose "WreckBoardModel" 4 (some .boolean)) (hn : xn x = 4) (a1 : Int32) (a2 : Int32) (m : M) : Sm G x 0 [(0, .ref (G.2.1 76)), (1, .int a1), (2, .int a2)] [] m (r_areClose a1 a2 m) (KRi m) := by
  unfold r_areClose
  refine s_aload_n 0 E dX12_areClose_0 rfl rfl ?_
  refine s_iload_n 1 E dX12_areClose_1 rfl rfl ?_
  refine s_iconst (v := (3 : Int32)) E dX12_areClose_2 (by decide) ?_
  refine s_bd (fun v1 hz => ?_)
  refine s_cV (rest := []) E (C_r_get (xl x) G a1 (3 : Int32) m hz) mdX12_get W1453 W1455 W46 W103 W1456 rfl rfl rfl rfl (Nat.le_of_ble_eq_true rfl) ⟨by decide, by decide⟩ dX12_areClose_3 ?_
  refine s_aload_n 0 E dX12_areClose_6 rfl rfl ?_
  refine s_iload_n 2 E dX12_areClose_7 rfl rfl ?_
  refine s_iconst (v := (3 : Int32)) E dX12_areClose_8 (by decide) ?_
  refine s_bd (fun v2 hz => ?_)
  refine s_cV (rest := [.int v1]) E (C_r_get (xl x) G a2 (3 : Int32) m hz) mdX12_get W1453 W1455 W46 W103 W1456 rfl rfl rfl rfl (Nat.le_of_ble_eq_true rfl) ⟨by decide, by decide⟩ dX12_areClose_9 ?_
  refine s_icmp_eq 37 E dX12_areClose_12 (by decide) ?_ ?_
  · exact t_r_areClose_37 E hn a1 a2 m
  · refine s_aload_n 0 E dX12_areClose_15 rfl rfl ?_
    refine s_iload_n 1 E dX12_areClose_16 rfl rfl ?_
    refine s_bd (fun v3 hz => ?_)
    refine s_cV (rest := []) E (C_r_sideOf (xl x) G a1 m hz) mdX12_sideOf W1445 W1447 W44 W103 W1448 rfl rfl rfl rfl (Nat.le_of_ble_eq_true rfl) ⟨by decide, by decide⟩ dX12_areClose_17 ?_
    refine s_aload_n 0 E dX12_areClose_20 rfl rfl ?_
    refine s_iload_n 2 E dX12_areClose_21 rfl rfl ?_
    refine s_bd (fun v4 hz => ?_)
    refine s_cV (rest := [.int v3]) E (C_r_sideOf (xl x) G a2 m hz) mdX12_sideOf W1445 W1447 W44 W103 W1448 rfl rfl rfl rfl (Nat.le_of_ble_eq_true rfl) ⟨by decide, by decide⟩ dX12_areClose_22 ?_
    refine s_icmp_ne 41 E dX12_areClose_25 (by decide) ?_ ?_
    · exact t_r_areClose_41 E hn a1 a2 m
    · refine s_aload_n 0 E dX12_areClose_28 rfl rfl ?_
      refine s_iload_n 1 E dX12_areClose_29 rfl rfl ?_
      refine s_bd (fun v5 hz => ?_)
      refine s_cV (rest := []) E (C_r_sideOf (xl x) G a1 m hz) mdX12_sideOf W1445 W1447 W44 W103 W1448 rfl rfl rfl rfl (Nat.le_of_ble_eq_true rfl) ⟨by decide, by decide⟩ dX12_areClose_30 ?_
      refine s_iconst (v := (1 : Int32)) E dX12_areClose_33 (by decide) ?_
      refine s_icmp_eq 41 E dX12_areClose_34 (by decide) ?_ ?_
      · exact t_r_areClose_41 E hn a1 a2 m
      · exact t_r_areClose_37 E hn a1 a2 m
set_option maxRecDepth 20000 in
theorem C_r_areClose (l : Launch) (G : GG) (a1 : Int32) (a2 : Int32) (m : M) {z : Int32} (hz : r_areClose a1 a2 m = some z) : Ct l G yX12_areClose cX12_areClose 4 (some .boolean) 4 [.ref (G.2.1 76), .int a1, .int a2] m (some (.int z)) m :=
  ct_of (K := (KRi m)) (by decide) (Nat.le_of_ble_eq_true rfl) (congrArg (fun q => Option.bind q _) hz) (fun x hl hn E => (t_r_areClose E hn a1 a2 m))
theorem mdX12_areClose : mdq yX12_areClose 2 := ⟨by decide, by decide, by decide +kernel⟩
theorem dX12_partyOf_0 : decode cX12_partyOf 0 = .ok (.iconst 1, 1) := by decide +kernel
theorem dX12_partyOf_1 : decode cX12_partyOf 1 = .ok (.iload_n 1, 1) := by decide +kernel
theorem dX12_partyOf_2 : decode cX12_partyOf 2 = .ok (.ishl, 1) := by decide +kernel
theorem dX12_partyOf_3 : decode cX12_partyOf 3 = .ok (.istore_n 2, 1) := by decide +kernel
theorem dX12_partyOf_4 : decode cX12_partyOf 4 = .ok (.iconst 0, 1) := by decide +kernel
theorem dX12_partyOf_5 : decode cX12_partyOf 5 = .ok (.istore_n 3, 1) := by decide +kernel
theorem dX12_partyOf_6 : decode cX12_partyOf 6 = .ok (.iload_n 3, 1) := by decide +kernel
theorem dX12_partyOf_7 : decode cX12_partyOf 7 = .ok (.aload_n 0, 1) := by decide +kernel
theorem dX12_partyOf_8 : decode cX12_partyOf 8 = .ok (.getfield 9, 3) := by decide +kernel
theorem dX12_partyOf_11 : decode cX12_partyOf 11 = .ok (.bipush 6, 2) := by decide +kernel
theorem dX12_partyOf_13 : decode cX12_partyOf 13 = .ok (.iaload, 1) := by decide +kernel
theorem dX12_partyOf_14 : decode cX12_partyOf 14 = .ok (.if_icmp .ge 83, 3) := by decide +kernel
theorem dX12_partyOf_17 : decode cX12_partyOf 17 = .ok (.iconst 0, 1) := by decide +kernel
theorem dX12_partyOf_18 : decode cX12_partyOf 18 = .ok (.istore 4, 2) := by decide +kernel
theorem dX12_partyOf_20 : decode cX12_partyOf 20 = .ok (.iload 4, 2) := by decide +kernel
theorem dX12_partyOf_22 : decode cX12_partyOf 22 = .ok (.aload_n 0, 1) := by decide +kernel
theorem dX12_partyOf_23 : decode cX12_partyOf 23 = .ok (.getfield 9, 3) := by decide +kernel
theorem dX12_partyOf_26 : decode cX12_partyOf 26 = .ok (.bipush 6, 2) := by decide +kernel
theorem dX12_partyOf_28 : decode cX12_partyOf 28 = .ok (.iaload, 1) := by decide +kernel
theorem dX12_partyOf_29 : decode cX12_partyOf 29 = .ok (.if_icmp .ge 62, 3) := by decide +kernel
theorem dX12_partyOf_32 : decode cX12_partyOf 32 = .ok (.iconst 0, 1) := by decide +kernel
theorem dX12_partyOf_33 : decode cX12_partyOf 33 = .ok (.istore 5, 2) := by decide +kernel
theorem dX12_partyOf_35 : decode cX12_partyOf 35 = .ok (.iload 5, 2) := by decide +kernel
theorem dX12_partyOf_37 : decode cX12_partyOf 37 = .ok (.aload_n 0, 1) := by decide +kernel
theorem dX12_partyOf_38 : decode cX12_partyOf 38 = .ok (.getfield 9, 3) := by decide +kernel
theorem dX12_partyOf_41 : decode cX12_partyOf 41 = .ok (.bipush 6, 2) := by decide +kernel
theorem dX12_partyOf_43 : decode cX12_partyOf 43 = .ok (.iaload, 1) := by decide +kernel
theorem dX12_partyOf_44 : decode cX12_partyOf 44 = .ok (.if_icmp .ge 41, 3) := by decide +kernel
theorem dX12_partyOf_47 : decode cX12_partyOf 47 = .ok (.iload_n 2, 1) := by decide +kernel
theorem dX12_partyOf_48 : decode cX12_partyOf 48 = .ok (.iload_n 2, 1) := by decide +kernel
theorem dX12_partyOf_49 : decode cX12_partyOf 49 = .ok (.iload 4, 2) := by decide +kernel
theorem dX12_partyOf_51 : decode cX12_partyOf 51 = .ok (.ishr, 1) := by decide +kernel
theorem dX12_partyOf_52 : decode cX12_partyOf 52 = .ok (.iconst 1, 1) := by decide +kernel
theorem dX12_partyOf_53 : decode cX12_partyOf 53 = .ok (.iand, 1) := by decide +kernel
theorem dX12_partyOf_54 : decode cX12_partyOf 54 = .ok (.iconst 1, 1) := by decide +kernel
theorem dX12_partyOf_55 : decode cX12_partyOf 55 = .ok (.if_icmp .ne 21, 3) := by decide +kernel
theorem dX12_partyOf_58 : decode cX12_partyOf 58 = .ok (.aload_n 0, 1) := by decide +kernel
theorem dX12_partyOf_59 : decode cX12_partyOf 59 = .ok (.iload 4, 2) := by decide +kernel
theorem dX12_partyOf_61 : decode cX12_partyOf 61 = .ok (.iload 5, 2) := by decide +kernel
theorem dX12_partyOf_63 : decode cX12_partyOf 63 = .ok (.invokevirtual 253, 3) := by decide +kernel
theorem dX12_partyOf_66 : decode cX12_partyOf 66 = .ok (.ifCond .eq 10, 3) := by decide +kernel
theorem dX12_partyOf_69 : decode cX12_partyOf 69 = .ok (.iconst 1, 1) := by decide +kernel
theorem dX12_partyOf_70 : decode cX12_partyOf 70 = .ok (.iload 5, 2) := by decide +kernel
theorem dX12_partyOf_72 : decode cX12_partyOf 72 = .ok (.ishl, 1) := by decide +kernel
theorem dX12_partyOf_73 : decode cX12_partyOf 73 = .ok (.goto 4, 3) := by decide +kernel
theorem dX12_partyOf_76 : decode cX12_partyOf 76 = .ok (.iconst 0, 1) := by decide +kernel
theorem dX12_partyOf_77 : decode cX12_partyOf 77 = .ok (.ior, 1) := by decide +kernel
theorem dX12_partyOf_78 : decode cX12_partyOf 78 = .ok (.istore_n 2, 1) := by decide +kernel
theorem dX12_partyOf_79 : decode cX12_partyOf 79 = .ok (.iinc 5 1, 3) := by decide +kernel
theorem dX12_partyOf_82 : decode cX12_partyOf 82 = .ok (.goto (-47), 3) := by decide +kernel
theorem dX12_partyOf_85 : decode cX12_partyOf 85 = .ok (.iinc 4 1, 3) := by decide +kernel
theorem dX12_partyOf_88 : decode cX12_partyOf 88 = .ok (.goto (-68), 3) := by decide +kernel
theorem dX12_partyOf_91 : decode cX12_partyOf 91 = .ok (.iinc 3 1, 3) := by decide +kernel
theorem dX12_partyOf_94 : decode cX12_partyOf 94 = .ok (.goto (-88), 3) := by decide +kernel
theorem dX12_partyOf_97 : decode cX12_partyOf 97 = .ok (.aload_n 0, 1) := by decide +kernel
theorem dX12_partyOf_98 : decode cX12_partyOf 98 = .ok (.iload_n 1, 1) := by decide +kernel
theorem dX12_partyOf_99 : decode cX12_partyOf 99 = .ok (.iconst 4, 1) := by decide +kernel
theorem dX12_partyOf_100 : decode cX12_partyOf 100 = .ok (.invokevirtual 79, 3) := by decide +kernel
theorem dX12_partyOf_103 : decode cX12_partyOf 103 = .ok (.iconst 1, 1) := by decide +kernel
theorem dX12_partyOf_104 : decode cX12_partyOf 104 = .ok (.if_icmp .ne 7, 3) := by decide +kernel
theorem dX12_partyOf_107 : decode cX12_partyOf 107 = .ok (.iconst 0, 1) := by decide +kernel
theorem dX12_partyOf_108 : decode cX12_partyOf 108 = .ok (.goto 4, 3) := by decide +kernel
theorem dX12_partyOf_111 : decode cX12_partyOf 111 = .ok (.iload_n 2, 1) := by decide +kernel
theorem dX12_partyOf_112 : decode cX12_partyOf 112 = .ok (.ireturn, 1) := by decide +kernel
def r_partyOf_77 (a1 : Int32) (a3 : Int32) (a4 : Int32) (a5 : Int32) (s0 : Int32) (s1 : Int32) (m : M) : Option ((Int32 × Int32) ⊕ ((Int32))) :=
  lt (s0 ||| s1) (fun w1 : Int32 => lt (a5 + (1 : Int32)) (fun w2 : Int32 => some (.inl (w1, w2))))
set_option maxRecDepth 20000 in
theorem t_r_partyOf_77 {G : GG} {x : Cx} {K : ((Int32 × Int32) ⊕ ((Int32))) → Option (Option Value × M)} (E : En G x cX12_partyOf "WreckBoardModel" 5 (some .int)) (hn : xn x = 6) (a1 : Int32) (a3 : Int32) (a4 : Int32) (a5 : Int32) (s0 : Int32) (s1 : Int32) (m : M) (hb : ∀ z : Int32 × Int32, Sm G x 35 [(0, .ref (G.2.1 76)), (1, .int a1), (2, .int z.1), (3, .int a3), (4, .int a4), (5, .int z.2)] [] m (some (.inl z)) K) (hx0 : ∀ z : Int32, Sm G x 85 [(0, .ref (G.2.1 76)), (1, .int a1), (2, .int z), (3, .int a3), (4, .int a4)] [] m (some (.inr z)) K) : Sm G x 77 [(0, .ref (G.2.1 76)), (1, .int a1), (3, .int a3), (4, .int a4), (5, .int a5)] [.int s1, .int s0] m (r_partyOf_77 a1 a3 a4 a5 s0 s1 m) K := by
  unfold r_partyOf_77
  refine s_ior E dX12_partyOf_77 ?_
  refine s_lt (fun w1 => [(0, .ref (G.2.1 76)), (1, .int a1), (3, .int a3), (4, .int a4), (5, .int a5)]) (fun w1 => [.int w1]) rfl rfl (fun w1 => ?_)
  refine s_istore_n (lv' := [(0, .ref (G.2.1 76)), (1, .int a1), (2, .int w1), (3, .int a3), (4, .int a4), (5, .int a5)]) [1, 2, 0, 3, 4, 5] E dX12_partyOf_78 rfl (by rw [hn]; decide) rfl ?_
  refine s_iincL (v := (1 : Int32)) 5 [1, 2, 3, 4, 5, 0] (fun w2 => [(0, .ref (G.2.1 76)), (1, .int a1), (2, .int w1), (3, .int a3), (4, .int a4), (5, .int w2)]) E dX12_partyOf_79 rfl (by decide) (by rw [hn]; decide) (fun _ => rfl) (fun w2 => ?_)
  refine s_goto 35 E dX12_partyOf_82 (by decide) ?_
  exact hb (w1, w2)
def r_partyOf_76 (a1 : Int32) (a3 : Int32) (a4 : Int32) (a5 : Int32) (s0 : Int32) (m : M) : Option ((Int32 × Int32) ⊕ ((Int32))) :=
  r_partyOf_77 a1 a3 a4 a5 s0 (0 : Int32) m
set_option maxRecDepth 20000 in
theorem t_r_partyOf_76 {G : GG} {x : Cx} {K : ((Int32 × Int32) ⊕ ((Int32))) → Option (Option Value × M)} (E : En G x cX12_partyOf "WreckBoardModel" 5 (some .int)) (hn : xn x = 6) (a1 : Int32) (a3 : Int32) (a4 : Int32) (a5 : Int32) (s0 : Int32) (m : M) (hb : ∀ z : Int32 × Int32, Sm G x 35 [(0, .ref (G.2.1 76)), (1, .int a1), (2, .int z.1), (3, .int a3), (4, .int a4), (5, .int z.2)] [] m (some (.inl z)) K) (hx0 : ∀ z : Int32, Sm G x 85 [(0, .ref (G.2.1 76)), (1, .int a1), (2, .int z), (3, .int a3), (4, .int a4)] [] m (some (.inr z)) K) : Sm G x 76 [(0, .ref (G.2.1 76)), (1, .int a1), (3, .int a3), (4, .int a4), (5, .int a5)] [.int s0] m (r_partyOf_76 a1 a3 a4 a5 s0 m) K := by
  unfold r_partyOf_76
  refine s_iconst (v := (0 : Int32)) E dX12_partyOf_76 (by decide) ?_
  exact t_r_partyOf_77 E hn a1 a3 a4 a5 s0 (0 : Int32) m hb hx0
def r_partyOf_35b (a1 : Int32) (a2 : Int32) (a3 : Int32) (a4 : Int32) (a5 : Int32) (m : M) : Option ((Int32 × Int32) ⊕ ((Int32))) :=
  Option.bind (rdI m 77 (6 : Int32)) (fun v1 => (if v1 ≤ a5 then some (.inr a2) else (if ((a2 >>> (a4 &&& 31)) &&& (1 : Int32)) = (1 : Int32) then Option.bind (r_areClose a4 a5 m) (fun v2 => (if v2 = 0 then r_partyOf_76 a1 a3 a4 a5 a2 m else r_partyOf_77 a1 a3 a4 a5 a2 ((1 : Int32) <<< (a5 &&& 31)) m)) else r_partyOf_76 a1 a3 a4 a5 a2 m)))
set_option maxRecDepth 20000 in
theorem t_r_partyOf_35b {G : GG} {x : Cx} {K : ((Int32 × Int32) ⊕ ((Int32))) → Option (Option Value × M)} (E : En G x cX12_partyOf "WreckBoardModel" 5 (some .int)) (hn : xn x = 6) (a1 : Int32) (a2 : Int32) (a3 : Int32) (a4 : Int32) (a5 : Int32) (m : M) (hb : ∀ z : Int32 × Int32, Sm G x 35 [(0, .ref (G.2.1 76)), (1, .int a1), (2, .int z.1), (3, .int a3), (4, .int a4), (5, .int z.2)] [] m (some (.inl z)) K) (hx0 : ∀ z : Int32, Sm G x 85 [(0, .ref (G.2.1 76)), (1, .int a1), (2, .int z), (3, .int a3), (4, .int a4)] [] m (some (.inr z)) K) : Sm G x 35 [(0, .ref (G.2.1 76)), (1, .int a1), (2, .int a2), (3, .int a3), (4, .int a4), (5, .int a5)] [] m (r_partyOf_35b a1 a2 a3 a4 a5 m) K := by
  unfold r_partyOf_35b
  refine s_iload 5 E dX12_partyOf_35 rfl ?_
  refine s_aload_n 0 E dX12_partyOf_37 rfl rfl ?_
  refine s_getr (k := 0) (T := TX12) 76 E rfl rfl rfl inX12 (by decide) W1239 dX12_partyOf_38 ?_
  refine s_bipush (v := (6 : Int32)) E dX12_partyOf_41 (by decide) ?_
  refine s_iald E dX12_partyOf_43 (fun v1 => ?_)
  refine s_icmp_ge 85 E dX12_partyOf_44 (by decide) ?_ ?_
  · refine s_sub (lv' := [(0, .ref (G.2.1 76)), (1, .int a1), (2, .int a2), (3, .int a3), (4, .int a4)]) [0, 1, 2, 3, 4] rfl ?_
    exact hx0 a2
  · refine s_iload_n 2 E dX12_partyOf_47 rfl rfl ?_
    refine s_iload_n 2 E dX12_partyOf_48 rfl rfl ?_
    refine s_iload 4 E dX12_partyOf_49 rfl ?_
    refine s_ishr E dX12_partyOf_51 ?_
    refine s_iconst (v := (1 : Int32)) E dX12_partyOf_52 (by decide) ?_
    refine s_iand E dX12_partyOf_53 ?_
    refine s_iconst (v := (1 : Int32)) E dX12_partyOf_54 (by decide) ?_
    refine s_icmp_ne 76 E dX12_partyOf_55 (by decide) ?_ ?_
    · refine s_sub (lv' := [(0, .ref (G.2.1 76)), (1, .int a1), (3, .int a3), (4, .int a4), (5, .int a5)]) [0, 1, 3, 4, 5] rfl ?_
      exact t_r_partyOf_76 E hn a1 a3 a4 a5 a2 m hb hx0
    · refine s_aload_n 0 E dX12_partyOf_58 rfl rfl ?_
      refine s_iload 4 E dX12_partyOf_59 rfl ?_
      refine s_iload 5 E dX12_partyOf_61 rfl ?_
      refine s_bd (fun v2 hz => ?_)
      refine s_cV (rest := [.int a2]) E (C_r_areClose (xl x) G a4 a5 m hz) mdX12_areClose W1626 W1628 W67 W103 W1629 rfl rfl rfl rfl (Nat.le_of_ble_eq_true rfl) ⟨by decide, by decide⟩ dX12_partyOf_63 ?_
      refine s_if_eq 76 E dX12_partyOf_66 (by decide) ?_ ?_
      · refine s_sub (lv' := [(0, .ref (G.2.1 76)), (1, .int a1), (3, .int a3), (4, .int a4), (5, .int a5)]) [0, 1, 3, 4, 5] rfl ?_
        exact t_r_partyOf_76 E hn a1 a3 a4 a5 a2 m hb hx0
      · refine s_iconst (v := (1 : Int32)) E dX12_partyOf_69 (by decide) ?_
        refine s_iload 5 E dX12_partyOf_70 rfl ?_
        refine s_ishl E dX12_partyOf_72 ?_
        refine s_goto 77 E dX12_partyOf_73 (by decide) ?_
        refine s_sub (lv' := [(0, .ref (G.2.1 76)), (1, .int a1), (3, .int a3), (4, .int a4), (5, .int a5)]) [0, 1, 3, 4, 5] rfl ?_
        exact t_r_partyOf_77 E hn a1 a3 a4 a5 a2 ((1 : Int32) <<< (a5 &&& 31)) m hb hx0
def r_partyOf_35 (a1 : Int32) (a2 : Int32) (a3 : Int32) (a4 : Int32) (a5 : Int32) (m : M) : Option ((Int32 × Int32) ⊕ ((Int32))) :=
  Option.bind (iter (fun z => r_partyOf_35b a1 z.1 a3 a4 z.2 m) FU (a2, a5)) (fun r => lt (a4 + (1 : Int32)) (fun w3 : Int32 => some (.inl (r, w3))))
set_option maxRecDepth 20000 in
theorem t_r_partyOf_35 {G : GG} {x : Cx} {K : ((Int32 × Int32) ⊕ ((Int32))) → Option (Option Value × M)} (E : En G x cX12_partyOf "WreckBoardModel" 5 (some .int)) (hn : xn x = 6) (a1 : Int32) (a2 : Int32) (a3 : Int32) (a4 : Int32) (a5 : Int32) (m : M) (hb : ∀ z : Int32 × Int32, Sm G x 20 [(0, .ref (G.2.1 76)), (1, .int a1), (2, .int z.1), (3, .int a3), (4, .int z.2)] [] m (some (.inl z)) K) (hx0 : ∀ z : Int32, Sm G x 91 [(0, .ref (G.2.1 76)), (1, .int a1), (2, .int z), (3, .int a3)] [] m (some (.inr z)) K) : Sm G x 35 [(0, .ref (G.2.1 76)), (1, .int a1), (2, .int a2), (3, .int a3), (4, .int a4), (5, .int a5)] [] m (r_partyOf_35 a1 a2 a3 a4 a5 m) K := by
  unfold r_partyOf_35
  refine s_loop (fun z => [(0, .ref (G.2.1 76)), (1, .int a1), (2, .int z.1), (3, .int a3), (4, .int a4), (5, .int z.2)]) (fun z => m) (fun K2 hb2 hr2 z => ?_) FU (a2, a5)
  refine t_r_partyOf_35b (K := K2) E hn a1 z.1 a3 a4 z.2 m hb2 (fun r => s_out (hr2 r) ?_)
  · refine s_iincL (v := (1 : Int32)) 4 [1, 2, 3, 4, 0] (fun w3 => [(0, .ref (G.2.1 76)), (1, .int a1), (2, .int r), (3, .int a3), (4, .int w3)]) E dX12_partyOf_85 rfl (by decide) (by rw [hn]; decide) (fun _ => rfl) (fun w3 => ?_)
    refine s_goto 20 E dX12_partyOf_88 (by decide) ?_
    exact hb (r, w3)
def r_partyOf_20b (a1 : Int32) (a2 : Int32) (a3 : Int32) (a4 : Int32) (m : M) : Option ((Int32 × Int32) ⊕ ((Int32))) :=
  Option.bind (rdI m 77 (6 : Int32)) (fun v1 => (if v1 ≤ a4 then some (.inr a2) else r_partyOf_35 a1 a2 a3 a4 (0 : Int32) m))
set_option maxRecDepth 20000 in
theorem t_r_partyOf_20b {G : GG} {x : Cx} {K : ((Int32 × Int32) ⊕ ((Int32))) → Option (Option Value × M)} (E : En G x cX12_partyOf "WreckBoardModel" 5 (some .int)) (hn : xn x = 6) (a1 : Int32) (a2 : Int32) (a3 : Int32) (a4 : Int32) (m : M) (hb : ∀ z : Int32 × Int32, Sm G x 20 [(0, .ref (G.2.1 76)), (1, .int a1), (2, .int z.1), (3, .int a3), (4, .int z.2)] [] m (some (.inl z)) K) (hx0 : ∀ z : Int32, Sm G x 91 [(0, .ref (G.2.1 76)), (1, .int a1), (2, .int z), (3, .int a3)] [] m (some (.inr z)) K) : Sm G x 20 [(0, .ref (G.2.1 76)), (1, .int a1), (2, .int a2), (3, .int a3), (4, .int a4)] [] m (r_partyOf_20b a1 a2 a3 a4 m) K := by
  unfold r_partyOf_20b
  refine s_iload 4 E dX12_partyOf_20 rfl ?_
  refine s_aload_n 0 E dX12_partyOf_22 rfl rfl ?_
  refine s_getr (k := 0) (T := TX12) 76 E rfl rfl rfl inX12 (by decide) W1239 dX12_partyOf_23 ?_
  refine s_bipush (v := (6 : Int32)) E dX12_partyOf_26 (by decide) ?_
  refine s_iald E dX12_partyOf_28 (fun v1 => ?_)
  refine s_icmp_ge 91 E dX12_partyOf_29 (by decide) ?_ ?_
  · refine s_sub (lv' := [(0, .ref (G.2.1 76)), (1, .int a1), (2, .int a2), (3, .int a3)]) [0, 1, 2, 3] rfl ?_
    exact hx0 a2
  · refine s_iconst (v := (0 : Int32)) E dX12_partyOf_32 (by decide) ?_
    refine s_istore (lv' := [(0, .ref (G.2.1 76)), (1, .int a1), (2, .int a2), (3, .int a3), (4, .int a4), (5, .int (0 : Int32))]) [1, 2, 3, 4, 5, 0] E dX12_partyOf_33 (by rw [hn]; decide) rfl ?_
    exact t_r_partyOf_35 E hn a1 a2 a3 a4 (0 : Int32) m hb hx0
def r_partyOf_20 (a1 : Int32) (a2 : Int32) (a3 : Int32) (a4 : Int32) (m : M) : Option ((Int32 × Int32) ⊕ ((Int32))) :=
  Option.bind (iter (fun z => r_partyOf_20b a1 z.1 a3 z.2 m) FU (a2, a4)) (fun r => lt (a3 + (1 : Int32)) (fun w2 : Int32 => some (.inl (r, w2))))
set_option maxRecDepth 20000 in
theorem t_r_partyOf_20 {G : GG} {x : Cx} {K : ((Int32 × Int32) ⊕ ((Int32))) → Option (Option Value × M)} (E : En G x cX12_partyOf "WreckBoardModel" 5 (some .int)) (hn : xn x = 6) (a1 : Int32) (a2 : Int32) (a3 : Int32) (a4 : Int32) (m : M) (hb : ∀ z : Int32 × Int32, Sm G x 6 [(0, .ref (G.2.1 76)), (1, .int a1), (2, .int z.1), (3, .int z.2)] [] m (some (.inl z)) K) (hx0 : ∀ z : Int32, Sm G x 97 [(0, .ref (G.2.1 76)), (1, .int a1), (2, .int z)] [] m (some (.inr z)) K) : Sm G x 20 [(0, .ref (G.2.1 76)), (1, .int a1), (2, .int a2), (3, .int a3), (4, .int a4)] [] m (r_partyOf_20 a1 a2 a3 a4 m) K := by
  unfold r_partyOf_20
  refine s_loop (fun z => [(0, .ref (G.2.1 76)), (1, .int a1), (2, .int z.1), (3, .int a3), (4, .int z.2)]) (fun z => m) (fun K2 hb2 hr2 z => ?_) FU (a2, a4)
  refine t_r_partyOf_20b (K := K2) E hn a1 z.1 a3 z.2 m hb2 (fun r => s_out (hr2 r) ?_)
  · refine s_iincL (v := (1 : Int32)) 3 [1, 2, 3, 0] (fun w2 => [(0, .ref (G.2.1 76)), (1, .int a1), (2, .int r), (3, .int w2)]) E dX12_partyOf_91 rfl (by decide) (by rw [hn]; decide) (fun _ => rfl) (fun w2 => ?_)
    refine s_goto 6 E dX12_partyOf_94 (by decide) ?_
    exact hb (r, w2)
def r_partyOf_6b (a1 : Int32) (a2 : Int32) (a3 : Int32) (m : M) : Option ((Int32 × Int32) ⊕ ((Int32))) :=
  Option.bind (rdI m 77 (6 : Int32)) (fun v1 => (if v1 ≤ a3 then some (.inr a2) else r_partyOf_20 a1 a2 a3 (0 : Int32) m))
set_option maxRecDepth 20000 in
theorem t_r_partyOf_6b {G : GG} {x : Cx} {K : ((Int32 × Int32) ⊕ ((Int32))) → Option (Option Value × M)} (E : En G x cX12_partyOf "WreckBoardModel" 5 (some .int)) (hn : xn x = 6) (a1 : Int32) (a2 : Int32) (a3 : Int32) (m : M) (hb : ∀ z : Int32 × Int32, Sm G x 6 [(0, .ref (G.2.1 76)), (1, .int a1), (2, .int z.1), (3, .int z.2)] [] m (some (.inl z)) K) (hx0 : ∀ z : Int32, Sm G x 97 [(0, .ref (G.2.1 76)), (1, .int a1), (2, .int z)] [] m (some (.inr z)) K) : Sm G x 6 [(0, .ref (G.2.1 76)), (1, .int a1), (2, .int a2), (3, .int a3)] [] m (r_partyOf_6b a1 a2 a3 m) K := by
  unfold r_partyOf_6b
  refine s_iload_n 3 E dX12_partyOf_6 rfl rfl ?_
  refine s_aload_n 0 E dX12_partyOf_7 rfl rfl ?_
  refine s_getr (k := 0) (T := TX12) 76 E rfl rfl rfl inX12 (by decide) W1239 dX12_partyOf_8 ?_
  refine s_bipush (v := (6 : Int32)) E dX12_partyOf_11 (by decide) ?_
  refine s_iald E dX12_partyOf_13 (fun v1 => ?_)
  refine s_icmp_ge 97 E dX12_partyOf_14 (by decide) ?_ ?_
  · refine s_sub (lv' := [(0, .ref (G.2.1 76)), (1, .int a1), (2, .int a2)]) [0, 1, 2] rfl ?_
    exact hx0 a2
  · refine s_iconst (v := (0 : Int32)) E dX12_partyOf_17 (by decide) ?_
    refine s_istore (lv' := [(0, .ref (G.2.1 76)), (1, .int a1), (2, .int a2), (3, .int a3), (4, .int (0 : Int32))]) [1, 2, 3, 4, 0] E dX12_partyOf_18 (by rw [hn]; decide) rfl ?_
    exact t_r_partyOf_20 E hn a1 a2 a3 (0 : Int32) m hb hx0
def r_partyOf_6 (a1 : Int32) (a2 : Int32) (a3 : Int32) (m : M) : Option (Int32) :=
  Option.bind (iter (fun z => r_partyOf_6b a1 z.1 z.2 m) FU (a2, a3)) (fun r => Option.bind (r_get a1 (4 : Int32) m) (fun v2 => (if v2 = (1 : Int32) then some (0 : Int32) else some r)))
set_option maxRecDepth 20000 in
theorem t_r_partyOf_6 {G : GG} {x : Cx} (E : En G x cX12_partyOf "WreckBoardModel" 5 (some .int)) (hn : xn x = 6) (a1 : Int32) (a2 : Int32) (a3 : Int32) (m : M) : Sm G x 6 [(0, .ref (G.2.1 76)), (1, .int a1), (2, .int a2), (3, .int a3)] [] m (r_partyOf_6 a1 a2 a3 m) (KRi m) := by
  unfold r_partyOf_6
  refine s_loop (fun z => [(0, .ref (G.2.1 76)), (1, .int a1), (2, .int z.1), (3, .int z.2)]) (fun z => m) (fun K2 hb2 hr2 z => ?_) FU (a2, a3)
  refine t_r_partyOf_6b (K := K2) E hn a1 z.1 z.2 m hb2 (fun r => s_out (hr2 r) ?_)
  · refine s_aload_n 0 E dX12_partyOf_97 rfl rfl ?_
    refine s_iload_n 1 E dX12_partyOf_98 rfl rfl ?_
    refine s_iconst (v := (4 : Int32)) E dX12_partyOf_99 (by decide) ?_
    refine s_bd (fun v2 hz => ?_)
    refine s_cV (rest := []) E (C_r_get (xl x) G a1 (4 : Int32) m hz) mdX12_get W1453 W1455 W46 W103 W1456 rfl rfl rfl rfl (Nat.le_of_ble_eq_true rfl) ⟨by decide, by decide⟩ dX12_partyOf_100 ?_
    refine s_iconst (v := (1 : Int32)) E dX12_partyOf_103 (by decide) ?_
    refine s_icmp_ne 111 E dX12_partyOf_104 (by decide) ?_ ?_
    · refine s_iload_n 2 E dX12_partyOf_111 rfl rfl ?_
      exact s_iret E rfl dX12_partyOf_112
    · refine s_iconst (v := (0 : Int32)) E dX12_partyOf_107 (by decide) ?_
      refine s_goto 112 E dX12_partyOf_108 (by decide) ?_
      exact s_iret E rfl dX12_partyOf_112
def r_partyOf (a1 : Int32) (m : M) : Option (Int32) :=
  lt ((1 : Int32) <<< (a1 &&& 31)) (fun w1 : Int32 => r_partyOf_6 a1 w1 (0 : Int32) m)
set_option maxRecDepth 20000 in
theorem t_r_partyOf {G : GG} {x : Cx} (E : En G x cX12_partyOf "WreckBoardModel" 5 (some .int)) (hn : xn x = 6) (a1 : Int32) (m : M) : Sm G x 0 [(0, .ref (G.2.1 76)), (1, .int a1)] [] m (r_partyOf a1 m) (KRi m) := by
  unfold r_partyOf
  refine s_iconst (v := (1 : Int32)) E dX12_partyOf_0 (by decide) ?_
  refine s_iload_n 1 E dX12_partyOf_1 rfl rfl ?_
  refine s_ishl E dX12_partyOf_2 ?_
  refine s_lt (fun w1 => [(0, .ref (G.2.1 76)), (1, .int a1)]) (fun w1 => [.int w1]) rfl rfl (fun w1 => ?_)
  refine s_istore_n (lv' := [(0, .ref (G.2.1 76)), (1, .int a1), (2, .int w1)]) [1, 2, 0] E dX12_partyOf_3 rfl (by rw [hn]; decide) rfl ?_
  refine s_iconst (v := (0 : Int32)) E dX12_partyOf_4 (by decide) ?_
  refine s_istore_n (lv' := [(0, .ref (G.2.1 76)), (1, .int a1), (2, .int w1), (3, .int (0 : Int32))]) [1, 2, 3, 0] E dX12_partyOf_5 rfl (by rw [hn]; decide) rfl ?_
  exact t_r_partyOf_6 E hn a1 w1 (0 : Int32) m
set_option maxRecDepth 20000 in
theorem C_r_partyOf (l : Launch) (G : GG) (a1 : Int32) (m : M) {z : Int32} (hz : r_partyOf a1 m = some z) : Ct l G yX12_partyOf cX12_partyOf 6 (some .int) 5 [.ref (G.2.1 76), .int a1] m (some (.int z)) m :=
  ct_of (K := (KRi m)) (by decide) (Nat.le_of_ble_eq_true rfl) (congrArg (fun q => Option.bind q _) hz) (fun x hl hn E => (t_r_partyOf E hn a1 m))
theorem mdX12_partyOf : mdq yX12_partyOf 1 := ⟨by decide, by decide, by decide +kernel⟩
theorem dX12_parties_0 : decode cX12_parties 0 = .ok (.iload_n 1, 1) := by decide +kernel
theorem dX12_parties_1 : decode cX12_parties 1 = .ok (.iconst (-1), 1) := by decide +kernel
theorem dX12_parties_2 : decode cX12_parties 2 = .ok (.if_icmp .eq 13, 3) := by decide +kernel
theorem dX12_parties_5 : decode cX12_parties 5 = .ok (.aload_n 0, 1) := by decide +kernel
theorem dX12_parties_6 : decode cX12_parties 6 = .ok (.iload_n 1, 1) := by decide +kernel
theorem dX12_parties_7 : decode cX12_parties 7 = .ok (.invokevirtual 226, 3) := by decide +kernel
theorem dX12_parties_10 : decode cX12_parties 10 = .ok (.ifCond .ne 5, 3) := by decide +kernel
theorem dX12_parties_13 : decode cX12_parties 13 = .ok (.iconst (-1), 1) := by decide +kernel
theorem dX12_parties_14 : decode cX12_parties 14 = .ok (.ireturn, 1) := by decide +kernel
theorem dX12_parties_15 : decode cX12_parties 15 = .ok (.iload_n 1, 1) := by decide +kernel
theorem dX12_parties_16 : decode cX12_parties 16 = .ok (.ifCond .lt 9, 3) := by decide +kernel
theorem dX12_parties_19 : decode cX12_parties 19 = .ok (.aload_n 0, 1) := by decide +kernel
theorem dX12_parties_20 : decode cX12_parties 20 = .ok (.iload_n 1, 1) := by decide +kernel
theorem dX12_parties_21 : decode cX12_parties 21 = .ok (.invokevirtual 256, 3) := by decide +kernel
theorem dX12_parties_24 : decode cX12_parties 24 = .ok (.ireturn, 1) := by decide +kernel
theorem dX12_parties_25 : decode cX12_parties 25 = .ok (.iconst 0, 1) := by decide +kernel
theorem dX12_parties_26 : decode cX12_parties 26 = .ok (.istore_n 2, 1) := by decide +kernel
theorem dX12_parties_27 : decode cX12_parties 27 = .ok (.iconst 0, 1) := by decide +kernel
theorem dX12_parties_28 : decode cX12_parties 28 = .ok (.istore_n 3, 1) := by decide +kernel
theorem dX12_parties_29 : decode cX12_parties 29 = .ok (.iload_n 3, 1) := by decide +kernel
theorem dX12_parties_30 : decode cX12_parties 30 = .ok (.aload_n 0, 1) := by decide +kernel
theorem dX12_parties_31 : decode cX12_parties 31 = .ok (.getfield 9, 3) := by decide +kernel
theorem dX12_parties_34 : decode cX12_parties 34 = .ok (.bipush 6, 2) := by decide +kernel
theorem dX12_parties_36 : decode cX12_parties 36 = .ok (.iaload, 1) := by decide +kernel
theorem dX12_parties_37 : decode cX12_parties 37 = .ok (.if_icmp .ge 38, 3) := by decide +kernel
theorem dX12_parties_40 : decode cX12_parties 40 = .ok (.aload_n 0, 1) := by decide +kernel
theorem dX12_parties_41 : decode cX12_parties 41 = .ok (.iload_n 3, 1) := by decide +kernel
theorem dX12_parties_42 : decode cX12_parties 42 = .ok (.invokevirtual 256, 3) := by decide +kernel
theorem dX12_parties_45 : decode cX12_parties 45 = .ok (.istore 4, 2) := by decide +kernel
theorem dX12_parties_47 : decode cX12_parties 47 = .ok (.iload_n 2, 1) := by decide +kernel
theorem dX12_parties_48 : decode cX12_parties 48 = .ok (.iload 4, 2) := by decide +kernel
theorem dX12_parties_50 : decode cX12_parties 50 = .ok (.ifCond .eq 16, 3) := by decide +kernel
theorem dX12_parties_53 : decode cX12_parties 53 = .ok (.iload 4, 2) := by decide +kernel
theorem dX12_parties_55 : decode cX12_parties 55 = .ok (.iconst 1, 1) := by decide +kernel
theorem dX12_parties_56 : decode cX12_parties 56 = .ok (.iload_n 3, 1) := by decide +kernel
theorem dX12_parties_57 : decode cX12_parties 57 = .ok (.ishl, 1) := by decide +kernel
theorem dX12_parties_58 : decode cX12_parties 58 = .ok (.irem, 1) := by decide +kernel
theorem dX12_parties_59 : decode cX12_parties 59 = .ok (.ifCond .ne 7, 3) := by decide +kernel
theorem dX12_parties_62 : decode cX12_parties 62 = .ok (.iconst 1, 1) := by decide +kernel
theorem dX12_parties_63 : decode cX12_parties 63 = .ok (.goto 4, 3) := by decide +kernel
theorem dX12_parties_66 : decode cX12_parties 66 = .ok (.iconst 0, 1) := by decide +kernel
theorem dX12_parties_67 : decode cX12_parties 67 = .ok (.iadd, 1) := by decide +kernel
theorem dX12_parties_68 : decode cX12_parties 68 = .ok (.istore_n 2, 1) := by decide +kernel
theorem dX12_parties_69 : decode cX12_parties 69 = .ok (.iinc 3 1, 3) := by decide +kernel
theorem dX12_parties_72 : decode cX12_parties 72 = .ok (.goto (-43), 3) := by decide +kernel
theorem dX12_parties_75 : decode cX12_parties 75 = .ok (.iload_n 2, 1) := by decide +kernel
theorem dX12_parties_76 : decode cX12_parties 76 = .ok (.ireturn, 1) := by decide +kernel
def r_parties_67 (a3 : Int32) (s0 : Int32) (s1 : Int32) (m : M) : Option ((Int32 × Int32) ⊕ ((Int32))) :=
  lt (s0 + s1) (fun w1 : Int32 => lt (a3 + (1 : Int32)) (fun w2 : Int32 => some (.inl (w1, w2))))
set_option maxRecDepth 20000 in
theorem t_r_parties_67 {G : GG} {x : Cx} {K : ((Int32 × Int32) ⊕ ((Int32))) → Option (Option Value × M)} (E : En G x cX12_parties "WreckBoardModel" 6 (some .int)) (hn : xn x = 5) (a3 : Int32) (s0 : Int32) (s1 : Int32) (m : M) (hb : ∀ z : Int32 × Int32, Sm G x 29 [(0, .ref (G.2.1 76)), (2, .int z.1), (3, .int z.2)] [] m (some (.inl z)) K) (hx0 : ∀ z : Int32, Sm G x 75 [(2, .int z)] [] m (some (.inr z)) K) : Sm G x 67 [(0, .ref (G.2.1 76)), (3, .int a3)] [.int s1, .int s0] m (r_parties_67 a3 s0 s1 m) K := by
  unfold r_parties_67
  refine s_iadd E dX12_parties_67 ?_
  refine s_lt (fun w1 => [(0, .ref (G.2.1 76)), (3, .int a3)]) (fun w1 => [.int w1]) rfl rfl (fun w1 => ?_)
  refine s_istore_n (lv' := [(0, .ref (G.2.1 76)), (2, .int w1), (3, .int a3)]) [1, 0, 2] E dX12_parties_68 rfl (by rw [hn]; decide) rfl ?_
  refine s_iincL (v := (1 : Int32)) 2 [1, 2, 0] (fun w2 => [(0, .ref (G.2.1 76)), (2, .int w1), (3, .int w2)]) E dX12_parties_69 rfl (by decide) (by rw [hn]; decide) (fun _ => rfl) (fun w2 => ?_)
  refine s_goto 29 E dX12_parties_72 (by decide) ?_
  exact hb (w1, w2)
def r_parties_66 (a3 : Int32) (s0 : Int32) (m : M) : Option ((Int32 × Int32) ⊕ ((Int32))) :=
  r_parties_67 a3 s0 (0 : Int32) m
set_option maxRecDepth 20000 in
theorem t_r_parties_66 {G : GG} {x : Cx} {K : ((Int32 × Int32) ⊕ ((Int32))) → Option (Option Value × M)} (E : En G x cX12_parties "WreckBoardModel" 6 (some .int)) (hn : xn x = 5) (a3 : Int32) (s0 : Int32) (m : M) (hb : ∀ z : Int32 × Int32, Sm G x 29 [(0, .ref (G.2.1 76)), (2, .int z.1), (3, .int z.2)] [] m (some (.inl z)) K) (hx0 : ∀ z : Int32, Sm G x 75 [(2, .int z)] [] m (some (.inr z)) K) : Sm G x 66 [(0, .ref (G.2.1 76)), (3, .int a3)] [.int s0] m (r_parties_66 a3 s0 m) K := by
  unfold r_parties_66
  refine s_iconst (v := (0 : Int32)) E dX12_parties_66 (by decide) ?_
  exact t_r_parties_67 E hn a3 s0 (0 : Int32) m hb hx0
def r_parties_29b (a2 : Int32) (a3 : Int32) (m : M) : Option ((Int32 × Int32) ⊕ ((Int32))) :=
  Option.bind (rdI m 77 (6 : Int32)) (fun v1 => (if v1 ≤ a3 then some (.inr a2) else Option.bind (r_partyOf a3 m) (fun v2 => (if v2 = 0 then r_parties_66 a3 a2 m else Option.bind (rmI v2 ((1 : Int32) <<< (a3 &&& 31))) (fun q3 => (if q3 = 0 then r_parties_67 a3 a2 (1 : Int32) m else r_parties_66 a3 a2 m))))))
set_option maxRecDepth 20000 in
theorem t_r_parties_29b {G : GG} {x : Cx} {K : ((Int32 × Int32) ⊕ ((Int32))) → Option (Option Value × M)} (E : En G x cX12_parties "WreckBoardModel" 6 (some .int)) (hn : xn x = 5) (a2 : Int32) (a3 : Int32) (m : M) (hb : ∀ z : Int32 × Int32, Sm G x 29 [(0, .ref (G.2.1 76)), (2, .int z.1), (3, .int z.2)] [] m (some (.inl z)) K) (hx0 : ∀ z : Int32, Sm G x 75 [(2, .int z)] [] m (some (.inr z)) K) : Sm G x 29 [(0, .ref (G.2.1 76)), (2, .int a2), (3, .int a3)] [] m (r_parties_29b a2 a3 m) K := by
  unfold r_parties_29b
  refine s_iload_n 2 E dX12_parties_29 rfl rfl ?_
  refine s_aload_n 0 E dX12_parties_30 rfl rfl ?_
  refine s_getr (k := 0) (T := TX12) 76 E rfl rfl rfl inX12 (by decide) W1239 dX12_parties_31 ?_
  refine s_bipush (v := (6 : Int32)) E dX12_parties_34 (by decide) ?_
  refine s_iald E dX12_parties_36 (fun v1 => ?_)
  refine s_icmp_ge 75 E dX12_parties_37 (by decide) ?_ ?_
  · refine s_sub (lv' := [(2, .int a2)]) [1] rfl ?_
    exact hx0 a2
  · refine s_aload_n 0 E dX12_parties_40 rfl rfl ?_
    refine s_iload_n 2 E dX12_parties_41 rfl rfl ?_
    refine s_bd (fun v2 hz => ?_)
    refine s_cV (rest := []) E (C_r_partyOf (xl x) G a3 m hz) mdX12_partyOf W1622 W1624 W66 W103 W1625 rfl rfl rfl rfl (Nat.le_of_ble_eq_true rfl) ⟨by decide, by decide⟩ dX12_parties_42 ?_
    refine s_istore (lv' := [(0, .ref (G.2.1 76)), (2, .int a2), (3, .int a3), (4, .int v2)]) [1, 2, 3, 0] E dX12_parties_45 (by rw [hn]; decide) rfl ?_
    refine s_iload_n 1 E dX12_parties_47 rfl rfl ?_
    refine s_iload 3 E dX12_parties_48 rfl ?_
    refine s_if_eq 66 E dX12_parties_50 (by decide) ?_ ?_
    · refine s_sub (lv' := [(0, .ref (G.2.1 76)), (3, .int a3)]) [0, 2] rfl ?_
      exact t_r_parties_66 E hn a3 a2 m hb hx0
    · refine s_iload 3 E dX12_parties_53 rfl ?_
      refine s_iconst (v := (1 : Int32)) E dX12_parties_55 (by decide) ?_
      refine s_iload_n 2 E dX12_parties_56 rfl rfl ?_
      refine s_ishl E dX12_parties_57 ?_
      refine s_irem E dX12_parties_58 (fun q3 => ?_)
      refine s_if_ne 66 E dX12_parties_59 (by decide) ?_ ?_
      · refine s_sub (lv' := [(0, .ref (G.2.1 76)), (3, .int a3)]) [0, 2] rfl ?_
        exact t_r_parties_66 E hn a3 a2 m hb hx0
      · refine s_iconst (v := (1 : Int32)) E dX12_parties_62 (by decide) ?_
        refine s_goto 67 E dX12_parties_63 (by decide) ?_
        refine s_sub (lv' := [(0, .ref (G.2.1 76)), (3, .int a3)]) [0, 2] rfl ?_
        exact t_r_parties_67 E hn a3 a2 (1 : Int32) m hb hx0
def r_parties_29 (a2 : Int32) (a3 : Int32) (m : M) : Option (Int32) :=
  Option.bind (iter (fun z => r_parties_29b z.1 z.2 m) FU (a2, a3)) (fun r => some r)
set_option maxRecDepth 20000 in
theorem t_r_parties_29 {G : GG} {x : Cx} (E : En G x cX12_parties "WreckBoardModel" 6 (some .int)) (hn : xn x = 5) (a2 : Int32) (a3 : Int32) (m : M) : Sm G x 29 [(0, .ref (G.2.1 76)), (2, .int a2), (3, .int a3)] [] m (r_parties_29 a2 a3 m) (KRi m) := by
  unfold r_parties_29
  refine s_loop (fun z => [(0, .ref (G.2.1 76)), (2, .int z.1), (3, .int z.2)]) (fun z => m) (fun K2 hb2 hr2 z => ?_) FU (a2, a3)
  refine t_r_parties_29b (K := K2) E hn z.1 z.2 m hb2 (fun r => s_out (hr2 r) ?_)
  · refine s_iload_n 0 E dX12_parties_75 rfl rfl ?_
    exact s_iret E rfl dX12_parties_76
def r_parties_15 (a1 : Int32) (m : M) : Option (Int32) :=
  (if a1 < 0 then r_parties_29 (0 : Int32) (0 : Int32) m else Option.bind (r_partyOf a1 m) (fun v1 => some v1))
set_option maxRecDepth 20000 in
theorem t_r_parties_15 {G : GG} {x : Cx} (E : En G x cX12_parties "WreckBoardModel" 6 (some .int)) (hn : xn x = 5) (a1 : Int32) (m : M) : Sm G x 15 [(0, .ref (G.2.1 76)), (1, .int a1)] [] m (r_parties_15 a1 m) (KRi m) := by
  unfold r_parties_15
  refine s_iload_n 1 E dX12_parties_15 rfl rfl ?_
  refine s_if_lt 25 E dX12_parties_16 (by decide) ?_ ?_
  · refine s_iconst (v := (0 : Int32)) E dX12_parties_25 (by decide) ?_
    refine s_istore_n (lv' := [(0, .ref (G.2.1 76)), (2, .int (0 : Int32))]) [1, 0] E dX12_parties_26 rfl (by rw [hn]; decide) rfl ?_
    refine s_iconst (v := (0 : Int32)) E dX12_parties_27 (by decide) ?_
    refine s_istore_n (lv' := [(0, .ref (G.2.1 76)), (2, .int (0 : Int32)), (3, .int (0 : Int32))]) [1, 2, 0] E dX12_parties_28 rfl (by rw [hn]; decide) rfl ?_
    exact t_r_parties_29 E hn (0 : Int32) (0 : Int32) m
  · refine s_aload_n 0 E dX12_parties_19 rfl rfl ?_
    refine s_iload_n 1 E dX12_parties_20 rfl rfl ?_
    refine s_bd (fun v1 hz => ?_)
    refine s_cV (rest := []) E (C_r_partyOf (xl x) G a1 m hz) mdX12_partyOf W1622 W1624 W66 W103 W1625 rfl rfl rfl rfl (Nat.le_of_ble_eq_true rfl) ⟨by decide, by decide⟩ dX12_parties_21 ?_
    exact s_iret E rfl dX12_parties_24
def r_parties (a1 : Int32) (m : M) : Option (Int32) :=
  (if a1 = (-1 : Int32) then r_parties_15 a1 m else Option.bind (r_isMember a1 m) (fun v1 => (if v1 = 0 then some (-1 : Int32) else r_parties_15 a1 m)))
set_option maxRecDepth 20000 in
theorem t_r_parties {G : GG} {x : Cx} (E : En G x cX12_parties "WreckBoardModel" 6 (some .int)) (hn : xn x = 5) (a1 : Int32) (m : M) : Sm G x 0 [(0, .ref (G.2.1 76)), (1, .int a1)] [] m (r_parties a1 m) (KRi m) := by
  unfold r_parties
  refine s_iload_n 1 E dX12_parties_0 rfl rfl ?_
  refine s_iconst (v := (-1 : Int32)) E dX12_parties_1 (by decide) ?_
  refine s_icmp_eq 15 E dX12_parties_2 (by decide) ?_ ?_
  · exact t_r_parties_15 E hn a1 m
  · refine s_aload_n 0 E dX12_parties_5 rfl rfl ?_
    refine s_iload_n 1 E dX12_parties_6 rfl rfl ?_
    refine s_bd (fun v1 hz => ?_)
    refine s_cV (rest := []) E (C_r_isMember (xl x) G a1 m hz) mdX12_isMember W1441 W1443 W43 W103 W1444 rfl rfl rfl rfl (Nat.le_of_ble_eq_true rfl) ⟨by decide, by decide⟩ dX12_parties_7 ?_
    refine s_if_ne 15 E dX12_parties_10 (by decide) ?_ ?_
    · exact t_r_parties_15 E hn a1 m
    · refine s_iconst (v := (-1 : Int32)) E dX12_parties_13 (by decide) ?_
      exact s_iret E rfl dX12_parties_14
set_option maxRecDepth 20000 in
theorem C_r_parties (l : Launch) (G : GG) (a1 : Int32) (m : M) {z : Int32} (hz : r_parties a1 m = some z) : Ct l G yX12_parties cX12_parties 5 (some .int) 6 [.ref (G.2.1 76), .int a1] m (some (.int z)) m :=
  ct_of (K := (KRi m)) (by decide) (Nat.le_of_ble_eq_true rfl) (congrArg (fun q => Option.bind q _) hz) (fun x hl hn E => (t_r_parties E hn a1 m))
theorem dX12_ordersOf_0 : decode cX12_ordersOf 0 = .ok (.iconst 1, 1) := by decide +kernel
theorem dX12_ordersOf_1 : decode cX12_ordersOf 1 = .ok (.istore_n 1, 1) := by decide +kernel
theorem dX12_ordersOf_2 : decode cX12_ordersOf 2 = .ok (.iconst 2, 1) := by decide +kernel
theorem dX12_ordersOf_3 : decode cX12_ordersOf 3 = .ok (.istore_n 2, 1) := by decide +kernel
theorem dX12_ordersOf_4 : decode cX12_ordersOf 4 = .ok (.iload_n 2, 1) := by decide +kernel
theorem dX12_ordersOf_5 : decode cX12_ordersOf 5 = .ok (.iload_n 0, 1) := by decide +kernel
theorem dX12_ordersOf_6 : decode cX12_ordersOf 6 = .ok (.if_icmp .gt 13, 3) := by decide +kernel
theorem dX12_ordersOf_9 : decode cX12_ordersOf 9 = .ok (.iload_n 1, 1) := by decide +kernel
theorem dX12_ordersOf_10 : decode cX12_ordersOf 10 = .ok (.iload_n 2, 1) := by decide +kernel
theorem dX12_ordersOf_11 : decode cX12_ordersOf 11 = .ok (.imul, 1) := by decide +kernel
theorem dX12_ordersOf_12 : decode cX12_ordersOf 12 = .ok (.istore_n 1, 1) := by decide +kernel
theorem dX12_ordersOf_13 : decode cX12_ordersOf 13 = .ok (.iinc 2 1, 3) := by decide +kernel
theorem dX12_ordersOf_16 : decode cX12_ordersOf 16 = .ok (.goto (-12), 3) := by decide +kernel
theorem dX12_ordersOf_19 : decode cX12_ordersOf 19 = .ok (.iload_n 1, 1) := by decide +kernel
theorem dX12_ordersOf_20 : decode cX12_ordersOf 20 = .ok (.ireturn, 1) := by decide +kernel
def r_ordersOf_4b (a0 : Int32) (a1 : Int32) (a2 : Int32) (m : M) : Option ((Int32 × Int32) ⊕ ((Int32))) :=
  (if a0 < a2 then some (.inr a1) else lt (a1 * a2) (fun w1 : Int32 => lt (a2 + (1 : Int32)) (fun w2 : Int32 => some (.inl (w1, w2)))))
set_option maxRecDepth 20000 in
theorem t_r_ordersOf_4b {G : GG} {x : Cx} {K : ((Int32 × Int32) ⊕ ((Int32))) → Option (Option Value × M)} (E : En G x cX12_ordersOf "WreckBoardModel" 1 (some .int)) (hn : xn x = 3) (a0 : Int32) (a1 : Int32) (a2 : Int32) (m : M) (hb : ∀ z : Int32 × Int32, Sm G x 4 [(0, .int a0), (1, .int z.1), (2, .int z.2)] [] m (some (.inl z)) K) (hx0 : ∀ z : Int32, Sm G x 19 [(1, .int z)] [] m (some (.inr z)) K) : Sm G x 4 [(0, .int a0), (1, .int a1), (2, .int a2)] [] m (r_ordersOf_4b a0 a1 a2 m) K := by
  unfold r_ordersOf_4b
  refine s_iload_n 2 E dX12_ordersOf_4 rfl rfl ?_
  refine s_iload_n 0 E dX12_ordersOf_5 rfl rfl ?_
  refine s_icmp_gt 19 E dX12_ordersOf_6 (by decide) ?_ ?_
  · refine s_sub (lv' := [(1, .int a1)]) [1] rfl ?_
    exact hx0 a1
  · refine s_iload_n 1 E dX12_ordersOf_9 rfl rfl ?_
    refine s_iload_n 2 E dX12_ordersOf_10 rfl rfl ?_
    refine s_imul E dX12_ordersOf_11 ?_
    refine s_lt (fun w1 => [(0, .int a0), (1, .int a1), (2, .int a2)]) (fun w1 => [.int w1]) rfl rfl (fun w1 => ?_)
    refine s_istore_n (lv' := [(0, .int a0), (1, .int w1), (2, .int a2)]) [1, 0, 2] E dX12_ordersOf_12 rfl (by rw [hn]; decide) rfl ?_
    refine s_iincL (v := (1 : Int32)) 2 [1, 2, 0] (fun w2 => [(0, .int a0), (1, .int w1), (2, .int w2)]) E dX12_ordersOf_13 rfl (by decide) (by rw [hn]; decide) (fun _ => rfl) (fun w2 => ?_)
    refine s_goto 4 E dX12_ordersOf_16 (by decide) ?_
    exact hb (w1, w2)
def r_ordersOf_4 (a0 : Int32) (a1 : Int32) (a2 : Int32) (m : M) : Option (Int32) :=
  Option.bind (iter (fun z => r_ordersOf_4b a0 z.1 z.2 m) FU (a1, a2)) (fun r => some r)
set_option maxRecDepth 20000 in
theorem t_r_ordersOf_4 {G : GG} {x : Cx} (E : En G x cX12_ordersOf "WreckBoardModel" 1 (some .int)) (hn : xn x = 3) (a0 : Int32) (a1 : Int32) (a2 : Int32) (m : M) : Sm G x 4 [(0, .int a0), (1, .int a1), (2, .int a2)] [] m (r_ordersOf_4 a0 a1 a2 m) (KRi m) := by
  unfold r_ordersOf_4
  refine s_loop (fun z => [(0, .int a0), (1, .int z.1), (2, .int z.2)]) (fun z => m) (fun K2 hb2 hr2 z => ?_) FU (a1, a2)
  refine t_r_ordersOf_4b (K := K2) E hn a0 z.1 z.2 m hb2 (fun r => s_out (hr2 r) ?_)
  · refine s_iload_n 0 E dX12_ordersOf_19 rfl rfl ?_
    exact s_iret E rfl dX12_ordersOf_20
def r_ordersOf (a0 : Int32) (m : M) : Option (Int32) :=
  r_ordersOf_4 a0 (1 : Int32) (2 : Int32) m
set_option maxRecDepth 20000 in
theorem t_r_ordersOf {G : GG} {x : Cx} (E : En G x cX12_ordersOf "WreckBoardModel" 1 (some .int)) (hn : xn x = 3) (a0 : Int32) (m : M) : Sm G x 0 [(0, .int a0)] [] m (r_ordersOf a0 m) (KRi m) := by
  unfold r_ordersOf
  refine s_iconst (v := (1 : Int32)) E dX12_ordersOf_0 (by decide) ?_
  refine s_istore_n (lv' := [(0, .int a0), (1, .int (1 : Int32))]) [1, 0] E dX12_ordersOf_1 rfl (by rw [hn]; decide) rfl ?_
  refine s_iconst (v := (2 : Int32)) E dX12_ordersOf_2 (by decide) ?_
  refine s_istore_n (lv' := [(0, .int a0), (1, .int (1 : Int32)), (2, .int (2 : Int32))]) [1, 2, 0] E dX12_ordersOf_3 rfl (by rw [hn]; decide) rfl ?_
  exact t_r_ordersOf_4 E hn a0 (1 : Int32) (2 : Int32) m
set_option maxRecDepth 20000 in
theorem C_r_ordersOf (l : Launch) (G : GG) (a0 : Int32) (m : M) {z : Int32} (hz : r_ordersOf a0 m = some z) : Ct l G yX12_ordersOf cX12_ordersOf 3 (some .int) 1 [.int a0] m (some (.int z)) m :=
  ct_of (K := (KRi m)) (by decide) (Nat.le_of_ble_eq_true rfl) (congrArg (fun q => Option.bind q _) hz) (fun x hl hn E => (t_r_ordersOf E hn a0 m))
theorem mdX12_ordersOf : mdq yX12_ordersOf 1 := ⟨by decide, by decide, by decide +kernel⟩
theorem dX12_power_0 : decode cX12_power 0 = .ok (.aload_n 0, 1) := by decide +kernel
theorem dX12_power_1 : decode cX12_power 1 = .ok (.iload_n 1, 1) := by decide +kernel
theorem dX12_power_2 : decode cX12_power 2 = .ok (.invokevirtual 226, 3) := by decide +kernel
theorem dX12_power_5 : decode cX12_power 5 = .ok (.ifCond .ne 5, 3) := by decide +kernel
theorem dX12_power_8 : decode cX12_power 8 = .ok (.iconst (-1), 1) := by decide +kernel
theorem dX12_power_9 : decode cX12_power 9 = .ok (.ireturn, 1) := by decide +kernel
theorem dX12_power_10 : decode cX12_power 10 = .ok (.iconst 0, 1) := by decide +kernel
theorem dX12_power_11 : decode cX12_power 11 = .ok (.istore_n 2, 1) := by decide +kernel
theorem dX12_power_12 : decode cX12_power 12 = .ok (.iconst 0, 1) := by decide +kernel
theorem dX12_power_13 : decode cX12_power 13 = .ok (.istore_n 3, 1) := by decide +kernel
theorem dX12_power_14 : decode cX12_power 14 = .ok (.iload_n 3, 1) := by decide +kernel
theorem dX12_power_15 : decode cX12_power 15 = .ok (.aload_n 0, 1) := by decide +kernel
theorem dX12_power_16 : decode cX12_power 16 = .ok (.getfield 9, 3) := by decide +kernel
theorem dX12_power_19 : decode cX12_power 19 = .ok (.bipush 6, 2) := by decide +kernel
theorem dX12_power_21 : decode cX12_power 21 = .ok (.iaload, 1) := by decide +kernel
theorem dX12_power_22 : decode cX12_power 22 = .ok (.if_icmp .ge 17, 3) := by decide +kernel
theorem dX12_power_25 : decode cX12_power 25 = .ok (.iload_n 2, 1) := by decide +kernel
theorem dX12_power_26 : decode cX12_power 26 = .ok (.aload_n 0, 1) := by decide +kernel
theorem dX12_power_27 : decode cX12_power 27 = .ok (.iload_n 3, 1) := by decide +kernel
theorem dX12_power_28 : decode cX12_power 28 = .ok (.invokevirtual 97, 3) := by decide +kernel
theorem dX12_power_31 : decode cX12_power 31 = .ok (.iadd, 1) := by decide +kernel
theorem dX12_power_32 : decode cX12_power 32 = .ok (.istore_n 2, 1) := by decide +kernel
theorem dX12_power_33 : decode cX12_power 33 = .ok (.iinc 3 1, 3) := by decide +kernel
theorem dX12_power_36 : decode cX12_power 36 = .ok (.goto (-22), 3) := by decide +kernel
theorem dX12_power_39 : decode cX12_power 39 = .ok (.iconst 0, 1) := by decide +kernel
theorem dX12_power_40 : decode cX12_power 40 = .ok (.istore_n 3, 1) := by decide +kernel
theorem dX12_power_41 : decode cX12_power 41 = .ok (.iconst 0, 1) := by decide +kernel
theorem dX12_power_42 : decode cX12_power 42 = .ok (.istore 4, 2) := by decide +kernel
theorem dX12_power_44 : decode cX12_power 44 = .ok (.iload 4, 2) := by decide +kernel
theorem dX12_power_46 : decode cX12_power 46 = .ok (.iconst 1, 1) := by decide +kernel
theorem dX12_power_47 : decode cX12_power 47 = .ok (.aload_n 0, 1) := by decide +kernel
theorem dX12_power_48 : decode cX12_power 48 = .ok (.getfield 9, 3) := by decide +kernel
theorem dX12_power_51 : decode cX12_power 51 = .ok (.bipush 6, 2) := by decide +kernel
theorem dX12_power_53 : decode cX12_power 53 = .ok (.iaload, 1) := by decide +kernel
theorem dX12_power_54 : decode cX12_power 54 = .ok (.ishl, 1) := by decide +kernel
theorem dX12_power_55 : decode cX12_power 55 = .ok (.if_icmp .ge 145, 3) := by decide +kernel
theorem dX12_power_58 : decode cX12_power 58 = .ok (.iconst 0, 1) := by decide +kernel
theorem dX12_power_59 : decode cX12_power 59 = .ok (.istore 5, 2) := by decide +kernel
theorem dX12_power_61 : decode cX12_power 61 = .ok (.iconst 0, 1) := by decide +kernel
theorem dX12_power_62 : decode cX12_power 62 = .ok (.istore 6, 2) := by decide +kernel
theorem dX12_power_64 : decode cX12_power 64 = .ok (.iconst 0, 1) := by decide +kernel
theorem dX12_power_65 : decode cX12_power 65 = .ok (.istore 7, 2) := by decide +kernel
theorem dX12_power_67 : decode cX12_power 67 = .ok (.iload 7, 2) := by decide +kernel
theorem dX12_power_69 : decode cX12_power 69 = .ok (.aload_n 0, 1) := by decide +kernel
theorem dX12_power_70 : decode cX12_power 70 = .ok (.getfield 9, 3) := by decide +kernel
theorem dX12_power_73 : decode cX12_power 73 = .ok (.bipush 6, 2) := by decide +kernel
theorem dX12_power_75 : decode cX12_power 75 = .ok (.iaload, 1) := by decide +kernel
theorem dX12_power_76 : decode cX12_power 76 = .ok (.if_icmp .ge 47, 3) := by decide +kernel
theorem dX12_power_79 : decode cX12_power 79 = .ok (.iload 5, 2) := by decide +kernel
theorem dX12_power_81 : decode cX12_power 81 = .ok (.iload 4, 2) := by decide +kernel
theorem dX12_power_83 : decode cX12_power 83 = .ok (.iload 7, 2) := by decide +kernel
theorem dX12_power_85 : decode cX12_power 85 = .ok (.ishr, 1) := by decide +kernel
theorem dX12_power_86 : decode cX12_power 86 = .ok (.iconst 1, 1) := by decide +kernel
theorem dX12_power_87 : decode cX12_power 87 = .ok (.iand, 1) := by decide +kernel
theorem dX12_power_88 : decode cX12_power 88 = .ok (.iconst 1, 1) := by decide +kernel
theorem dX12_power_89 : decode cX12_power 89 = .ok (.if_icmp .ne 12, 3) := by decide +kernel
theorem dX12_power_92 : decode cX12_power 92 = .ok (.aload_n 0, 1) := by decide +kernel
theorem dX12_power_93 : decode cX12_power 93 = .ok (.iload 7, 2) := by decide +kernel
theorem dX12_power_95 : decode cX12_power 95 = .ok (.invokevirtual 97, 3) := by decide +kernel
theorem dX12_power_98 : decode cX12_power 98 = .ok (.goto 4, 3) := by decide +kernel
theorem dX12_power_101 : decode cX12_power 101 = .ok (.iconst 0, 1) := by decide +kernel
theorem dX12_power_102 : decode cX12_power 102 = .ok (.iadd, 1) := by decide +kernel
theorem dX12_power_103 : decode cX12_power 103 = .ok (.istore 5, 2) := by decide +kernel
theorem dX12_power_105 : decode cX12_power 105 = .ok (.iload 6, 2) := by decide +kernel
theorem dX12_power_107 : decode cX12_power 107 = .ok (.iload 4, 2) := by decide +kernel
theorem dX12_power_109 : decode cX12_power 109 = .ok (.iload 7, 2) := by decide +kernel
theorem dX12_power_111 : decode cX12_power 111 = .ok (.ishr, 1) := by decide +kernel
theorem dX12_power_112 : decode cX12_power 112 = .ok (.iconst 1, 1) := by decide +kernel
theorem dX12_power_113 : decode cX12_power 113 = .ok (.iand, 1) := by decide +kernel
theorem dX12_power_114 : decode cX12_power 114 = .ok (.iadd, 1) := by decide +kernel
theorem dX12_power_115 : decode cX12_power 115 = .ok (.istore 6, 2) := by decide +kernel
theorem dX12_power_117 : decode cX12_power 117 = .ok (.iinc 7 1, 3) := by decide +kernel
theorem dX12_power_120 : decode cX12_power 120 = .ok (.goto (-53), 3) := by decide +kernel
theorem dX12_power_123 : decode cX12_power 123 = .ok (.iload 4, 2) := by decide +kernel
theorem dX12_power_125 : decode cX12_power 125 = .ok (.iload_n 1, 1) := by decide +kernel
theorem dX12_power_126 : decode cX12_power 126 = .ok (.ishr, 1) := by decide +kernel
theorem dX12_power_127 : decode cX12_power 127 = .ok (.iconst 1, 1) := by decide +kernel
theorem dX12_power_128 : decode cX12_power 128 = .ok (.iand, 1) := by decide +kernel
theorem dX12_power_129 : decode cX12_power 129 = .ok (.ifCond .ne 29, 3) := by decide +kernel
theorem dX12_power_132 : decode cX12_power 132 = .ok (.iconst 2, 1) := by decide +kernel
theorem dX12_power_133 : decode cX12_power 133 = .ok (.iload 5, 2) := by decide +kernel
theorem dX12_power_135 : decode cX12_power 135 = .ok (.imul, 1) := by decide +kernel
theorem dX12_power_136 : decode cX12_power 136 = .ok (.iload_n 2, 1) := by decide +kernel
theorem dX12_power_137 : decode cX12_power 137 = .ok (.if_icmp .gt 21, 3) := by decide +kernel
theorem dX12_power_140 : decode cX12_power 140 = .ok (.iconst 2, 1) := by decide +kernel
theorem dX12_power_141 : decode cX12_power 141 = .ok (.iload 5, 2) := by decide +kernel
theorem dX12_power_143 : decode cX12_power 143 = .ok (.aload_n 0, 1) := by decide +kernel
theorem dX12_power_144 : decode cX12_power 144 = .ok (.iload_n 1, 1) := by decide +kernel
theorem dX12_power_145 : decode cX12_power 145 = .ok (.invokevirtual 97, 3) := by decide +kernel
theorem dX12_power_148 : decode cX12_power 148 = .ok (.iadd, 1) := by decide +kernel
theorem dX12_power_149 : decode cX12_power 149 = .ok (.imul, 1) := by decide +kernel
theorem dX12_power_150 : decode cX12_power 150 = .ok (.iload_n 2, 1) := by decide +kernel
theorem dX12_power_151 : decode cX12_power 151 = .ok (.if_icmp .le 7, 3) := by decide +kernel
theorem dX12_power_154 : decode cX12_power 154 = .ok (.iconst 1, 1) := by decide +kernel
theorem dX12_power_155 : decode cX12_power 155 = .ok (.goto 4, 3) := by decide +kernel
theorem dX12_power_158 : decode cX12_power 158 = .ok (.iconst 0, 1) := by decide +kernel
theorem dX12_power_159 : decode cX12_power 159 = .ok (.istore 7, 2) := by decide +kernel
theorem dX12_power_161 : decode cX12_power 161 = .ok (.iload_n 3, 1) := by decide +kernel
theorem dX12_power_162 : decode cX12_power 162 = .ok (.iload 7, 2) := by decide +kernel
theorem dX12_power_164 : decode cX12_power 164 = .ok (.ifCond .eq 27, 3) := by decide +kernel
theorem dX12_power_167 : decode cX12_power 167 = .ok (.iload 6, 2) := by decide +kernel
theorem dX12_power_169 : decode cX12_power 169 = .ok (.invokestatic 259, 3) := by decide +kernel
theorem dX12_power_172 : decode cX12_power 172 = .ok (.aload_n 0, 1) := by decide +kernel
theorem dX12_power_173 : decode cX12_power 173 = .ok (.getfield 9, 3) := by decide +kernel
theorem dX12_power_176 : decode cX12_power 176 = .ok (.bipush 6, 2) := by decide +kernel
theorem dX12_power_178 : decode cX12_power 178 = .ok (.iaload, 1) := by decide +kernel
theorem dX12_power_179 : decode cX12_power 179 = .ok (.iconst 1, 1) := by decide +kernel
theorem dX12_power_180 : decode cX12_power 180 = .ok (.isub, 1) := by decide +kernel
theorem dX12_power_181 : decode cX12_power 181 = .ok (.iload 6, 2) := by decide +kernel
theorem dX12_power_183 : decode cX12_power 183 = .ok (.isub, 1) := by decide +kernel
theorem dX12_power_184 : decode cX12_power 184 = .ok (.invokestatic 259, 3) := by decide +kernel
theorem dX12_power_187 : decode cX12_power 187 = .ok (.imul, 1) := by decide +kernel
theorem dX12_power_188 : decode cX12_power 188 = .ok (.goto 4, 3) := by decide +kernel
theorem dX12_power_191 : decode cX12_power 191 = .ok (.iconst 0, 1) := by decide +kernel
theorem dX12_power_192 : decode cX12_power 192 = .ok (.iadd, 1) := by decide +kernel
theorem dX12_power_193 : decode cX12_power 193 = .ok (.istore_n 3, 1) := by decide +kernel
theorem dX12_power_194 : decode cX12_power 194 = .ok (.iinc 4 1, 3) := by decide +kernel
theorem dX12_power_197 : decode cX12_power 197 = .ok (.goto (-153), 3) := by decide +kernel
theorem dX12_power_200 : decode cX12_power 200 = .ok (.iload_n 3, 1) := by decide +kernel
theorem dX12_power_201 : decode cX12_power 201 = .ok (.ireturn, 1) := by decide +kernel
def r_power_14b (a1 : Int32) (a2 : Int32) (a3 : Int32) (m : M) : Option ((Int32 × Int32) ⊕ ((Int32))) :=
  Option.bind (rdI m 77 (6 : Int32)) (fun v1 => (if v1 ≤ a3 then some (.inr a2) else Option.bind (r_weighsOf a3 m) (fun v2 => lt (a2 + v2) (fun w3 : Int32 => lt (a3 + (1 : Int32)) (fun w4 : Int32 => some (.inl (w3, w4)))))))
set_option maxRecDepth 20000 in
theorem t_r_power_14b {G : GG} {x : Cx} {K : ((Int32 × Int32) ⊕ ((Int32))) → Option (Option Value × M)} (E : En G x cX12_power "WreckBoardModel" 3 (some .int)) (hn : xn x = 8) (a1 : Int32) (a2 : Int32) (a3 : Int32) (m : M) (hb : ∀ z : Int32 × Int32, Sm G x 14 [(0, .ref (G.2.1 76)), (1, .int a1), (2, .int z.1), (3, .int z.2)] [] m (some (.inl z)) K) (hx0 : ∀ z : Int32, Sm G x 39 [(0, .ref (G.2.1 76)), (1, .int a1), (2, .int z)] [] m (some (.inr z)) K) : Sm G x 14 [(0, .ref (G.2.1 76)), (1, .int a1), (2, .int a2), (3, .int a3)] [] m (r_power_14b a1 a2 a3 m) K := by
  unfold r_power_14b
  refine s_iload_n 3 E dX12_power_14 rfl rfl ?_
  refine s_aload_n 0 E dX12_power_15 rfl rfl ?_
  refine s_getr (k := 0) (T := TX12) 76 E rfl rfl rfl inX12 (by decide) W1239 dX12_power_16 ?_
  refine s_bipush (v := (6 : Int32)) E dX12_power_19 (by decide) ?_
  refine s_iald E dX12_power_21 (fun v1 => ?_)
  refine s_icmp_ge 39 E dX12_power_22 (by decide) ?_ ?_
  · refine s_sub (lv' := [(0, .ref (G.2.1 76)), (1, .int a1), (2, .int a2)]) [0, 1, 2] rfl ?_
    exact hx0 a2
  · refine s_iload_n 2 E dX12_power_25 rfl rfl ?_
    refine s_aload_n 0 E dX12_power_26 rfl rfl ?_
    refine s_iload_n 3 E dX12_power_27 rfl rfl ?_
    refine s_bd (fun v2 hz => ?_)
    refine s_cV (rest := [.int a2]) E (C_r_weighsOf (xl x) G a3 m hz) mdX12_weighsOf W1464 W1466 W48 W103 W1467 rfl rfl rfl rfl (Nat.le_of_ble_eq_true rfl) ⟨by decide, by decide⟩ dX12_power_28 ?_
    refine s_iadd E dX12_power_31 ?_
    refine s_lt (fun w3 => [(0, .ref (G.2.1 76)), (1, .int a1), (2, .int a2), (3, .int a3)]) (fun w3 => [.int w3]) rfl rfl (fun w3 => ?_)
    refine s_istore_n (lv' := [(0, .ref (G.2.1 76)), (1, .int a1), (2, .int w3), (3, .int a3)]) [1, 2, 0, 3] E dX12_power_32 rfl (by rw [hn]; decide) rfl ?_
    refine s_iincL (v := (1 : Int32)) 3 [1, 2, 3, 0] (fun w4 => [(0, .ref (G.2.1 76)), (1, .int a1), (2, .int w3), (3, .int w4)]) E dX12_power_33 rfl (by decide) (by rw [hn]; decide) (fun _ => rfl) (fun w4 => ?_)
    refine s_goto 14 E dX12_power_36 (by decide) ?_
    exact hb (w3, w4)
def r_power_102 (a1 : Int32) (a2 : Int32) (a3 : Int32) (a4 : Int32) (a6 : Int32) (a7 : Int32) (s0 : Int32) (s1 : Int32) (m : M) : Option ((Int32 × Int32 × Int32) ⊕ ((Int32 × Int32))) :=
  lt (s0 + s1) (fun w1 : Int32 => lt (a6 + ((a4 >>> (a7 &&& 31)) &&& (1 : Int32))) (fun w2 : Int32 => lt (a7 + (1 : Int32)) (fun w3 : Int32 => some (.inl (w1, w2, w3)))))
set_option maxRecDepth 20000 in
theorem t_r_power_102 {G : GG} {x : Cx} {K : ((Int32 × Int32 × Int32) ⊕ ((Int32 × Int32))) → Option (Option Value × M)} (E : En G x cX12_power "WreckBoardModel" 3 (some .int)) (hn : xn x = 8) (a1 : Int32) (a2 : Int32) (a3 : Int32) (a4 : Int32) (a6 : Int32) (a7 : Int32) (s0 : Int32) (s1 : Int32) (m : M) (hb : ∀ z : Int32 × Int32 × Int32, Sm G x 67 [(0, .ref (G.2.1 76)), (1, .int a1), (2, .int a2), (3, .int a3), (4, .int a4), (5, .int z.1), (6, .int z.2.1), (7, .int z.2.2)] [] m (some (.inl z)) K) (hx0 : ∀ z : Int32 × Int32, Sm G x 123 [(0, .ref (G.2.1 76)), (1, .int a1), (2, .int a2), (3, .int a3), (4, .int a4), (5, .int z.1), (6, .int z.2)] [] m (some (.inr z)) K) : Sm G x 102 [(0, .ref (G.2.1 76)), (1, .int a1), (2, .int a2), (3, .int a3), (4, .int a4), (6, .int a6), (7, .int a7)] [.int s1, .int s0] m (r_power_102 a1 a2 a3 a4 a6 a7 s0 s1 m) K := by
  unfold r_power_102
  refine s_iadd E dX12_power_102 ?_
  refine s_lt (fun w1 => [(0, .ref (G.2.1 76)), (1, .int a1), (2, .int a2), (3, .int a3), (4, .int a4), (6, .int a6), (7, .int a7)]) (fun w1 => [.int w1]) rfl rfl (fun w1 => ?_)
  refine s_istore (lv' := [(0, .ref (G.2.1 76)), (1, .int a1), (2, .int a2), (3, .int a3), (4, .int a4), (5, .int w1), (6, .int a6), (7, .int a7)]) [1, 2, 3, 4, 5, 0, 6, 7] E dX12_power_103 (by rw [hn]; decide) rfl ?_
  refine s_iload 6 E dX12_power_105 rfl ?_
  refine s_iload 4 E dX12_power_107 rfl ?_
  refine s_iload 7 E dX12_power_109 rfl ?_
  refine s_ishr E dX12_power_111 ?_
  refine s_iconst (v := (1 : Int32)) E dX12_power_112 (by decide) ?_
  refine s_iand E dX12_power_113 ?_
  refine s_iadd E dX12_power_114 ?_
  refine s_lt (fun w2 => [(0, .ref (G.2.1 76)), (1, .int a1), (2, .int a2), (3, .int a3), (4, .int a4), (5, .int w1), (6, .int a6), (7, .int a7)]) (fun w2 => [.int w2]) rfl rfl (fun w2 => ?_)
  refine s_istore (lv' := [(0, .ref (G.2.1 76)), (1, .int a1), (2, .int a2), (3, .int a3), (4, .int a4), (5, .int w1), (6, .int w2), (7, .int a7)]) [1, 2, 3, 4, 5, 6, 0, 7] E dX12_power_115 (by rw [hn]; decide) rfl ?_
  refine s_iincL (v := (1 : Int32)) 7 [1, 2, 3, 4, 5, 6, 7, 0] (fun w3 => [(0, .ref (G.2.1 76)), (1, .int a1), (2, .int a2), (3, .int a3), (4, .int a4), (5, .int w1), (6, .int w2), (7, .int w3)]) E dX12_power_117 rfl (by decide) (by rw [hn]; decide) (fun _ => rfl) (fun w3 => ?_)
  refine s_goto 67 E dX12_power_120 (by decide) ?_
  exact hb (w1, w2, w3)
def r_power_67b (a1 : Int32) (a2 : Int32) (a3 : Int32) (a4 : Int32) (a5 : Int32) (a6 : Int32) (a7 : Int32) (m : M) : Option ((Int32 × Int32 × Int32) ⊕ ((Int32 × Int32))) :=
  Option.bind (rdI m 77 (6 : Int32)) (fun v1 => (if v1 ≤ a7 then some (.inr (a5, a6)) else (if ((a4 >>> (a7 &&& 31)) &&& (1 : Int32)) = (1 : Int32) then Option.bind (r_weighsOf a7 m) (fun v2 => r_power_102 a1 a2 a3 a4 a6 a7 a5 v2 m) else r_power_102 a1 a2 a3 a4 a6 a7 a5 (0 : Int32) m)))
set_option maxRecDepth 20000 in
theorem t_r_power_67b {G : GG} {x : Cx} {K : ((Int32 × Int32 × Int32) ⊕ ((Int32 × Int32))) → Option (Option Value × M)} (E : En G x cX12_power "WreckBoardModel" 3 (some .int)) (hn : xn x = 8) (a1 : Int32) (a2 : Int32) (a3 : Int32) (a4 : Int32) (a5 : Int32) (a6 : Int32) (a7 : Int32) (m : M) (hb : ∀ z : Int32 × Int32 × Int32, Sm G x 67 [(0, .ref (G.2.1 76)), (1, .int a1), (2, .int a2), (3, .int a3), (4, .int a4), (5, .int z.1), (6, .int z.2.1), (7, .int z.2.2)] [] m (some (.inl z)) K) (hx0 : ∀ z : Int32 × Int32, Sm G x 123 [(0, .ref (G.2.1 76)), (1, .int a1), (2, .int a2), (3, .int a3), (4, .int a4), (5, .int z.1), (6, .int z.2)] [] m (some (.inr z)) K) : Sm G x 67 [(0, .ref (G.2.1 76)), (1, .int a1), (2, .int a2), (3, .int a3), (4, .int a4), (5, .int a5), (6, .int a6), (7, .int a7)] [] m (r_power_67b a1 a2 a3 a4 a5 a6 a7 m) K := by
  unfold r_power_67b
  refine s_iload 7 E dX12_power_67 rfl ?_
  refine s_aload_n 0 E dX12_power_69 rfl rfl ?_
  refine s_getr (k := 0) (T := TX12) 76 E rfl rfl rfl inX12 (by decide) W1239 dX12_power_70 ?_
  refine s_bipush (v := (6 : Int32)) E dX12_power_73 (by decide) ?_
  refine s_iald E dX12_power_75 (fun v1 => ?_)
  refine s_icmp_ge 123 E dX12_power_76 (by decide) ?_ ?_
  · refine s_sub (lv' := [(0, .ref (G.2.1 76)), (1, .int a1), (2, .int a2), (3, .int a3), (4, .int a4), (5, .int a5), (6, .int a6)]) [0, 1, 2, 3, 4, 5, 6] rfl ?_
    exact hx0 (a5, a6)
  · refine s_iload 5 E dX12_power_79 rfl ?_
    refine s_iload 4 E dX12_power_81 rfl ?_
    refine s_iload 7 E dX12_power_83 rfl ?_
    refine s_ishr E dX12_power_85 ?_
    refine s_iconst (v := (1 : Int32)) E dX12_power_86 (by decide) ?_
    refine s_iand E dX12_power_87 ?_
    refine s_iconst (v := (1 : Int32)) E dX12_power_88 (by decide) ?_
    refine s_icmp_ne 101 E dX12_power_89 (by decide) ?_ ?_
    · refine s_iconst (v := (0 : Int32)) E dX12_power_101 (by decide) ?_
      refine s_sub (lv' := [(0, .ref (G.2.1 76)), (1, .int a1), (2, .int a2), (3, .int a3), (4, .int a4), (6, .int a6), (7, .int a7)]) [0, 1, 2, 3, 4, 6, 7] rfl ?_
      exact t_r_power_102 E hn a1 a2 a3 a4 a6 a7 a5 (0 : Int32) m hb hx0
    · refine s_aload_n 0 E dX12_power_92 rfl rfl ?_
      refine s_iload 7 E dX12_power_93 rfl ?_
      refine s_bd (fun v2 hz => ?_)
      refine s_cV (rest := [.int a5]) E (C_r_weighsOf (xl x) G a7 m hz) mdX12_weighsOf W1464 W1466 W48 W103 W1467 rfl rfl rfl rfl (Nat.le_of_ble_eq_true rfl) ⟨by decide, by decide⟩ dX12_power_95 ?_
      refine s_goto 102 E dX12_power_98 (by decide) ?_
      refine s_sub (lv' := [(0, .ref (G.2.1 76)), (1, .int a1), (2, .int a2), (3, .int a3), (4, .int a4), (6, .int a6), (7, .int a7)]) [0, 1, 2, 3, 4, 6, 7] rfl ?_
      exact t_r_power_102 E hn a1 a2 a3 a4 a6 a7 a5 v2 m hb hx0
def r_power_192 (a1 : Int32) (a2 : Int32) (a4 : Int32) (s0 : Int32) (s1 : Int32) (m : M) : Option ((Int32 × Int32) ⊕ ((Int32))) :=
  lt (s0 + s1) (fun w1 : Int32 => lt (a4 + (1 : Int32)) (fun w2 : Int32 => some (.inl (w1, w2))))
set_option maxRecDepth 20000 in
theorem t_r_power_192 {G : GG} {x : Cx} {K : ((Int32 × Int32) ⊕ ((Int32))) → Option (Option Value × M)} (E : En G x cX12_power "WreckBoardModel" 3 (some .int)) (hn : xn x = 8) (a1 : Int32) (a2 : Int32) (a4 : Int32) (s0 : Int32) (s1 : Int32) (m : M) (hb : ∀ z : Int32 × Int32, Sm G x 44 [(0, .ref (G.2.1 76)), (1, .int a1), (2, .int a2), (3, .int z.1), (4, .int z.2)] [] m (some (.inl z)) K) (hx0 : ∀ z : Int32, Sm G x 200 [(3, .int z)] [] m (some (.inr z)) K) : Sm G x 192 [(0, .ref (G.2.1 76)), (1, .int a1), (2, .int a2), (4, .int a4)] [.int s1, .int s0] m (r_power_192 a1 a2 a4 s0 s1 m) K := by
  unfold r_power_192
  refine s_iadd E dX12_power_192 ?_
  refine s_lt (fun w1 => [(0, .ref (G.2.1 76)), (1, .int a1), (2, .int a2), (4, .int a4)]) (fun w1 => [.int w1]) rfl rfl (fun w1 => ?_)
  refine s_istore_n (lv' := [(0, .ref (G.2.1 76)), (1, .int a1), (2, .int a2), (3, .int w1), (4, .int a4)]) [1, 2, 3, 0, 4] E dX12_power_193 rfl (by rw [hn]; decide) rfl ?_
  refine s_iincL (v := (1 : Int32)) 4 [1, 2, 3, 4, 0] (fun w2 => [(0, .ref (G.2.1 76)), (1, .int a1), (2, .int a2), (3, .int w1), (4, .int w2)]) E dX12_power_194 rfl (by decide) (by rw [hn]; decide) (fun _ => rfl) (fun w2 => ?_)
  refine s_goto 44 E dX12_power_197 (by decide) ?_
  exact hb (w1, w2)
def r_power_159 (a1 : Int32) (a2 : Int32) (a3 : Int32) (a4 : Int32) (a6 : Int32) (s0 : Int32) (m : M) : Option ((Int32 × Int32) ⊕ ((Int32))) :=
  (if s0 = 0 then r_power_192 a1 a2 a4 a3 (0 : Int32) m else Option.bind (r_ordersOf a6 m) (fun v1 => Option.bind (rdI m 77 (6 : Int32)) (fun v2 => Option.bind (r_ordersOf ((v2 - (1 : Int32)) - a6) m) (fun v3 => r_power_192 a1 a2 a4 a3 (v1 * v3) m))))
set_option maxRecDepth 20000 in
theorem t_r_power_159 {G : GG} {x : Cx} {K : ((Int32 × Int32) ⊕ ((Int32))) → Option (Option Value × M)} (E : En G x cX12_power "WreckBoardModel" 3 (some .int)) (hn : xn x = 8) (a1 : Int32) (a2 : Int32) (a3 : Int32) (a4 : Int32) (a6 : Int32) (s0 : Int32) (m : M) (hb : ∀ z : Int32 × Int32, Sm G x 44 [(0, .ref (G.2.1 76)), (1, .int a1), (2, .int a2), (3, .int z.1), (4, .int z.2)] [] m (some (.inl z)) K) (hx0 : ∀ z : Int32, Sm G x 200 [(3, .int z)] [] m (some (.inr z)) K) : Sm G x 159 [(0, .ref (G.2.1 76)), (1, .int a1), (2, .int a2), (3, .int a3), (4, .int a4), (6, .int a6)] [.int s0] m (r_power_159 a1 a2 a3 a4 a6 s0 m) K := by
  unfold r_power_159
  refine s_istore (lv' := [(0, .ref (G.2.1 76)), (1, .int a1), (2, .int a2), (3, .int a3), (4, .int a4), (6, .int a6), (7, .int s0)]) [1, 2, 3, 4, 5, 6, 0] E dX12_power_159 (by rw [hn]; decide) rfl ?_
  refine s_iload_n 3 E dX12_power_161 rfl rfl ?_
  refine s_iload 6 E dX12_power_162 rfl ?_
  refine s_if_eq 191 E dX12_power_164 (by decide) ?_ ?_
  · refine s_iconst (v := (0 : Int32)) E dX12_power_191 (by decide) ?_
    refine s_sub (lv' := [(0, .ref (G.2.1 76)), (1, .int a1), (2, .int a2), (4, .int a4)]) [0, 1, 2, 4] rfl ?_
    exact t_r_power_192 E hn a1 a2 a4 a3 (0 : Int32) m hb hx0
  · refine s_iload 5 E dX12_power_167 rfl ?_
    refine s_bd (fun v1 hz => ?_)
    refine s_cS (rest := [.int a3]) E (C_r_ordersOf (xl x) G a6 m hz) mdX12_ordersOf W1634 W1635 W103 W1636 rfl rfl (Nat.le_of_ble_eq_true rfl) ⟨by decide, by decide⟩ dX12_power_169 ?_
    refine s_aload_n 0 E dX12_power_172 rfl rfl ?_
    refine s_getr (k := 0) (T := TX12) 76 E rfl rfl rfl inX12 (by decide) W1239 dX12_power_173 ?_
    refine s_bipush (v := (6 : Int32)) E dX12_power_176 (by decide) ?_
    refine s_iald E dX12_power_178 (fun v2 => ?_)
    refine s_iconst (v := (1 : Int32)) E dX12_power_179 (by decide) ?_
    refine s_isub E dX12_power_180 ?_
    refine s_iload 5 E dX12_power_181 rfl ?_
    refine s_isub E dX12_power_183 ?_
    refine s_bd (fun v3 hz => ?_)
    refine s_cS (rest := [.int v1, .int a3]) E (C_r_ordersOf (xl x) G ((v2 - (1 : Int32)) - a6) m hz) mdX12_ordersOf W1634 W1635 W103 W1636 rfl rfl (Nat.le_of_ble_eq_true rfl) ⟨by decide, by decide⟩ dX12_power_184 ?_
    refine s_imul E dX12_power_187 ?_
    refine s_goto 192 E dX12_power_188 (by decide) ?_
    refine s_sub (lv' := [(0, .ref (G.2.1 76)), (1, .int a1), (2, .int a2), (4, .int a4)]) [0, 1, 2, 4] rfl ?_
    exact t_r_power_192 E hn a1 a2 a4 a3 (v1 * v3) m hb hx0
def r_power_158 (a1 : Int32) (a2 : Int32) (a3 : Int32) (a4 : Int32) (a6 : Int32) (m : M) : Option ((Int32 × Int32) ⊕ ((Int32))) :=
  r_power_159 a1 a2 a3 a4 a6 (0 : Int32) m
set_option maxRecDepth 20000 in
theorem t_r_power_158 {G : GG} {x : Cx} {K : ((Int32 × Int32) ⊕ ((Int32))) → Option (Option Value × M)} (E : En G x cX12_power "WreckBoardModel" 3 (some .int)) (hn : xn x = 8) (a1 : Int32) (a2 : Int32) (a3 : Int32) (a4 : Int32) (a6 : Int32) (m : M) (hb : ∀ z : Int32 × Int32, Sm G x 44 [(0, .ref (G.2.1 76)), (1, .int a1), (2, .int a2), (3, .int z.1), (4, .int z.2)] [] m (some (.inl z)) K) (hx0 : ∀ z : Int32, Sm G x 200 [(3, .int z)] [] m (some (.inr z)) K) : Sm G x 158 [(0, .ref (G.2.1 76)), (1, .int a1), (2, .int a2), (3, .int a3), (4, .int a4), (6, .int a6)] [] m (r_power_158 a1 a2 a3 a4 a6 m) K := by
  unfold r_power_158
  refine s_iconst (v := (0 : Int32)) E dX12_power_158 (by decide) ?_
  exact t_r_power_159 E hn a1 a2 a3 a4 a6 (0 : Int32) m hb hx0
def r_power_67 (a1 : Int32) (a2 : Int32) (a3 : Int32) (a4 : Int32) (a5 : Int32) (a6 : Int32) (a7 : Int32) (m : M) : Option ((Int32 × Int32) ⊕ ((Int32))) :=
  Option.bind (iter (fun z => r_power_67b a1 a2 a3 a4 z.1 z.2.1 z.2.2 m) FU (a5, a6, a7)) (fun r => (if ((a4 >>> (a1 &&& 31)) &&& (1 : Int32)) = 0 then (if a2 < ((2 : Int32) * r.1) then r_power_158 a1 a2 a3 a4 r.2 m else Option.bind (r_weighsOf a1 m) (fun v3 => (if ((2 : Int32) * (r.1 + v3)) ≤ a2 then r_power_158 a1 a2 a3 a4 r.2 m else r_power_159 a1 a2 a3 a4 r.2 (1 : Int32) m))) else r_power_158 a1 a2 a3 a4 r.2 m))
set_option maxRecDepth 20000 in
theorem t_r_power_67 {G : GG} {x : Cx} {K : ((Int32 × Int32) ⊕ ((Int32))) → Option (Option Value × M)} (E : En G x cX12_power "WreckBoardModel" 3 (some .int)) (hn : xn x = 8) (a1 : Int32) (a2 : Int32) (a3 : Int32) (a4 : Int32) (a5 : Int32) (a6 : Int32) (a7 : Int32) (m : M) (hb : ∀ z : Int32 × Int32, Sm G x 44 [(0, .ref (G.2.1 76)), (1, .int a1), (2, .int a2), (3, .int z.1), (4, .int z.2)] [] m (some (.inl z)) K) (hx0 : ∀ z : Int32, Sm G x 200 [(3, .int z)] [] m (some (.inr z)) K) : Sm G x 67 [(0, .ref (G.2.1 76)), (1, .int a1), (2, .int a2), (3, .int a3), (4, .int a4), (5, .int a5), (6, .int a6), (7, .int a7)] [] m (r_power_67 a1 a2 a3 a4 a5 a6 a7 m) K := by
  unfold r_power_67
  refine s_loop (fun z => [(0, .ref (G.2.1 76)), (1, .int a1), (2, .int a2), (3, .int a3), (4, .int a4), (5, .int z.1), (6, .int z.2.1), (7, .int z.2.2)]) (fun z => m) (fun K2 hb2 hr2 z => ?_) FU (a5, a6, a7)
  refine t_r_power_67b (K := K2) E hn a1 a2 a3 a4 z.1 z.2.1 z.2.2 m hb2 (fun r => s_out (hr2 r) ?_)
  · refine s_iload 4 E dX12_power_123 rfl ?_
    refine s_iload_n 1 E dX12_power_125 rfl rfl ?_
    refine s_ishr E dX12_power_126 ?_
    refine s_iconst (v := (1 : Int32)) E dX12_power_127 (by decide) ?_
    refine s_iand E dX12_power_128 ?_
    refine s_if_ne 158 E dX12_power_129 (by decide) ?_ ?_
    · refine s_sub (lv' := [(0, .ref (G.2.1 76)), (1, .int a1), (2, .int a2), (3, .int a3), (4, .int a4), (6, .int r.2)]) [0, 1, 2, 3, 4, 6] rfl ?_
      exact t_r_power_158 E hn a1 a2 a3 a4 r.2 m hb hx0
    · refine s_iconst (v := (2 : Int32)) E dX12_power_132 (by decide) ?_
      refine s_iload 5 E dX12_power_133 rfl ?_
      refine s_imul E dX12_power_135 ?_
      refine s_iload_n 2 E dX12_power_136 rfl rfl ?_
      refine s_icmp_gt 158 E dX12_power_137 (by decide) ?_ ?_
      · refine s_sub (lv' := [(0, .ref (G.2.1 76)), (1, .int a1), (2, .int a2), (3, .int a3), (4, .int a4), (6, .int r.2)]) [0, 1, 2, 3, 4, 6] rfl ?_
        exact t_r_power_158 E hn a1 a2 a3 a4 r.2 m hb hx0
      · refine s_iconst (v := (2 : Int32)) E dX12_power_140 (by decide) ?_
        refine s_iload 5 E dX12_power_141 rfl ?_
        refine s_aload_n 0 E dX12_power_143 rfl rfl ?_
        refine s_iload_n 1 E dX12_power_144 rfl rfl ?_
        refine s_bd (fun v3 hz => ?_)
        refine s_cV (rest := [.int r.1, .int (2 : Int32)]) E (C_r_weighsOf (xl x) G a1 m hz) mdX12_weighsOf W1464 W1466 W48 W103 W1467 rfl rfl rfl rfl (Nat.le_of_ble_eq_true rfl) ⟨by decide, by decide⟩ dX12_power_145 ?_
        refine s_iadd E dX12_power_148 ?_
        refine s_imul E dX12_power_149 ?_
        refine s_iload_n 2 E dX12_power_150 rfl rfl ?_
        refine s_icmp_le 158 E dX12_power_151 (by decide) ?_ ?_
        · refine s_sub (lv' := [(0, .ref (G.2.1 76)), (1, .int a1), (2, .int a2), (3, .int a3), (4, .int a4), (6, .int r.2)]) [0, 1, 2, 3, 4, 6] rfl ?_
          exact t_r_power_158 E hn a1 a2 a3 a4 r.2 m hb hx0
        · refine s_iconst (v := (1 : Int32)) E dX12_power_154 (by decide) ?_
          refine s_goto 159 E dX12_power_155 (by decide) ?_
          refine s_sub (lv' := [(0, .ref (G.2.1 76)), (1, .int a1), (2, .int a2), (3, .int a3), (4, .int a4), (6, .int r.2)]) [0, 1, 2, 3, 4, 6] rfl ?_
          exact t_r_power_159 E hn a1 a2 a3 a4 r.2 (1 : Int32) m hb hx0
def r_power_44b (a1 : Int32) (a2 : Int32) (a3 : Int32) (a4 : Int32) (m : M) : Option ((Int32 × Int32) ⊕ ((Int32))) :=
  Option.bind (rdI m 77 (6 : Int32)) (fun v1 => (if ((1 : Int32) <<< (v1 &&& 31)) ≤ a4 then some (.inr a3) else r_power_67 a1 a2 a3 a4 (0 : Int32) (0 : Int32) (0 : Int32) m))
set_option maxRecDepth 20000 in
theorem t_r_power_44b {G : GG} {x : Cx} {K : ((Int32 × Int32) ⊕ ((Int32))) → Option (Option Value × M)} (E : En G x cX12_power "WreckBoardModel" 3 (some .int)) (hn : xn x = 8) (a1 : Int32) (a2 : Int32) (a3 : Int32) (a4 : Int32) (m : M) (hb : ∀ z : Int32 × Int32, Sm G x 44 [(0, .ref (G.2.1 76)), (1, .int a1), (2, .int a2), (3, .int z.1), (4, .int z.2)] [] m (some (.inl z)) K) (hx0 : ∀ z : Int32, Sm G x 200 [(3, .int z)] [] m (some (.inr z)) K) : Sm G x 44 [(0, .ref (G.2.1 76)), (1, .int a1), (2, .int a2), (3, .int a3), (4, .int a4)] [] m (r_power_44b a1 a2 a3 a4 m) K := by
  unfold r_power_44b
  refine s_iload 4 E dX12_power_44 rfl ?_
  refine s_iconst (v := (1 : Int32)) E dX12_power_46 (by decide) ?_
  refine s_aload_n 0 E dX12_power_47 rfl rfl ?_
  refine s_getr (k := 0) (T := TX12) 76 E rfl rfl rfl inX12 (by decide) W1239 dX12_power_48 ?_
  refine s_bipush (v := (6 : Int32)) E dX12_power_51 (by decide) ?_
  refine s_iald E dX12_power_53 (fun v1 => ?_)
  refine s_ishl E dX12_power_54 ?_
  refine s_icmp_ge 200 E dX12_power_55 (by decide) ?_ ?_
  · refine s_sub (lv' := [(3, .int a3)]) [3] rfl ?_
    exact hx0 a3
  · refine s_iconst (v := (0 : Int32)) E dX12_power_58 (by decide) ?_
    refine s_istore (lv' := [(0, .ref (G.2.1 76)), (1, .int a1), (2, .int a2), (3, .int a3), (4, .int a4), (5, .int (0 : Int32))]) [1, 2, 3, 4, 5, 0] E dX12_power_59 (by rw [hn]; decide) rfl ?_
    refine s_iconst (v := (0 : Int32)) E dX12_power_61 (by decide) ?_
    refine s_istore (lv' := [(0, .ref (G.2.1 76)), (1, .int a1), (2, .int a2), (3, .int a3), (4, .int a4), (5, .int (0 : Int32)), (6, .int (0 : Int32))]) [1, 2, 3, 4, 5, 6, 0] E dX12_power_62 (by rw [hn]; decide) rfl ?_
    refine s_iconst (v := (0 : Int32)) E dX12_power_64 (by decide) ?_
    refine s_istore (lv' := [(0, .ref (G.2.1 76)), (1, .int a1), (2, .int a2), (3, .int a3), (4, .int a4), (5, .int (0 : Int32)), (6, .int (0 : Int32)), (7, .int (0 : Int32))]) [1, 2, 3, 4, 5, 6, 7, 0] E dX12_power_65 (by rw [hn]; decide) rfl ?_
    exact t_r_power_67 E hn a1 a2 a3 a4 (0 : Int32) (0 : Int32) (0 : Int32) m hb hx0
def r_power_44 (a1 : Int32) (a2 : Int32) (a3 : Int32) (a4 : Int32) (m : M) : Option (Int32) :=
  Option.bind (iter (fun z => r_power_44b a1 a2 z.1 z.2 m) FU (a3, a4)) (fun r => some r)
set_option maxRecDepth 20000 in
theorem t_r_power_44 {G : GG} {x : Cx} (E : En G x cX12_power "WreckBoardModel" 3 (some .int)) (hn : xn x = 8) (a1 : Int32) (a2 : Int32) (a3 : Int32) (a4 : Int32) (m : M) : Sm G x 44 [(0, .ref (G.2.1 76)), (1, .int a1), (2, .int a2), (3, .int a3), (4, .int a4)] [] m (r_power_44 a1 a2 a3 a4 m) (KRi m) := by
  unfold r_power_44
  refine s_loop (fun z => [(0, .ref (G.2.1 76)), (1, .int a1), (2, .int a2), (3, .int z.1), (4, .int z.2)]) (fun z => m) (fun K2 hb2 hr2 z => ?_) FU (a3, a4)
  refine t_r_power_44b (K := K2) E hn a1 a2 z.1 z.2 m hb2 (fun r => s_out (hr2 r) ?_)
  · refine s_iload_n 0 E dX12_power_200 rfl rfl ?_
    exact s_iret E rfl dX12_power_201
def r_power_14 (a1 : Int32) (a2 : Int32) (a3 : Int32) (m : M) : Option (Int32) :=
  Option.bind (iter (fun z => r_power_14b a1 z.1 z.2 m) FU (a2, a3)) (fun r => r_power_44 a1 r (0 : Int32) (0 : Int32) m)
set_option maxRecDepth 20000 in
theorem t_r_power_14 {G : GG} {x : Cx} (E : En G x cX12_power "WreckBoardModel" 3 (some .int)) (hn : xn x = 8) (a1 : Int32) (a2 : Int32) (a3 : Int32) (m : M) : Sm G x 14 [(0, .ref (G.2.1 76)), (1, .int a1), (2, .int a2), (3, .int a3)] [] m (r_power_14 a1 a2 a3 m) (KRi m) := by
  unfold r_power_14
  refine s_loop (fun z => [(0, .ref (G.2.1 76)), (1, .int a1), (2, .int z.1), (3, .int z.2)]) (fun z => m) (fun K2 hb2 hr2 z => ?_) FU (a2, a3)
  refine t_r_power_14b (K := K2) E hn a1 z.1 z.2 m hb2 (fun r => s_out (hr2 r) ?_)
  · refine s_iconst (v := (0 : Int32)) E dX12_power_39 (by decide) ?_
    refine s_istore_n (lv' := [(0, .ref (G.2.1 76)), (1, .int a1), (2, .int r), (3, .int (0 : Int32))]) [1, 2, 3, 0] E dX12_power_40 rfl (by rw [hn]; decide) rfl ?_
    refine s_iconst (v := (0 : Int32)) E dX12_power_41 (by decide) ?_
    refine s_istore (lv' := [(0, .ref (G.2.1 76)), (1, .int a1), (2, .int r), (3, .int (0 : Int32)), (4, .int (0 : Int32))]) [1, 2, 3, 4, 0] E dX12_power_42 (by rw [hn]; decide) rfl ?_
    exact t_r_power_44 E hn a1 r (0 : Int32) (0 : Int32) m
def r_power (a1 : Int32) (m : M) : Option (Int32) :=
  Option.bind (r_isMember a1 m) (fun v1 => (if v1 = 0 then some (-1 : Int32) else r_power_14 a1 (0 : Int32) (0 : Int32) m))
set_option maxRecDepth 20000 in
theorem t_r_power {G : GG} {x : Cx} (E : En G x cX12_power "WreckBoardModel" 3 (some .int)) (hn : xn x = 8) (a1 : Int32) (m : M) : Sm G x 0 [(0, .ref (G.2.1 76)), (1, .int a1)] [] m (r_power a1 m) (KRi m) := by
  unfold r_power
  refine s_aload_n 0 E dX12_power_0 rfl rfl ?_
  refine s_iload_n 1 E dX12_power_1 rfl rfl ?_
  refine s_bd (fun v1 hz => ?_)
  refine s_cV (rest := []) E (C_r_isMember (xl x) G a1 m hz) mdX12_isMember W1441 W1443 W43 W103 W1444 rfl rfl rfl rfl (Nat.le_of_ble_eq_true rfl) ⟨by decide, by decide⟩ dX12_power_2 ?_
  refine s_if_ne 10 E dX12_power_5 (by decide) ?_ ?_
  · refine s_iconst (v := (0 : Int32)) E dX12_power_10 (by decide) ?_
    refine s_istore_n (lv' := [(0, .ref (G.2.1 76)), (1, .int a1), (2, .int (0 : Int32))]) [1, 2, 0] E dX12_power_11 rfl (by rw [hn]; decide) rfl ?_
    refine s_iconst (v := (0 : Int32)) E dX12_power_12 (by decide) ?_
    refine s_istore_n (lv' := [(0, .ref (G.2.1 76)), (1, .int a1), (2, .int (0 : Int32)), (3, .int (0 : Int32))]) [1, 2, 3, 0] E dX12_power_13 rfl (by rw [hn]; decide) rfl ?_
    exact t_r_power_14 E hn a1 (0 : Int32) (0 : Int32) m
  · refine s_iconst (v := (-1 : Int32)) E dX12_power_8 (by decide) ?_
    exact s_iret E rfl dX12_power_9
set_option maxRecDepth 20000 in
theorem C_r_power (l : Launch) (G : GG) (a1 : Int32) (m : M) {z : Int32} (hz : r_power a1 m = some z) : Ct l G yX12_power cX12_power 8 (some .int) 3 [.ref (G.2.1 76), .int a1] m (some (.int z)) m :=
  ct_of (K := (KRi m)) (by decide) (Nat.le_of_ble_eq_true rfl) (congrArg (fun q => Option.bind q _) hz) (fun x hl hn E => (t_r_power E hn a1 m))
theorem dX12_isPlan_0 : decode cX12_isPlan 0 = .ok (.iload_n 0, 1) := by decide +kernel
theorem dX12_isPlan_1 : decode cX12_isPlan 1 = .ok (.iconst 0, 1) := by decide +kernel
theorem dX12_isPlan_2 : decode cX12_isPlan 2 = .ok (.iconst 4, 1) := by decide +kernel
theorem dX12_isPlan_3 : decode cX12_isPlan 3 = .ok (.invokestatic 71, 3) := by decide +kernel
theorem dX12_isPlan_6 : decode cX12_isPlan 6 = .ok (.ireturn, 1) := by decide +kernel
def r_isPlan (a0 : Int32) (m : M) : Option (Int32) :=
  Option.bind (r_in1 a0 (0 : Int32) (4 : Int32) m) (fun v1 => some (v1 &&& 1))
set_option maxRecDepth 20000 in
theorem t_r_isPlan {G : GG} {x : Cx} (E : En G x cX12_isPlan "WreckBoardModel" 2 (some .boolean)) (hn : xn x = 1) (a0 : Int32) (m : M) : Sm G x 0 [(0, .int a0)] [] m (r_isPlan a0 m) (KRi m) := by
  unfold r_isPlan
  refine s_iload_n 0 E dX12_isPlan_0 rfl rfl ?_
  refine s_iconst (v := (0 : Int32)) E dX12_isPlan_1 (by decide) ?_
  refine s_iconst (v := (4 : Int32)) E dX12_isPlan_2 (by decide) ?_
  refine s_bd (fun v1 hz => ?_)
  refine s_cS (rest := []) E (C_r_in1 (xl x) G a0 (0 : Int32) (4 : Int32) m hz) mdX12_in1 W1359 W1360 W103 W1361 rfl rfl (Nat.le_of_ble_eq_true rfl) ⟨by decide, by decide⟩ dX12_isPlan_3 ?_
  exact s_zretN E rfl dX12_isPlan_6
set_option maxRecDepth 20000 in
theorem C_r_isPlan (l : Launch) (G : GG) (a0 : Int32) (m : M) {z : Int32} (hz : r_isPlan a0 m = some z) : Ct l G yX12_isPlan cX12_isPlan 1 (some .boolean) 2 [.int a0] m (some (.int z)) m :=
  ct_of (K := (KRi m)) (by decide) (Nat.le_of_ble_eq_true rfl) (congrArg (fun q => Option.bind q _) hz) (fun x hl hn E => (t_r_isPlan E hn a0 m))
theorem mdX12_isPlan : mdq yX12_isPlan 1 := ⟨by decide, by decide, by decide +kernel⟩
theorem dX12_daysOf_0 : decode cX12_daysOf 0 = .ok (.aload_n 0, 1) := by decide +kernel
theorem dX12_daysOf_1 : decode cX12_daysOf 1 = .ok (.invokevirtual 232, 3) := by decide +kernel
theorem dX12_daysOf_4 : decode cX12_daysOf 4 = .ok (.ifCond .eq 7, 3) := by decide +kernel
theorem dX12_daysOf_7 : decode cX12_daysOf 7 = .ok (.iconst 0, 1) := by decide +kernel
theorem dX12_daysOf_8 : decode cX12_daysOf 8 = .ok (.goto 16, 3) := by decide +kernel
theorem dX12_daysOf_11 : decode cX12_daysOf 11 = .ok (.aload_n 0, 1) := by decide +kernel
theorem dX12_daysOf_12 : decode cX12_daysOf 12 = .ok (.getfield 9, 3) := by decide +kernel
theorem dX12_daysOf_15 : decode cX12_daysOf 15 = .ok (.iconst 1, 1) := by decide +kernel
theorem dX12_daysOf_16 : decode cX12_daysOf 16 = .ok (.iaload, 1) := by decide +kernel
theorem dX12_daysOf_17 : decode cX12_daysOf 17 = .ok (.aload_n 0, 1) := by decide +kernel
theorem dX12_daysOf_18 : decode cX12_daysOf 18 = .ok (.getfield 9, 3) := by decide +kernel
theorem dX12_daysOf_21 : decode cX12_daysOf 21 = .ok (.iconst 0, 1) := by decide +kernel
theorem dX12_daysOf_22 : decode cX12_daysOf 22 = .ok (.iaload, 1) := by decide +kernel
theorem dX12_daysOf_23 : decode cX12_daysOf 23 = .ok (.isub, 1) := by decide +kernel
theorem dX12_daysOf_24 : decode cX12_daysOf 24 = .ok (.istore_n 2, 1) := by decide +kernel
theorem dX12_daysOf_25 : decode cX12_daysOf 25 = .ok (.iload_n 1, 1) := by decide +kernel
theorem dX12_daysOf_26 : decode cX12_daysOf 26 = .ok (.iload_n 2, 1) := by decide +kernel
theorem dX12_daysOf_27 : decode cX12_daysOf 27 = .ok (.if_icmp .ge 7, 3) := by decide +kernel
theorem dX12_daysOf_30 : decode cX12_daysOf 30 = .ok (.iload_n 1, 1) := by decide +kernel
theorem dX12_daysOf_31 : decode cX12_daysOf 31 = .ok (.goto 4, 3) := by decide +kernel
theorem dX12_daysOf_34 : decode cX12_daysOf 34 = .ok (.iload_n 2, 1) := by decide +kernel
theorem dX12_daysOf_35 : decode cX12_daysOf 35 = .ok (.ireturn, 1) := by decide +kernel
def r_daysOf_24 (a1 : Int32) (s0 : Int32) (m : M) : Option (Int32) :=
  (if s0 ≤ a1 then some s0 else some a1)
set_option maxRecDepth 20000 in
theorem t_r_daysOf_24 {G : GG} {x : Cx} (E : En G x cX12_daysOf "WreckBoardModel" 2 (some .int)) (hn : xn x = 3) (a1 : Int32) (s0 : Int32) (m : M) : Sm G x 24 [(1, .int a1)] [.int s0] m (r_daysOf_24 a1 s0 m) (KRi m) := by
  unfold r_daysOf_24
  refine s_istore_n (lv' := [(1, .int a1), (2, .int s0)]) [1, 0] E dX12_daysOf_24 rfl (by rw [hn]; decide) rfl ?_
  refine s_iload_n 0 E dX12_daysOf_25 rfl rfl ?_
  refine s_iload_n 1 E dX12_daysOf_26 rfl rfl ?_
  refine s_icmp_ge 34 E dX12_daysOf_27 (by decide) ?_ ?_
  · refine s_iload_n 1 E dX12_daysOf_34 rfl rfl ?_
    exact s_iret E rfl dX12_daysOf_35
  · refine s_iload_n 0 E dX12_daysOf_30 rfl rfl ?_
    refine s_goto 35 E dX12_daysOf_31 (by decide) ?_
    exact s_iret E rfl dX12_daysOf_35
def r_daysOf (a1 : Int32) (m : M) : Option (Int32) :=
  Option.bind (r_isOver m) (fun v1 => (if v1 = 0 then Option.bind (rdI m 77 (1 : Int32)) (fun v2 => Option.bind (rdI m 77 (0 : Int32)) (fun v3 => r_daysOf_24 a1 (v2 - v3) m)) else r_daysOf_24 a1 (0 : Int32) m))
set_option maxRecDepth 20000 in
theorem t_r_daysOf {G : GG} {x : Cx} (E : En G x cX12_daysOf "WreckBoardModel" 2 (some .int)) (hn : xn x = 3) (a1 : Int32) (m : M) : Sm G x 0 [(0, .ref (G.2.1 76)), (1, .int a1)] [] m (r_daysOf a1 m) (KRi m) := by
  unfold r_daysOf
  refine s_aload_n 0 E dX12_daysOf_0 rfl rfl ?_
  refine s_bd (fun v1 hz => ?_)
  refine s_cV (rest := []) E (C_r_isOver (xl x) G  m hz) mdX12_isOver W1545 W1547 W57 W103 W1548 rfl rfl rfl rfl (Nat.le_of_ble_eq_true rfl) ⟨by decide, by decide⟩ dX12_daysOf_1 ?_
  refine s_if_eq 11 E dX12_daysOf_4 (by decide) ?_ ?_
  · refine s_aload_n 0 E dX12_daysOf_11 rfl rfl ?_
    refine s_getr (k := 0) (T := TX12) 76 E rfl rfl rfl inX12 (by decide) W1239 dX12_daysOf_12 ?_
    refine s_iconst (v := (1 : Int32)) E dX12_daysOf_15 (by decide) ?_
    refine s_iald E dX12_daysOf_16 (fun v2 => ?_)
    refine s_aload_n 0 E dX12_daysOf_17 rfl rfl ?_
    refine s_getr (k := 0) (T := TX12) 76 E rfl rfl rfl inX12 (by decide) W1239 dX12_daysOf_18 ?_
    refine s_iconst (v := (0 : Int32)) E dX12_daysOf_21 (by decide) ?_
    refine s_iald E dX12_daysOf_22 (fun v3 => ?_)
    refine s_isub E dX12_daysOf_23 ?_
    refine s_sub (lv' := [(1, .int a1)]) [1] rfl ?_
    exact t_r_daysOf_24 E hn a1 (v2 - v3) m
  · refine s_iconst (v := (0 : Int32)) E dX12_daysOf_7 (by decide) ?_
    refine s_goto 24 E dX12_daysOf_8 (by decide) ?_
    refine s_sub (lv' := [(1, .int a1)]) [1] rfl ?_
    exact t_r_daysOf_24 E hn a1 (0 : Int32) m
set_option maxRecDepth 20000 in
theorem C_r_daysOf (l : Launch) (G : GG) (a1 : Int32) (m : M) {z : Int32} (hz : r_daysOf a1 m = some z) : Ct l G yX12_daysOf cX12_daysOf 3 (some .int) 2 [.ref (G.2.1 76), .int a1] m (some (.int z)) m :=
  ct_of (K := (KRi m)) (by decide) (Nat.le_of_ble_eq_true rfl) (congrArg (fun q => Option.bind q _) hz) (fun x hl hn E => (t_r_daysOf E hn a1 m))
theorem mdX12_daysOf : mdq yX12_daysOf 1 := ⟨by decide, by decide, by decide +kernel⟩
theorem dX12_saves_0 : decode cX12_saves 0 = .ok (.iconst 0, 1) := by decide +kernel
theorem dX12_saves_1 : decode cX12_saves 1 = .ok (.istore_n 2, 1) := by decide +kernel
theorem dX12_saves_2 : decode cX12_saves 2 = .ok (.iload_n 2, 1) := by decide +kernel
theorem dX12_saves_3 : decode cX12_saves 3 = .ok (.bipush 67, 2) := by decide +kernel
theorem dX12_saves_5 : decode cX12_saves 5 = .ok (.if_icmp .ge 26, 3) := by decide +kernel
theorem dX12_saves_8 : decode cX12_saves 8 = .ok (.aload_n 0, 1) := by decide +kernel
theorem dX12_saves_9 : decode cX12_saves 9 = .ok (.getfield 35, 3) := by decide +kernel
theorem dX12_saves_12 : decode cX12_saves 12 = .ok (.bipush 67, 2) := by decide +kernel
theorem dX12_saves_14 : decode cX12_saves 14 = .ok (.iload_n 1, 1) := by decide +kernel
theorem dX12_saves_15 : decode cX12_saves 15 = .ok (.imul, 1) := by decide +kernel
theorem dX12_saves_16 : decode cX12_saves 16 = .ok (.iload_n 2, 1) := by decide +kernel
theorem dX12_saves_17 : decode cX12_saves 17 = .ok (.iadd, 1) := by decide +kernel
theorem dX12_saves_18 : decode cX12_saves 18 = .ok (.aload_n 0, 1) := by decide +kernel
theorem dX12_saves_19 : decode cX12_saves 19 = .ok (.getfield 9, 3) := by decide +kernel
theorem dX12_saves_22 : decode cX12_saves 22 = .ok (.iload_n 2, 1) := by decide +kernel
theorem dX12_saves_23 : decode cX12_saves 23 = .ok (.iaload, 1) := by decide +kernel
theorem dX12_saves_24 : decode cX12_saves 24 = .ok (.iastore, 1) := by decide +kernel
theorem dX12_saves_25 : decode cX12_saves 25 = .ok (.iinc 2 1, 3) := by decide +kernel
theorem dX12_saves_28 : decode cX12_saves 28 = .ok (.goto (-26), 3) := by decide +kernel
theorem dX12_saves_31 : decode cX12_saves 31 = .ok (.return_, 1) := by decide +kernel
def r_saves_2b (a1 : Int32) (a2 : Int32) (m : M) : Option ((Int32 × M) ⊕ ((M))) :=
  (if (67 : Int32) ≤ a2 then some (.inr m) else Option.bind (rdI m 77 a2) (fun v1 => Option.bind (wrI m 85 (((67 : Int32) * a1) + a2) v1) (fun m2 => lt (a2 + (1 : Int32)) (fun w3 : Int32 => some (.inl (w3, m2))))))
set_option maxRecDepth 20000 in
theorem t_r_saves_2b {G : GG} {x : Cx} {K : ((Int32 × M) ⊕ ((M))) → Option (Option Value × M)} (E : En G x cX12_saves "WreckBoardModel" 1 none) (hn : xn x = 3) (a1 : Int32) (a2 : Int32) (m : M) (hb : ∀ z : Int32 × M, Sm G x 2 [(0, .ref (G.2.1 76)), (1, .int a1), (2, .int z.1)] [] z.2 (some (.inl z)) K) (hx0 : ∀ z : M, Sm G x 31 [] [] z (some (.inr z)) K) : Sm G x 2 [(0, .ref (G.2.1 76)), (1, .int a1), (2, .int a2)] [] m (r_saves_2b a1 a2 m) K := by
  unfold r_saves_2b
  refine s_iload_n 2 E dX12_saves_2 rfl rfl ?_
  refine s_bipush (v := (67 : Int32)) E dX12_saves_3 (by decide) ?_
  refine s_icmp_ge 31 E dX12_saves_5 (by decide) ?_ ?_
  · refine s_sub (lv' := []) [] rfl ?_
    exact hx0 m
  · refine s_aload_n 0 E dX12_saves_8 rfl rfl ?_
    refine s_getr (k := 17) (T := TX12) 76 E rfl rfl rfl inX12 (by decide) W1256 dX12_saves_9 ?_
    refine s_bipush (v := (67 : Int32)) E dX12_saves_12 (by decide) ?_
    refine s_iload_n 1 E dX12_saves_14 rfl rfl ?_
    refine s_imul E dX12_saves_15 ?_
    refine s_iload_n 2 E dX12_saves_16 rfl rfl ?_
    refine s_iadd E dX12_saves_17 ?_
    refine s_aload_n 0 E dX12_saves_18 rfl rfl ?_
    refine s_getr (k := 0) (T := TX12) 76 E rfl rfl rfl inX12 (by decide) W1239 dX12_saves_19 ?_
    refine s_iload_n 2 E dX12_saves_22 rfl rfl ?_
    refine s_iald E dX12_saves_23 (fun v1 => ?_)
    refine s_iast E dX12_saves_24 (fun m2 => ?_)
    refine s_iincL (v := (1 : Int32)) 2 [1, 2, 0] (fun w3 => [(0, .ref (G.2.1 76)), (1, .int a1), (2, .int w3)]) E dX12_saves_25 rfl (by decide) (by rw [hn]; decide) (fun _ => rfl) (fun w3 => ?_)
    refine s_goto 2 E dX12_saves_28 (by decide) ?_
    exact hb (w3, m2)
def r_saves_2 (a1 : Int32) (a2 : Int32) (m : M) : Option (M) :=
  Option.bind (iter (fun z => r_saves_2b a1 z.1 z.2) FU (a2, m)) (fun r => some r)
set_option maxRecDepth 20000 in
theorem t_r_saves_2 {G : GG} {x : Cx} (E : En G x cX12_saves "WreckBoardModel" 1 none) (hn : xn x = 3) (a1 : Int32) (a2 : Int32) (m : M) : Sm G x 2 [(0, .ref (G.2.1 76)), (1, .int a1), (2, .int a2)] [] m (r_saves_2 a1 a2 m) KWv := by
  unfold r_saves_2
  refine s_loop (fun z => [(0, .ref (G.2.1 76)), (1, .int a1), (2, .int z.1)]) (fun z => z.2) (fun K2 hb2 hr2 z => ?_) FU (a2, m)
  refine t_r_saves_2b (K := K2) E hn a1 z.1 z.2 hb2 (fun r => s_out (hr2 r) ?_)
  · exact s_vret E rfl dX12_saves_31
def r_saves (a1 : Int32) (m : M) : Option (M) :=
  r_saves_2 a1 (0 : Int32) m
set_option maxRecDepth 20000 in
theorem t_r_saves {G : GG} {x : Cx} (E : En G x cX12_saves "WreckBoardModel" 1 none) (hn : xn x = 3) (a1 : Int32) (m : M) : Sm G x 0 [(0, .ref (G.2.1 76)), (1, .int a1)] [] m (r_saves a1 m) KWv := by
  unfold r_saves
  refine s_iconst (v := (0 : Int32)) E dX12_saves_0 (by decide) ?_
  refine s_istore_n (lv' := [(0, .ref (G.2.1 76)), (1, .int a1), (2, .int (0 : Int32))]) [1, 2, 0] E dX12_saves_1 rfl (by rw [hn]; decide) rfl ?_
  exact t_r_saves_2 E hn a1 (0 : Int32) m
set_option maxRecDepth 20000 in
theorem C_r_saves (l : Launch) (G : GG) (a1 : Int32) (m : M) {z : M} (hz : r_saves a1 m = some z) : Ct l G yX12_saves cX12_saves 3 none 1 [.ref (G.2.1 76), .int a1] m none z :=
  ct_of (K := KWv) (by decide) (Nat.le_of_ble_eq_true rfl) (congrArg (fun q => Option.bind q _) hz) (fun x hl hn E => (t_r_saves E hn a1 m))
theorem mdX12_saves : mdq yX12_saves 1 := ⟨by decide, by decide, by decide +kernel⟩
theorem mdX12_goesPlans : mdq yX12_goesPlans 5 := ⟨by decide, by decide, by decide +kernel⟩
theorem dX12_restores_0 : decode cX12_restores 0 = .ok (.iconst 0, 1) := by decide +kernel
theorem dX12_restores_1 : decode cX12_restores 1 = .ok (.istore_n 2, 1) := by decide +kernel
theorem dX12_restores_2 : decode cX12_restores 2 = .ok (.iload_n 2, 1) := by decide +kernel
theorem dX12_restores_3 : decode cX12_restores 3 = .ok (.bipush 67, 2) := by decide +kernel
theorem dX12_restores_5 : decode cX12_restores 5 = .ok (.if_icmp .ge 26, 3) := by decide +kernel
theorem dX12_restores_8 : decode cX12_restores 8 = .ok (.aload_n 0, 1) := by decide +kernel
theorem dX12_restores_9 : decode cX12_restores 9 = .ok (.getfield 9, 3) := by decide +kernel
theorem dX12_restores_12 : decode cX12_restores 12 = .ok (.iload_n 2, 1) := by decide +kernel
theorem dX12_restores_13 : decode cX12_restores 13 = .ok (.aload_n 0, 1) := by decide +kernel
theorem dX12_restores_14 : decode cX12_restores 14 = .ok (.getfield 35, 3) := by decide +kernel
theorem dX12_restores_17 : decode cX12_restores 17 = .ok (.bipush 67, 2) := by decide +kernel
theorem dX12_restores_19 : decode cX12_restores 19 = .ok (.iload_n 1, 1) := by decide +kernel
theorem dX12_restores_20 : decode cX12_restores 20 = .ok (.imul, 1) := by decide +kernel
theorem dX12_restores_21 : decode cX12_restores 21 = .ok (.iload_n 2, 1) := by decide +kernel
theorem dX12_restores_22 : decode cX12_restores 22 = .ok (.iadd, 1) := by decide +kernel
theorem dX12_restores_23 : decode cX12_restores 23 = .ok (.iaload, 1) := by decide +kernel
theorem dX12_restores_24 : decode cX12_restores 24 = .ok (.iastore, 1) := by decide +kernel
theorem dX12_restores_25 : decode cX12_restores 25 = .ok (.iinc 2 1, 3) := by decide +kernel
theorem dX12_restores_28 : decode cX12_restores 28 = .ok (.goto (-26), 3) := by decide +kernel
theorem dX12_restores_31 : decode cX12_restores 31 = .ok (.return_, 1) := by decide +kernel
def r_restores_2b (a1 : Int32) (a2 : Int32) (m : M) : Option ((Int32 × M) ⊕ ((M))) :=
  (if (67 : Int32) ≤ a2 then some (.inr m) else Option.bind (rdI m 85 (((67 : Int32) * a1) + a2)) (fun v1 => Option.bind (wrI m 77 a2 v1) (fun m2 => lt (a2 + (1 : Int32)) (fun w3 : Int32 => some (.inl (w3, m2))))))
set_option maxRecDepth 20000 in
theorem t_r_restores_2b {G : GG} {x : Cx} {K : ((Int32 × M) ⊕ ((M))) → Option (Option Value × M)} (E : En G x cX12_restores "WreckBoardModel" 1 none) (hn : xn x = 3) (a1 : Int32) (a2 : Int32) (m : M) (hb : ∀ z : Int32 × M, Sm G x 2 [(0, .ref (G.2.1 76)), (1, .int a1), (2, .int z.1)] [] z.2 (some (.inl z)) K) (hx0 : ∀ z : M, Sm G x 31 [] [] z (some (.inr z)) K) : Sm G x 2 [(0, .ref (G.2.1 76)), (1, .int a1), (2, .int a2)] [] m (r_restores_2b a1 a2 m) K := by
  unfold r_restores_2b
  refine s_iload_n 2 E dX12_restores_2 rfl rfl ?_
  refine s_bipush (v := (67 : Int32)) E dX12_restores_3 (by decide) ?_
  refine s_icmp_ge 31 E dX12_restores_5 (by decide) ?_ ?_
  · refine s_sub (lv' := []) [] rfl ?_
    exact hx0 m
  · refine s_aload_n 0 E dX12_restores_8 rfl rfl ?_
    refine s_getr (k := 0) (T := TX12) 76 E rfl rfl rfl inX12 (by decide) W1239 dX12_restores_9 ?_
    refine s_iload_n 2 E dX12_restores_12 rfl rfl ?_
    refine s_aload_n 0 E dX12_restores_13 rfl rfl ?_
    refine s_getr (k := 17) (T := TX12) 76 E rfl rfl rfl inX12 (by decide) W1256 dX12_restores_14 ?_
    refine s_bipush (v := (67 : Int32)) E dX12_restores_17 (by decide) ?_
    refine s_iload_n 1 E dX12_restores_19 rfl rfl ?_
    refine s_imul E dX12_restores_20 ?_
    refine s_iload_n 2 E dX12_restores_21 rfl rfl ?_
    refine s_iadd E dX12_restores_22 ?_
    refine s_iald E dX12_restores_23 (fun v1 => ?_)
    refine s_iast E dX12_restores_24 (fun m2 => ?_)
    refine s_iincL (v := (1 : Int32)) 2 [1, 2, 0] (fun w3 => [(0, .ref (G.2.1 76)), (1, .int a1), (2, .int w3)]) E dX12_restores_25 rfl (by decide) (by rw [hn]; decide) (fun _ => rfl) (fun w3 => ?_)
    refine s_goto 2 E dX12_restores_28 (by decide) ?_
    exact hb (w3, m2)
def r_restores_2 (a1 : Int32) (a2 : Int32) (m : M) : Option (M) :=
  Option.bind (iter (fun z => r_restores_2b a1 z.1 z.2) FU (a2, m)) (fun r => some r)
set_option maxRecDepth 20000 in
theorem t_r_restores_2 {G : GG} {x : Cx} (E : En G x cX12_restores "WreckBoardModel" 1 none) (hn : xn x = 3) (a1 : Int32) (a2 : Int32) (m : M) : Sm G x 2 [(0, .ref (G.2.1 76)), (1, .int a1), (2, .int a2)] [] m (r_restores_2 a1 a2 m) KWv := by
  unfold r_restores_2
  refine s_loop (fun z => [(0, .ref (G.2.1 76)), (1, .int a1), (2, .int z.1)]) (fun z => z.2) (fun K2 hb2 hr2 z => ?_) FU (a2, m)
  refine t_r_restores_2b (K := K2) E hn a1 z.1 z.2 hb2 (fun r => s_out (hr2 r) ?_)
  · exact s_vret E rfl dX12_restores_31
def r_restores (a1 : Int32) (m : M) : Option (M) :=
  r_restores_2 a1 (0 : Int32) m
set_option maxRecDepth 20000 in
theorem t_r_restores {G : GG} {x : Cx} (E : En G x cX12_restores "WreckBoardModel" 1 none) (hn : xn x = 3) (a1 : Int32) (m : M) : Sm G x 0 [(0, .ref (G.2.1 76)), (1, .int a1)] [] m (r_restores a1 m) KWv := by
  unfold r_restores
  refine s_iconst (v := (0 : Int32)) E dX12_restores_0 (by decide) ?_
  refine s_istore_n (lv' := [(0, .ref (G.2.1 76)), (1, .int a1), (2, .int (0 : Int32))]) [1, 2, 0] E dX12_restores_1 rfl (by rw [hn]; decide) rfl ?_
  exact t_r_restores_2 E hn a1 (0 : Int32) m
set_option maxRecDepth 20000 in
theorem C_r_restores (l : Launch) (G : GG) (a1 : Int32) (m : M) {z : M} (hz : r_restores a1 m = some z) : Ct l G yX12_restores cX12_restores 3 none 1 [.ref (G.2.1 76), .int a1] m none z :=
  ct_of (K := KWv) (by decide) (Nat.le_of_ble_eq_true rfl) (congrArg (fun q => Option.bind q _) hz) (fun x hl hn E => (t_r_restores E hn a1 m))
theorem mdX12_restores : mdq yX12_restores 1 := ⟨by decide, by decide, by decide +kernel⟩
theorem dX12_endsPlan_0 : decode cX12_endsPlan 0 = .ok (.iload_n 2, 1) := by decide +kernel
theorem dX12_endsPlan_1 : decode cX12_endsPlan 1 = .ok (.aload_n 0, 1) := by decide +kernel
theorem dX12_endsPlan_2 : decode cX12_endsPlan 2 = .ok (.getfield 262, 3) := by decide +kernel
theorem dX12_endsPlan_5 : decode cX12_endsPlan 5 = .ok (.if_icmp .le 42, 3) := by decide +kernel
theorem dX12_endsPlan_8 : decode cX12_endsPlan 8 = .ok (.aload_n 0, 1) := by decide +kernel
theorem dX12_endsPlan_9 : decode cX12_endsPlan 9 = .ok (.iconst 0, 1) := by decide +kernel
theorem dX12_endsPlan_10 : decode cX12_endsPlan 10 = .ok (.putfield 265, 3) := by decide +kernel
theorem dX12_endsPlan_13 : decode cX12_endsPlan 13 = .ok (.aload_n 0, 1) := by decide +kernel
theorem dX12_endsPlan_14 : decode cX12_endsPlan 14 = .ok (.iload_n 2, 1) := by decide +kernel
theorem dX12_endsPlan_15 : decode cX12_endsPlan 15 = .ok (.putfield 262, 3) := by decide +kernel
theorem dX12_endsPlan_18 : decode cX12_endsPlan 18 = .ok (.iconst 0, 1) := by decide +kernel
theorem dX12_endsPlan_19 : decode cX12_endsPlan 19 = .ok (.istore 5, 2) := by decide +kernel
theorem dX12_endsPlan_21 : decode cX12_endsPlan 21 = .ok (.iload 5, 2) := by decide +kernel
theorem dX12_endsPlan_23 : decode cX12_endsPlan 23 = .ok (.iload_n 1, 1) := by decide +kernel
theorem dX12_endsPlan_24 : decode cX12_endsPlan 24 = .ok (.if_icmp .ge 23, 3) := by decide +kernel
theorem dX12_endsPlan_27 : decode cX12_endsPlan 27 = .ok (.aload_n 0, 1) := by decide +kernel
theorem dX12_endsPlan_28 : decode cX12_endsPlan 28 = .ok (.getfield 41, 3) := by decide +kernel
theorem dX12_endsPlan_31 : decode cX12_endsPlan 31 = .ok (.iload 5, 2) := by decide +kernel
theorem dX12_endsPlan_33 : decode cX12_endsPlan 33 = .ok (.aload_n 0, 1) := by decide +kernel
theorem dX12_endsPlan_34 : decode cX12_endsPlan 34 = .ok (.getfield 38, 3) := by decide +kernel
theorem dX12_endsPlan_37 : decode cX12_endsPlan 37 = .ok (.iload 5, 2) := by decide +kernel
theorem dX12_endsPlan_39 : decode cX12_endsPlan 39 = .ok (.iaload, 1) := by decide +kernel
theorem dX12_endsPlan_40 : decode cX12_endsPlan 40 = .ok (.iastore, 1) := by decide +kernel
theorem dX12_endsPlan_41 : decode cX12_endsPlan 41 = .ok (.iinc 5 1, 3) := by decide +kernel
theorem dX12_endsPlan_44 : decode cX12_endsPlan 44 = .ok (.goto (-23), 3) := by decide +kernel
theorem dX12_endsPlan_47 : decode cX12_endsPlan 47 = .ok (.aload_n 0, 1) := by decide +kernel
theorem dX12_endsPlan_48 : decode cX12_endsPlan 48 = .ok (.dup, 1) := by decide +kernel
theorem dX12_endsPlan_49 : decode cX12_endsPlan 49 = .ok (.getfield 265, 3) := by decide +kernel
theorem dX12_endsPlan_52 : decode cX12_endsPlan 52 = .ok (.iload_n 2, 1) := by decide +kernel
theorem dX12_endsPlan_53 : decode cX12_endsPlan 53 = .ok (.aload_n 0, 1) := by decide +kernel
theorem dX12_endsPlan_54 : decode cX12_endsPlan 54 = .ok (.getfield 262, 3) := by decide +kernel
theorem dX12_endsPlan_57 : decode cX12_endsPlan 57 = .ok (.if_icmp .ne 7, 3) := by decide +kernel
theorem dX12_endsPlan_60 : decode cX12_endsPlan 60 = .ok (.iconst 1, 1) := by decide +kernel
theorem dX12_endsPlan_61 : decode cX12_endsPlan 61 = .ok (.goto 4, 3) := by decide +kernel
theorem dX12_endsPlan_64 : decode cX12_endsPlan 64 = .ok (.iconst 0, 1) := by decide +kernel
theorem dX12_endsPlan_65 : decode cX12_endsPlan 65 = .ok (.iadd, 1) := by decide +kernel
theorem dX12_endsPlan_66 : decode cX12_endsPlan 66 = .ok (.putfield 265, 3) := by decide +kernel
theorem dX12_endsPlan_69 : decode cX12_endsPlan 69 = .ok (.aload_n 0, 1) := by decide +kernel
theorem dX12_endsPlan_70 : decode cX12_endsPlan 70 = .ok (.iconst 4, 1) := by decide +kernel
theorem dX12_endsPlan_71 : decode cX12_endsPlan 71 = .ok (.invokevirtual 235, 3) := by decide +kernel
theorem dX12_endsPlan_74 : decode cX12_endsPlan 74 = .ok (.istore 5, 2) := by decide +kernel
theorem dX12_endsPlan_76 : decode cX12_endsPlan 76 = .ok (.aload_n 0, 1) := by decide +kernel
theorem dX12_endsPlan_77 : decode cX12_endsPlan 77 = .ok (.iload 4, 2) := by decide +kernel
theorem dX12_endsPlan_79 : decode cX12_endsPlan 79 = .ok (.iload 5, 2) := by decide +kernel
theorem dX12_endsPlan_81 : decode cX12_endsPlan 81 = .ok (.iconst (-1), 1) := by decide +kernel
theorem dX12_endsPlan_82 : decode cX12_endsPlan 82 = .ok (.ixor, 1) := by decide +kernel
theorem dX12_endsPlan_83 : decode cX12_endsPlan 83 = .ok (.iand, 1) := by decide +kernel
theorem dX12_endsPlan_84 : decode cX12_endsPlan 84 = .ok (.ifCond .ne 15, 3) := by decide +kernel
theorem dX12_endsPlan_87 : decode cX12_endsPlan 87 = .ok (.iload_n 3, 1) := by decide +kernel
theorem dX12_endsPlan_88 : decode cX12_endsPlan 88 = .ok (.aload_n 0, 1) := by decide +kernel
theorem dX12_endsPlan_89 : decode cX12_endsPlan 89 = .ok (.getfield 268, 3) := by decide +kernel
theorem dX12_endsPlan_92 : decode cX12_endsPlan 92 = .ok (.if_icmp .ge 7, 3) := by decide +kernel
theorem dX12_endsPlan_95 : decode cX12_endsPlan 95 = .ok (.iload_n 3, 1) := by decide +kernel
theorem dX12_endsPlan_96 : decode cX12_endsPlan 96 = .ok (.goto 7, 3) := by decide +kernel
theorem dX12_endsPlan_99 : decode cX12_endsPlan 99 = .ok (.aload_n 0, 1) := by decide +kernel
theorem dX12_endsPlan_100 : decode cX12_endsPlan 100 = .ok (.getfield 268, 3) := by decide +kernel
theorem dX12_endsPlan_103 : decode cX12_endsPlan 103 = .ok (.putfield 268, 3) := by decide +kernel
theorem dX12_endsPlan_106 : decode cX12_endsPlan 106 = .ok (.aload_n 0, 1) := by decide +kernel
theorem dX12_endsPlan_107 : decode cX12_endsPlan 107 = .ok (.dup, 1) := by decide +kernel
theorem dX12_endsPlan_108 : decode cX12_endsPlan 108 = .ok (.getfield 271, 3) := by decide +kernel
theorem dX12_endsPlan_111 : decode cX12_endsPlan 111 = .ok (.iload 5, 2) := by decide +kernel
theorem dX12_endsPlan_113 : decode cX12_endsPlan 113 = .ok (.ior, 1) := by decide +kernel
theorem dX12_endsPlan_114 : decode cX12_endsPlan 114 = .ok (.putfield 271, 3) := by decide +kernel
theorem dX12_endsPlan_117 : decode cX12_endsPlan 117 = .ok (.return_, 1) := by decide +kernel
def r_endsPlan_103 (a5 : Int32) (s1 : Int32) (m : M) : Option (M) :=
  lt (wrF m 76 22 s1) (fun m1 => lt (wrF m1 76 23 ((m1 76 23) ||| a5)) (fun m2 => some m2))
set_option maxRecDepth 20000 in
theorem t_r_endsPlan_103 {G : GG} {x : Cx} (E : En G x cX12_endsPlan "WreckBoardModel" 3 none) (hn : xn x = 6) (a5 : Int32) (s1 : Int32) (m : M) : Sm G x 103 [(0, .ref (G.2.1 76)), (5, .int a5)] [.int s1, .ref (G.2.1 76)] m (r_endsPlan_103 a5 s1 m) KWv := by
  unfold r_endsPlan_103
  refine s_put (k := 22) (T := TX12) (ty := .int) 76 E rfl rfl rfl inX12 tyX12 tyX12_ok nmX12 (by decide) W1261 rfl (by decide +kernel) rfl rfl dX12_endsPlan_103 ?_
  refine s_ltm rfl (fun m1 => ?_)
  refine s_aload_n 0 E dX12_endsPlan_106 rfl rfl ?_
  refine s_dup E dX12_endsPlan_107 rfl ?_
  refine s_geti (k := 23) (T := TX12) 76 E rfl rfl rfl inX12 (by decide) W1262 dX12_endsPlan_108 ?_
  refine s_iload 1 E dX12_endsPlan_111 rfl ?_
  refine s_ior E dX12_endsPlan_113 ?_
  refine s_put (k := 23) (T := TX12) (ty := .int) 76 E rfl rfl rfl inX12 tyX12 tyX12_ok nmX12 (by decide) W1262 rfl (by decide +kernel) rfl rfl dX12_endsPlan_114 ?_
  refine s_ltm rfl (fun m2 => ?_)
  exact s_vret E rfl dX12_endsPlan_117
def r_endsPlan_99 (a5 : Int32) (m : M) : Option (M) :=
  r_endsPlan_103 a5 (m 76 22) m
set_option maxRecDepth 20000 in
theorem t_r_endsPlan_99 {G : GG} {x : Cx} (E : En G x cX12_endsPlan "WreckBoardModel" 3 none) (hn : xn x = 6) (a5 : Int32) (m : M) : Sm G x 99 [(0, .ref (G.2.1 76)), (5, .int a5)] [.ref (G.2.1 76)] m (r_endsPlan_99 a5 m) KWv := by
  unfold r_endsPlan_99
  refine s_aload_n 0 E dX12_endsPlan_99 rfl rfl ?_
  refine s_geti (k := 22) (T := TX12) 76 E rfl rfl rfl inX12 (by decide) W1261 dX12_endsPlan_100 ?_
  exact t_r_endsPlan_103 E hn a5 (m 76 22) m
def r_endsPlan_65 (a3 : Int32) (a4 : Int32) (s1 : Int32) (s2 : Int32) (m : M) : Option (M) :=
  lt (wrF m 76 21 (s1 + s2)) (fun m1 => Option.bind (r_those (4 : Int32) m1) (fun v2 => (if (a4 &&& (v2 ^^^ (-1 : Int32))) = 0 then (if (m1 76 22) ≤ a3 then r_endsPlan_99 v2 m1 else r_endsPlan_103 v2 a3 m1) else r_endsPlan_99 v2 m1)))
set_option maxRecDepth 20000 in
theorem t_r_endsPlan_65 {G : GG} {x : Cx} (E : En G x cX12_endsPlan "WreckBoardModel" 3 none) (hn : xn x = 6) (a3 : Int32) (a4 : Int32) (s1 : Int32) (s2 : Int32) (m : M) : Sm G x 65 [(0, .ref (G.2.1 76)), (3, .int a3), (4, .int a4)] [.int s2, .int s1, .ref (G.2.1 76)] m (r_endsPlan_65 a3 a4 s1 s2 m) KWv := by
  unfold r_endsPlan_65
  refine s_iadd E dX12_endsPlan_65 ?_
  refine s_put (k := 21) (T := TX12) (ty := .int) 76 E rfl rfl rfl inX12 tyX12 tyX12_ok nmX12 (by decide) W1260 rfl (by decide +kernel) rfl rfl dX12_endsPlan_66 ?_
  refine s_ltm rfl (fun m1 => ?_)
  refine s_aload_n 0 E dX12_endsPlan_69 rfl rfl ?_
  refine s_iconst (v := (4 : Int32)) E dX12_endsPlan_70 (by decide) ?_
  refine s_bd (fun v2 hz => ?_)
  refine s_cV (rest := []) E (C_r_those (xl x) G (4 : Int32) m1 hz) mdX12_those W1549 W1551 W58 W103 W1552 rfl rfl rfl rfl (Nat.le_of_ble_eq_true rfl) ⟨by decide, by decide⟩ dX12_endsPlan_71 ?_
  refine s_istore (lv' := [(0, .ref (G.2.1 76)), (3, .int a3), (4, .int a4), (5, .int v2)]) [1, 2, 3, 0] E dX12_endsPlan_74 (by rw [hn]; decide) rfl ?_
  refine s_aload_n 0 E dX12_endsPlan_76 rfl rfl ?_
  refine s_iload 2 E dX12_endsPlan_77 rfl ?_
  refine s_iload 3 E dX12_endsPlan_79 rfl ?_
  refine s_iconst (v := (-1 : Int32)) E dX12_endsPlan_81 (by decide) ?_
  refine s_ixor E dX12_endsPlan_82 ?_
  refine s_iand E dX12_endsPlan_83 ?_
  refine s_if_ne 99 E dX12_endsPlan_84 (by decide) ?_ ?_
  · refine s_sub (lv' := [(0, .ref (G.2.1 76)), (5, .int v2)]) [0, 3] rfl ?_
    exact t_r_endsPlan_99 E hn v2 m1
  · refine s_iload_n 1 E dX12_endsPlan_87 rfl rfl ?_
    refine s_aload_n 0 E dX12_endsPlan_88 rfl rfl ?_
    refine s_geti (k := 22) (T := TX12) 76 E rfl rfl rfl inX12 (by decide) W1261 dX12_endsPlan_89 ?_
    refine s_icmp_ge 99 E dX12_endsPlan_92 (by decide) ?_ ?_
    · refine s_sub (lv' := [(0, .ref (G.2.1 76)), (5, .int v2)]) [0, 3] rfl ?_
      exact t_r_endsPlan_99 E hn v2 m1
    · refine s_iload_n 1 E dX12_endsPlan_95 rfl rfl ?_
      refine s_goto 103 E dX12_endsPlan_96 (by decide) ?_
      refine s_sub (lv' := [(0, .ref (G.2.1 76)), (5, .int v2)]) [0, 3] rfl ?_
      exact t_r_endsPlan_103 E hn v2 a3 m1
def r_endsPlan_47 (a2 : Int32) (a3 : Int32) (a4 : Int32) (m : M) : Option (M) :=
  (if a2 = (m 76 20) then r_endsPlan_65 a3 a4 (m 76 21) (1 : Int32) m else r_endsPlan_65 a3 a4 (m 76 21) (0 : Int32) m)
set_option maxRecDepth 20000 in
theorem t_r_endsPlan_47 {G : GG} {x : Cx} (E : En G x cX12_endsPlan "WreckBoardModel" 3 none) (hn : xn x = 6) (a2 : Int32) (a3 : Int32) (a4 : Int32) (m : M) : Sm G x 47 [(0, .ref (G.2.1 76)), (2, .int a2), (3, .int a3), (4, .int a4)] [] m (r_endsPlan_47 a2 a3 a4 m) KWv := by
  unfold r_endsPlan_47
  refine s_aload_n 0 E dX12_endsPlan_47 rfl rfl ?_
  refine s_dup E dX12_endsPlan_48 rfl ?_
  refine s_geti (k := 21) (T := TX12) 76 E rfl rfl rfl inX12 (by decide) W1260 dX12_endsPlan_49 ?_
  refine s_iload_n 1 E dX12_endsPlan_52 rfl rfl ?_
  refine s_aload_n 0 E dX12_endsPlan_53 rfl rfl ?_
  refine s_geti (k := 20) (T := TX12) 76 E rfl rfl rfl inX12 (by decide) W1259 dX12_endsPlan_54 ?_
  refine s_icmp_ne 64 E dX12_endsPlan_57 (by decide) ?_ ?_
  · refine s_iconst (v := (0 : Int32)) E dX12_endsPlan_64 (by decide) ?_
    refine s_sub (lv' := [(0, .ref (G.2.1 76)), (3, .int a3), (4, .int a4)]) [0, 2, 3] rfl ?_
    exact t_r_endsPlan_65 E hn a3 a4 (m 76 21) (0 : Int32) m
  · refine s_iconst (v := (1 : Int32)) E dX12_endsPlan_60 (by decide) ?_
    refine s_goto 65 E dX12_endsPlan_61 (by decide) ?_
    refine s_sub (lv' := [(0, .ref (G.2.1 76)), (3, .int a3), (4, .int a4)]) [0, 2, 3] rfl ?_
    exact t_r_endsPlan_65 E hn a3 a4 (m 76 21) (1 : Int32) m
def r_endsPlan_21b (a1 : Int32) (a2 : Int32) (a3 : Int32) (a4 : Int32) (a5 : Int32) (m : M) : Option ((Int32 × M) ⊕ ((M))) :=
  (if a1 ≤ a5 then some (.inr m) else Option.bind (rdI m 86 a5) (fun v1 => Option.bind (wrI m 87 a5 v1) (fun m2 => lt (a5 + (1 : Int32)) (fun w3 : Int32 => some (.inl (w3, m2))))))
set_option maxRecDepth 20000 in
theorem t_r_endsPlan_21b {G : GG} {x : Cx} {K : ((Int32 × M) ⊕ ((M))) → Option (Option Value × M)} (E : En G x cX12_endsPlan "WreckBoardModel" 3 none) (hn : xn x = 6) (a1 : Int32) (a2 : Int32) (a3 : Int32) (a4 : Int32) (a5 : Int32) (m : M) (hb : ∀ z : Int32 × M, Sm G x 21 [(0, .ref (G.2.1 76)), (1, .int a1), (2, .int a2), (3, .int a3), (4, .int a4), (5, .int z.1)] [] z.2 (some (.inl z)) K) (hx0 : ∀ z : M, Sm G x 47 [(0, .ref (G.2.1 76)), (2, .int a2), (3, .int a3), (4, .int a4)] [] z (some (.inr z)) K) : Sm G x 21 [(0, .ref (G.2.1 76)), (1, .int a1), (2, .int a2), (3, .int a3), (4, .int a4), (5, .int a5)] [] m (r_endsPlan_21b a1 a2 a3 a4 a5 m) K := by
  unfold r_endsPlan_21b
  refine s_iload 5 E dX12_endsPlan_21 rfl ?_
  refine s_iload_n 1 E dX12_endsPlan_23 rfl rfl ?_
  refine s_icmp_ge 47 E dX12_endsPlan_24 (by decide) ?_ ?_
  · refine s_sub (lv' := [(0, .ref (G.2.1 76)), (2, .int a2), (3, .int a3), (4, .int a4)]) [0, 2, 3, 4] rfl ?_
    exact hx0 m
  · refine s_aload_n 0 E dX12_endsPlan_27 rfl rfl ?_
    refine s_getr (k := 19) (T := TX12) 76 E rfl rfl rfl inX12 (by decide) W1258 dX12_endsPlan_28 ?_
    refine s_iload 5 E dX12_endsPlan_31 rfl ?_
    refine s_aload_n 0 E dX12_endsPlan_33 rfl rfl ?_
    refine s_getr (k := 18) (T := TX12) 76 E rfl rfl rfl inX12 (by decide) W1257 dX12_endsPlan_34 ?_
    refine s_iload 5 E dX12_endsPlan_37 rfl ?_
    refine s_iald E dX12_endsPlan_39 (fun v1 => ?_)
    refine s_iast E dX12_endsPlan_40 (fun m2 => ?_)
    refine s_iincL (v := (1 : Int32)) 5 [1, 2, 3, 4, 5, 0] (fun w3 => [(0, .ref (G.2.1 76)), (1, .int a1), (2, .int a2), (3, .int a3), (4, .int a4), (5, .int w3)]) E dX12_endsPlan_41 rfl (by decide) (by rw [hn]; decide) (fun _ => rfl) (fun w3 => ?_)
    refine s_goto 21 E dX12_endsPlan_44 (by decide) ?_
    exact hb (w3, m2)
def r_endsPlan_21 (a1 : Int32) (a2 : Int32) (a3 : Int32) (a4 : Int32) (a5 : Int32) (m : M) : Option (M) :=
  Option.bind (iter (fun z => r_endsPlan_21b a1 a2 a3 a4 z.1 z.2) FU (a5, m)) (fun r => r_endsPlan_47 a2 a3 a4 r)
set_option maxRecDepth 20000 in
theorem t_r_endsPlan_21 {G : GG} {x : Cx} (E : En G x cX12_endsPlan "WreckBoardModel" 3 none) (hn : xn x = 6) (a1 : Int32) (a2 : Int32) (a3 : Int32) (a4 : Int32) (a5 : Int32) (m : M) : Sm G x 21 [(0, .ref (G.2.1 76)), (1, .int a1), (2, .int a2), (3, .int a3), (4, .int a4), (5, .int a5)] [] m (r_endsPlan_21 a1 a2 a3 a4 a5 m) KWv := by
  unfold r_endsPlan_21
  refine s_loop (fun z => [(0, .ref (G.2.1 76)), (1, .int a1), (2, .int a2), (3, .int a3), (4, .int a4), (5, .int z.1)]) (fun z => z.2) (fun K2 hb2 hr2 z => ?_) FU (a5, m)
  refine t_r_endsPlan_21b (K := K2) E hn a1 a2 a3 a4 z.1 z.2 hb2 (fun r => s_out (hr2 r) ?_)
  · exact t_r_endsPlan_47 E hn a2 a3 a4 r
def r_endsPlan (a1 : Int32) (a2 : Int32) (a3 : Int32) (a4 : Int32) (m : M) : Option (M) :=
  (if a2 ≤ (m 76 20) then r_endsPlan_47 a2 a3 a4 m else lt (wrF m 76 21 (0 : Int32)) (fun m1 => lt (wrF m1 76 20 a2) (fun m2 => r_endsPlan_21 a1 a2 a3 a4 (0 : Int32) m2)))
set_option maxRecDepth 20000 in
theorem t_r_endsPlan {G : GG} {x : Cx} (E : En G x cX12_endsPlan "WreckBoardModel" 3 none) (hn : xn x = 6) (a1 : Int32) (a2 : Int32) (a3 : Int32) (a4 : Int32) (m : M) : Sm G x 0 [(0, .ref (G.2.1 76)), (1, .int a1), (2, .int a2), (3, .int a3), (4, .int a4)] [] m (r_endsPlan a1 a2 a3 a4 m) KWv := by
  unfold r_endsPlan
  refine s_iload_n 2 E dX12_endsPlan_0 rfl rfl ?_
  refine s_aload_n 0 E dX12_endsPlan_1 rfl rfl ?_
  refine s_geti (k := 20) (T := TX12) 76 E rfl rfl rfl inX12 (by decide) W1259 dX12_endsPlan_2 ?_
  refine s_icmp_le 47 E dX12_endsPlan_5 (by decide) ?_ ?_
  · refine s_sub (lv' := [(0, .ref (G.2.1 76)), (2, .int a2), (3, .int a3), (4, .int a4)]) [0, 2, 3, 4] rfl ?_
    exact t_r_endsPlan_47 E hn a2 a3 a4 m
  · refine s_aload_n 0 E dX12_endsPlan_8 rfl rfl ?_
    refine s_iconst (v := (0 : Int32)) E dX12_endsPlan_9 (by decide) ?_
    refine s_put (k := 21) (T := TX12) (ty := .int) 76 E rfl rfl rfl inX12 tyX12 tyX12_ok nmX12 (by decide) W1260 rfl (by decide +kernel) rfl rfl dX12_endsPlan_10 ?_
    refine s_ltm rfl (fun m1 => ?_)
    refine s_aload_n 0 E dX12_endsPlan_13 rfl rfl ?_
    refine s_iload_n 2 E dX12_endsPlan_14 rfl rfl ?_
    refine s_put (k := 20) (T := TX12) (ty := .int) 76 E rfl rfl rfl inX12 tyX12 tyX12_ok nmX12 (by decide) W1259 rfl (by decide +kernel) rfl rfl dX12_endsPlan_15 ?_
    refine s_ltm rfl (fun m2 => ?_)
    refine s_iconst (v := (0 : Int32)) E dX12_endsPlan_18 (by decide) ?_
    refine s_istore (lv' := [(0, .ref (G.2.1 76)), (1, .int a1), (2, .int a2), (3, .int a3), (4, .int a4), (5, .int (0 : Int32))]) [1, 2, 3, 4, 5, 0] E dX12_endsPlan_19 (by rw [hn]; decide) rfl ?_
    exact t_r_endsPlan_21 E hn a1 a2 a3 a4 (0 : Int32) m2
set_option maxRecDepth 20000 in
theorem C_r_endsPlan (l : Launch) (G : GG) (a1 : Int32) (a2 : Int32) (a3 : Int32) (a4 : Int32) (m : M) {z : M} (hz : r_endsPlan a1 a2 a3 a4 m = some z) : Ct l G yX12_endsPlan cX12_endsPlan 6 none 3 [.ref (G.2.1 76), .int a1, .int a2, .int a3, .int a4] m none z :=
  ct_of (K := KWv) (by decide) (Nat.le_of_ble_eq_true rfl) (congrArg (fun q => Option.bind q _) hz) (fun x hl hn E => (t_r_endsPlan E hn a1 a2 a3 a4 m))
theorem mdX12_endsPlan : mdq yX12_endsPlan 4 := ⟨by decide, by decide, by decide +kernel⟩
theorem dX12_goesPlans_0 : decode cX12_goesPlans 0 = .ok (.iload_n 1, 1) := by decide +kernel
theorem dX12_goesPlans_1 : decode cX12_goesPlans 1 = .ok (.iload_n 2, 1) := by decide +kernel
theorem dX12_goesPlans_2 : decode cX12_goesPlans 2 = .ok (.if_icmp .ne 14, 3) := by decide +kernel
theorem dX12_goesPlans_5 : decode cX12_goesPlans 5 = .ok (.aload_n 0, 1) := by decide +kernel
theorem dX12_goesPlans_6 : decode cX12_goesPlans 6 = .ok (.iload_n 2, 1) := by decide +kernel
theorem dX12_goesPlans_7 : decode cX12_goesPlans 7 = .ok (.iload_n 3, 1) := by decide +kernel
theorem dX12_goesPlans_8 : decode cX12_goesPlans 8 = .ok (.iload 4, 2) := by decide +kernel
theorem dX12_goesPlans_10 : decode cX12_goesPlans 10 = .ok (.iload 5, 2) := by decide +kernel
theorem dX12_goesPlans_12 : decode cX12_goesPlans 12 = .ok (.invokevirtual 274, 3) := by decide +kernel
theorem dX12_goesPlans_15 : decode cX12_goesPlans 15 = .ok (.return_, 1) := by decide +kernel
theorem dX12_goesPlans_16 : decode cX12_goesPlans 16 = .ok (.aload_n 0, 1) := by decide +kernel
theorem dX12_goesPlans_17 : decode cX12_goesPlans 17 = .ok (.iload_n 1, 1) := by decide +kernel
theorem dX12_goesPlans_18 : decode cX12_goesPlans 18 = .ok (.invokevirtual 278, 3) := by decide +kernel
theorem dX12_goesPlans_21 : decode cX12_goesPlans 21 = .ok (.iconst 0, 1) := by decide +kernel
theorem dX12_goesPlans_22 : decode cX12_goesPlans 22 = .ok (.istore 6, 2) := by decide +kernel
theorem dX12_goesPlans_24 : decode cX12_goesPlans 24 = .ok (.iload 6, 2) := by decide +kernel
theorem dX12_goesPlans_26 : decode cX12_goesPlans 26 = .ok (.aload_n 0, 1) := by decide +kernel
theorem dX12_goesPlans_27 : decode cX12_goesPlans 27 = .ok (.getfield 9, 3) := by decide +kernel
theorem dX12_goesPlans_30 : decode cX12_goesPlans 30 = .ok (.bipush 6, 2) := by decide +kernel
theorem dX12_goesPlans_32 : decode cX12_goesPlans 32 = .ok (.iaload, 1) := by decide +kernel
theorem dX12_goesPlans_33 : decode cX12_goesPlans 33 = .ok (.if_icmp .gt 58, 3) := by decide +kernel
theorem dX12_goesPlans_36 : decode cX12_goesPlans 36 = .ok (.aload_n 0, 1) := by decide +kernel
theorem dX12_goesPlans_37 : decode cX12_goesPlans 37 = .ok (.getfield 38, 3) := by decide +kernel
theorem dX12_goesPlans_40 : decode cX12_goesPlans 40 = .ok (.iload_n 1, 1) := by decide +kernel
theorem dX12_goesPlans_41 : decode cX12_goesPlans 41 = .ok (.iload 6, 2) := by decide +kernel
theorem dX12_goesPlans_43 : decode cX12_goesPlans 43 = .ok (.iastore, 1) := by decide +kernel
theorem dX12_goesPlans_44 : decode cX12_goesPlans 44 = .ok (.aload_n 0, 1) := by decide +kernel
theorem dX12_goesPlans_45 : decode cX12_goesPlans 45 = .ok (.iload 6, 2) := by decide +kernel
theorem dX12_goesPlans_47 : decode cX12_goesPlans 47 = .ok (.invokevirtual 238, 3) := by decide +kernel
theorem dX12_goesPlans_50 : decode cX12_goesPlans 50 = .ok (.istore 7, 2) := by decide +kernel
theorem dX12_goesPlans_52 : decode cX12_goesPlans 52 = .ok (.aload_n 0, 1) := by decide +kernel
theorem dX12_goesPlans_53 : decode cX12_goesPlans 53 = .ok (.iload_n 1, 1) := by decide +kernel
theorem dX12_goesPlans_54 : decode cX12_goesPlans 54 = .ok (.iconst 1, 1) := by decide +kernel
theorem dX12_goesPlans_55 : decode cX12_goesPlans 55 = .ok (.iadd, 1) := by decide +kernel
theorem dX12_goesPlans_56 : decode cX12_goesPlans 56 = .ok (.iload_n 2, 1) := by decide +kernel
theorem dX12_goesPlans_57 : decode cX12_goesPlans 57 = .ok (.iload_n 3, 1) := by decide +kernel
theorem dX12_goesPlans_58 : decode cX12_goesPlans 58 = .ok (.iload 7, 2) := by decide +kernel
theorem dX12_goesPlans_60 : decode cX12_goesPlans 60 = .ok (.iadd, 1) := by decide +kernel
theorem dX12_goesPlans_61 : decode cX12_goesPlans 61 = .ok (.iload 6, 2) := by decide +kernel
theorem dX12_goesPlans_63 : decode cX12_goesPlans 63 = .ok (.ifCond .le 10, 3) := by decide +kernel
theorem dX12_goesPlans_66 : decode cX12_goesPlans 66 = .ok (.iload 4, 2) := by decide +kernel
theorem dX12_goesPlans_68 : decode cX12_goesPlans 68 = .ok (.iconst 1, 1) := by decide +kernel
theorem dX12_goesPlans_69 : decode cX12_goesPlans 69 = .ok (.iadd, 1) := by decide +kernel
theorem dX12_goesPlans_70 : decode cX12_goesPlans 70 = .ok (.goto 5, 3) := by decide +kernel
theorem dX12_goesPlans_73 : decode cX12_goesPlans 73 = .ok (.iload 4, 2) := by decide +kernel
theorem dX12_goesPlans_75 : decode cX12_goesPlans 75 = .ok (.iload 5, 2) := by decide +kernel
theorem dX12_goesPlans_77 : decode cX12_goesPlans 77 = .ok (.invokevirtual 281, 3) := by decide +kernel
theorem dX12_goesPlans_80 : decode cX12_goesPlans 80 = .ok (.aload_n 0, 1) := by decide +kernel
theorem dX12_goesPlans_81 : decode cX12_goesPlans 81 = .ok (.iload_n 1, 1) := by decide +kernel
theorem dX12_goesPlans_82 : decode cX12_goesPlans 82 = .ok (.invokevirtual 285, 3) := by decide +kernel
theorem dX12_goesPlans_85 : decode cX12_goesPlans 85 = .ok (.iinc 6 1, 3) := by decide +kernel
theorem dX12_goesPlans_88 : decode cX12_goesPlans 88 = .ok (.goto (-64), 3) := by decide +kernel
theorem dX12_goesPlans_91 : decode cX12_goesPlans 91 = .ok (.return_, 1) := by decide +kernel
def r_goesPlans_75 (rec : Int32 → Int32 → Int32 → Int32 → Int32 → M → Option (M)) (a1 : Int32) (a2 : Int32) (a3 : Int32) (a4 : Int32) (a5 : Int32) (a6 : Int32) (s1 : Int32) (s2 : Int32) (s3 : Int32) (s4 : Int32) (m : M) : Option ((Int32 × M) ⊕ ((M))) :=
  Option.bind (rec s1 s2 s3 s4 a5 m) (fun m1 => Option.bind (r_restores a1 m1) (fun m2 => lt (a6 + (1 : Int32)) (fun w3 : Int32 => some (.inl (w3, m2)))))
set_option maxRecDepth 20000 in
theorem t_r_goesPlans_75 {G : GG} {x : Cx} {lv0 : Nat} {K : ((Int32 × M) ⊕ ((M))) → Option (Option Value × M)} (E : En G x cX12_goesPlans "WreckBoardModel" (lv0 + 1) none) (hn : xn x = 8) (rec : Int32 → Int32 → Int32 → Int32 → Int32 → M → Option (M)) (hlb : 8 ≤ lv0) (hrec : ∀ (a1 : Int32) (a2 : Int32) (a3 : Int32) (a4 : Int32) (a5 : Int32) (m : M) (z : M), rec a1 a2 a3 a4 a5 m = some z → Ct (xl x) G yX12_goesPlans cX12_goesPlans 8 none lv0 [.ref (G.2.1 76), .int a1, .int a2, .int a3, .int a4, .int a5] m none z) (a1 : Int32) (a2 : Int32) (a3 : Int32) (a4 : Int32) (a5 : Int32) (a6 : Int32) (s1 : Int32) (s2 : Int32) (s3 : Int32) (s4 : Int32) (m : M) (hb : ∀ z : Int32 × M, Sm G x 24 [(0, .ref (G.2.1 76)), (1, .int a1), (2, .int a2), (3, .int a3), (4, .int a4), (5, .int a5), (6, .int z.1)] [] z.2 (some (.inl z)) K) (hx0 : ∀ z : M, Sm G x 91 [] [] z (some (.inr z)) K) : Sm G x 75 [(0, .ref (G.2.1 76)), (1, .int a1), (2, .int a2), (3, .int a3), (4, .int a4), (5, .int a5), (6, .int a6)] [.int s4, .int s3, .int s2, .int s1, .ref (G.2.1 76)] m (r_goesPlans_75 rec a1 a2 a3 a4 a5 a6 s1 s2 s3 s4 m) K := by
  unfold r_goesPlans_75
  refine s_iload 5 E dX12_goesPlans_75 rfl ?_
  refine s_bd (fun m1 hz => ?_)
  refine s_cV (rest := []) E (hrec s1 s2 s3 s4 a5 m m1 hz) mdX12_goesPlans W1652 W1654 W70 W103 W1655 rfl rfl rfl rfl (Nat.le_of_ble_eq_true rfl) ⟨by omega, by omega⟩ dX12_goesPlans_77 ?_
  refine s_aload_n 0 E dX12_goesPlans_80 rfl rfl ?_
  refine s_iload_n 1 E dX12_goesPlans_81 rfl rfl ?_
  refine s_bd (fun m2 hz => ?_)
  refine s_cV (rest := []) E (C_r_restores (xl x) G a1 m1 hz) mdX12_restores W1664 W1666 W73 W103 W1667 rfl rfl rfl rfl (Nat.le_of_ble_eq_true rfl) ⟨by omega, by omega⟩ dX12_goesPlans_82 ?_
  refine s_iincL (v := (1 : Int32)) 6 [1, 2, 3, 4, 5, 6, 0] (fun w3 => [(0, .ref (G.2.1 76)), (1, .int a1), (2, .int a2), (3, .int a3), (4, .int a4), (5, .int a5), (6, .int w3)]) E dX12_goesPlans_85 rfl (by decide) (by rw [hn]; decide) (fun _ => rfl) (fun w3 => ?_)
  refine s_goto 24 E dX12_goesPlans_88 (by decide) ?_
  exact hb (w3, m2)
def r_goesPlans_24b (rec : Int32 → Int32 → Int32 → Int32 → Int32 → M → Option (M)) (a1 : Int32) (a2 : Int32) (a3 : Int32) (a4 : Int32) (a5 : Int32) (a6 : Int32) (m : M) : Option ((Int32 × M) ⊕ ((M))) :=
  Option.bind (rdI m 77 (6 : Int32)) (fun v1 => (if v1 < a6 then some (.inr m) else Option.bind (wrI m 86 a1 a6) (fun m2 => Option.bind (r_goesBy a6 m2) (fun z3 => (if a6 ≤ 0 then r_goesPlans_75 rec a1 a2 a3 a4 a5 a6 (a1 + (1 : Int32)) a2 (a3 + z3.1) a4 z3.2 else r_goesPlans_75 rec a1 a2 a3 a4 a5 a6 (a1 + (1 : Int32)) a2 (a3 + z3.1) (a4 + (1 : Int32)) z3.2)))))
set_option maxRecDepth 20000 in
theorem t_r_goesPlans_24b {G : GG} {x : Cx} {lv0 : Nat} {K : ((Int32 × M) ⊕ ((M))) → Option (Option Value × M)} (E : En G x cX12_goesPlans "WreckBoardModel" (lv0 + 1) none) (hn : xn x = 8) (rec : Int32 → Int32 → Int32 → Int32 → Int32 → M → Option (M)) (hlb : 8 ≤ lv0) (hrec : ∀ (a1 : Int32) (a2 : Int32) (a3 : Int32) (a4 : Int32) (a5 : Int32) (m : M) (z : M), rec a1 a2 a3 a4 a5 m = some z → Ct (xl x) G yX12_goesPlans cX12_goesPlans 8 none lv0 [.ref (G.2.1 76), .int a1, .int a2, .int a3, .int a4, .int a5] m none z) (a1 : Int32) (a2 : Int32) (a3 : Int32) (a4 : Int32) (a5 : Int32) (a6 : Int32) (m : M) (hb : ∀ z : Int32 × M, Sm G x 24 [(0, .ref (G.2.1 76)), (1, .int a1), (2, .int a2), (3, .int a3), (4, .int a4), (5, .int a5), (6, .int z.1)] [] z.2 (some (.inl z)) K) (hx0 : ∀ z : M, Sm G x 91 [] [] z (some (.inr z)) K) : Sm G x 24 [(0, .ref (G.2.1 76)), (1, .int a1), (2, .int a2), (3, .int a3), (4, .int a4), (5, .int a5), (6, .int a6)] [] m (r_goesPlans_24b rec a1 a2 a3 a4 a5 a6 m) K := by
  unfold r_goesPlans_24b
  refine s_iload 6 E dX12_goesPlans_24 rfl ?_
  refine s_aload_n 0 E dX12_goesPlans_26 rfl rfl ?_
  refine s_getr (k := 0) (T := TX12) 76 E rfl rfl rfl inX12 (by decide) W1239 dX12_goesPlans_27 ?_
  refine s_bipush (v := (6 : Int32)) E dX12_goesPlans_30 (by decide) ?_
  refine s_iald E dX12_goesPlans_32 (fun v1 => ?_)
  refine s_icmp_gt 91 E dX12_goesPlans_33 (by decide) ?_ ?_
  · refine s_sub (lv' := []) [] rfl ?_
    exact hx0 m
  · refine s_aload_n 0 E dX12_goesPlans_36 rfl rfl ?_
    refine s_getr (k := 18) (T := TX12) 76 E rfl rfl rfl inX12 (by decide) W1257 dX12_goesPlans_37 ?_
    refine s_iload_n 1 E dX12_goesPlans_40 rfl rfl ?_
    refine s_iload 6 E dX12_goesPlans_41 rfl ?_
    refine s_iast E dX12_goesPlans_43 (fun m2 => ?_)
    refine s_aload_n 0 E dX12_goesPlans_44 rfl rfl ?_
    refine s_iload 6 E dX12_goesPlans_45 rfl ?_
    refine s_bd (fun z3 hz => ?_)
    refine s_cV (rest := []) E (C_r_goesBy (xl x) G a6 m2 hz) mdX12_goesBy W1557 W1559 W59 W103 W1560 rfl rfl rfl rfl (Nat.le_of_ble_eq_true rfl) ⟨by omega, by omega⟩ dX12_goesPlans_47 ?_
    refine s_istore (lv' := [(0, .ref (G.2.1 76)), (1, .int a1), (2, .int a2), (3, .int a3), (4, .int a4), (5, .int a5), (6, .int a6), (7, .int z3.1)]) [1, 2, 3, 4, 5, 6, 7, 0] E dX12_goesPlans_50 (by rw [hn]; decide) rfl ?_
    refine s_aload_n 0 E dX12_goesPlans_52 rfl rfl ?_
    refine s_iload_n 1 E dX12_goesPlans_53 rfl rfl ?_
    refine s_iconst (v := (1 : Int32)) E dX12_goesPlans_54 (by decide) ?_
    refine s_iadd E dX12_goesPlans_55 ?_
    refine s_iload_n 2 E dX12_goesPlans_56 rfl rfl ?_
    refine s_iload_n 3 E dX12_goesPlans_57 rfl rfl ?_
    refine s_iload 7 E dX12_goesPlans_58 rfl ?_
    refine s_iadd E dX12_goesPlans_60 ?_
    refine s_iload 6 E dX12_goesPlans_61 rfl ?_
    refine s_if_le 73 E dX12_goesPlans_63 (by decide) ?_ ?_
    · refine s_iload 4 E dX12_goesPlans_73 rfl ?_
      refine s_sub (lv' := [(0, .ref (G.2.1 76)), (1, .int a1), (2, .int a2), (3, .int a3), (4, .int a4), (5, .int a5), (6, .int a6)]) [0, 1, 2, 3, 4, 5, 6] rfl ?_
      exact t_r_goesPlans_75 E hn rec hlb hrec a1 a2 a3 a4 a5 a6 (a1 + (1 : Int32)) a2 (a3 + z3.1) a4 z3.2 hb hx0
    · refine s_iload 4 E dX12_goesPlans_66 rfl ?_
      refine s_iconst (v := (1 : Int32)) E dX12_goesPlans_68 (by decide) ?_
      refine s_iadd E dX12_goesPlans_69 ?_
      refine s_goto 75 E dX12_goesPlans_70 (by decide) ?_
      refine s_sub (lv' := [(0, .ref (G.2.1 76)), (1, .int a1), (2, .int a2), (3, .int a3), (4, .int a4), (5, .int a5), (6, .int a6)]) [0, 1, 2, 3, 4, 5, 6] rfl ?_
      exact t_r_goesPlans_75 E hn rec hlb hrec a1 a2 a3 a4 a5 a6 (a1 + (1 : Int32)) a2 (a3 + z3.1) (a4 + (1 : Int32)) z3.2 hb hx0
def r_goesPlans_24 (rec : Int32 → Int32 → Int32 → Int32 → Int32 → M → Option (M)) (a1 : Int32) (a2 : Int32) (a3 : Int32) (a4 : Int32) (a5 : Int32) (a6 : Int32) (m : M) : Option (M) :=
  Option.bind (iter (fun z => r_goesPlans_24b rec a1 a2 a3 a4 a5 z.1 z.2) FU (a6, m)) (fun r => some r)
set_option maxRecDepth 20000 in
theorem t_r_goesPlans_24 {G : GG} {x : Cx} {lv0 : Nat} (E : En G x cX12_goesPlans "WreckBoardModel" (lv0 + 1) none) (hn : xn x = 8) (rec : Int32 → Int32 → Int32 → Int32 → Int32 → M → Option (M)) (hlb : 8 ≤ lv0) (hrec : ∀ (a1 : Int32) (a2 : Int32) (a3 : Int32) (a4 : Int32) (a5 : Int32) (m : M) (z : M), rec a1 a2 a3 a4 a5 m = some z → Ct (xl x) G yX12_goesPlans cX12_goesPlans 8 none lv0 [.ref (G.2.1 76), .int a1, .int a2, .int a3, .int a4, .int a5] m none z) (a1 : Int32) (a2 : Int32) (a3 : Int32) (a4 : Int32) (a5 : Int32) (a6 : Int32) (m : M) : Sm G x 24 [(0, .ref (G.2.1 76)), (1, .int a1), (2, .int a2), (3, .int a3), (4, .int a4), (5, .int a5), (6, .int a6)] [] m (r_goesPlans_24 rec a1 a2 a3 a4 a5 a6 m) KWv := by
  unfold r_goesPlans_24
  refine s_loop (fun z => [(0, .ref (G.2.1 76)), (1, .int a1), (2, .int a2), (3, .int a3), (4, .int a4), (5, .int a5), (6, .int z.1)]) (fun z => z.2) (fun K2 hb2 hr2 z => ?_) FU (a6, m)
  refine t_r_goesPlans_24b (K := K2) E hn rec hlb hrec a1 a2 a3 a4 a5 z.1 z.2 hb2 (fun r => s_out (hr2 r) ?_)
  · exact s_vret E rfl dX12_goesPlans_91
def r_goesPlans (rec : Int32 → Int32 → Int32 → Int32 → Int32 → M → Option (M)) (a1 : Int32) (a2 : Int32) (a3 : Int32) (a4 : Int32) (a5 : Int32) (m : M) : Option (M) :=
  (if a1 = a2 then Option.bind (r_endsPlan a2 a3 a4 a5 m) (fun m2 => some m2) else Option.bind (r_saves a1 m) (fun m1 => r_goesPlans_24 rec a1 a2 a3 a4 a5 (0 : Int32) m1))
set_option maxRecDepth 20000 in
theorem t_r_goesPlans {G : GG} {x : Cx} {lv0 : Nat} (E : En G x cX12_goesPlans "WreckBoardModel" (lv0 + 1) none) (hn : xn x = 8) (rec : Int32 → Int32 → Int32 → Int32 → Int32 → M → Option (M)) (hlb : 8 ≤ lv0) (hrec : ∀ (a1 : Int32) (a2 : Int32) (a3 : Int32) (a4 : Int32) (a5 : Int32) (m : M) (z : M), rec a1 a2 a3 a4 a5 m = some z → Ct (xl x) G yX12_goesPlans cX12_goesPlans 8 none lv0 [.ref (G.2.1 76), .int a1, .int a2, .int a3, .int a4, .int a5] m none z) (a1 : Int32) (a2 : Int32) (a3 : Int32) (a4 : Int32) (a5 : Int32) (m : M) : Sm G x 0 [(0, .ref (G.2.1 76)), (1, .int a1), (2, .int a2), (3, .int a3), (4, .int a4), (5, .int a5)] [] m (r_goesPlans rec a1 a2 a3 a4 a5 m) KWv := by
  unfold r_goesPlans
  refine s_iload_n 1 E dX12_goesPlans_0 rfl rfl ?_
  refine s_iload_n 2 E dX12_goesPlans_1 rfl rfl ?_
  refine s_icmp_ne 16 E dX12_goesPlans_2 (by decide) ?_ ?_
  · refine s_aload_n 0 E dX12_goesPlans_16 rfl rfl ?_
    refine s_iload_n 1 E dX12_goesPlans_17 rfl rfl ?_
    refine s_bd (fun m1 hz => ?_)
    refine s_cV (rest := []) E (C_r_saves (xl x) G a1 m hz) mdX12_saves W1660 W1662 W72 W103 W1663 rfl rfl rfl rfl (Nat.le_of_ble_eq_true rfl) ⟨by omega, by omega⟩ dX12_goesPlans_18 ?_
    refine s_iconst (v := (0 : Int32)) E dX12_goesPlans_21 (by decide) ?_
    refine s_istore (lv' := [(0, .ref (G.2.1 76)), (1, .int a1), (2, .int a2), (3, .int a3), (4, .int a4), (5, .int a5), (6, .int (0 : Int32))]) [1, 2, 3, 4, 5, 6, 0] E dX12_goesPlans_22 (by rw [hn]; decide) rfl ?_
    exact t_r_goesPlans_24 E hn rec hlb hrec a1 a2 a3 a4 a5 (0 : Int32) m1
  · refine s_aload_n 0 E dX12_goesPlans_5 rfl rfl ?_
    refine s_iload_n 2 E dX12_goesPlans_6 rfl rfl ?_
    refine s_iload_n 3 E dX12_goesPlans_7 rfl rfl ?_
    refine s_iload 4 E dX12_goesPlans_8 rfl ?_
    refine s_iload 5 E dX12_goesPlans_10 rfl ?_
    refine s_bd (fun m2 hz => ?_)
    refine s_cV (rest := []) E (C_r_endsPlan (xl x) G a2 a3 a4 a5 m hz) mdX12_endsPlan W1656 W1658 W71 W103 W1659 rfl rfl rfl rfl (Nat.le_of_ble_eq_true rfl) ⟨by omega, by omega⟩ dX12_goesPlans_12 ?_
    exact s_vret E rfl dX12_goesPlans_15
set_option maxRecDepth 20000 in
theorem C_r_goesPlans (l : Launch) (G : GG) (rec : Int32 → Int32 → Int32 → Int32 → Int32 → M → Option (M)) {lv0 : Nat} (hlb : 8 ≤ lv0) (hrec : ∀ (a1 : Int32) (a2 : Int32) (a3 : Int32) (a4 : Int32) (a5 : Int32) (m : M) (z : M), rec a1 a2 a3 a4 a5 m = some z → Ct l G yX12_goesPlans cX12_goesPlans 8 none lv0 [.ref (G.2.1 76), .int a1, .int a2, .int a3, .int a4, .int a5] m none z) (a1 : Int32) (a2 : Int32) (a3 : Int32) (a4 : Int32) (a5 : Int32) (m : M) {z : M} (hz : r_goesPlans rec a1 a2 a3 a4 a5 m = some z) : Ct l G yX12_goesPlans cX12_goesPlans 8 none (lv0 + 1) [.ref (G.2.1 76), .int a1, .int a2, .int a3, .int a4, .int a5] m none z :=
  ct_of (K := KWv) (by decide) (Nat.le_of_ble_eq_true rfl) (congrArg (fun q => Option.bind q _) hz) (fun x hl hn E => (t_r_goesPlans E hn rec hlb (by rw [hl]; exact hrec) a1 a2 a3 a4 a5 m))
def r_goesPlans_d : Nat → Int32 → Int32 → Int32 → Int32 → Int32 → M → Option (M)
  | 0 => fun _ _ _ _ _ _ => none
  | d + 1 => fun a1 a2 a3 a4 a5 m => r_goesPlans (r_goesPlans_d d) a1 a2 a3 a4 a5 m
theorem C_r_goesPlans_d (l : Launch) (G : GG) : ∀ (d : Nat) (a1 : Int32) (a2 : Int32) (a3 : Int32) (a4 : Int32) (a5 : Int32) (m : M) {z : M}, r_goesPlans_d d a1 a2 a3 a4 a5 m = some z → Ct l G yX12_goesPlans cX12_goesPlans 8 none (8 + 1 * d) [.ref (G.2.1 76), .int a1, .int a2, .int a3, .int a4, .int a5] m none z := by
  intro d
  induction d with
  | zero => intro a1 a2 a3 a4 a5 m z hz; cases hz
  | succ d ih =>
    intro a1 a2 a3 a4 a5 m z hz
    exact C_r_goesPlans l G (r_goesPlans_d d) (lv0 := 8 + 1 * d) (by omega) (fun a1 a2 a3 a4 a5 m z h => ih a1 a2 a3 a4 a5 m h) a1 a2 a3 a4 a5 m hz
theorem dX12_triesAll_0 : decode cX12_triesAll 0 = .ok (.aload_n 0, 1) := by decide +kernel
theorem dX12_triesAll_1 : decode cX12_triesAll 1 = .ok (.iconst (-1), 1) := by decide +kernel
theorem dX12_triesAll_2 : decode cX12_triesAll 2 = .ok (.putfield 262, 3) := by decide +kernel
theorem dX12_triesAll_5 : decode cX12_triesAll 5 = .ok (.aload_n 0, 1) := by decide +kernel
theorem dX12_triesAll_6 : decode cX12_triesAll 6 = .ok (.iconst 0, 1) := by decide +kernel
theorem dX12_triesAll_7 : decode cX12_triesAll 7 = .ok (.putfield 265, 3) := by decide +kernel
theorem dX12_triesAll_10 : decode cX12_triesAll 10 = .ok (.aload_n 0, 1) := by decide +kernel
theorem dX12_triesAll_11 : decode cX12_triesAll 11 = .ok (.iconst 5, 1) := by decide +kernel
theorem dX12_triesAll_12 : decode cX12_triesAll 12 = .ok (.putfield 268, 3) := by decide +kernel
theorem dX12_triesAll_15 : decode cX12_triesAll 15 = .ok (.aload_n 0, 1) := by decide +kernel
theorem dX12_triesAll_16 : decode cX12_triesAll 16 = .ok (.iconst 0, 1) := by decide +kernel
theorem dX12_triesAll_17 : decode cX12_triesAll 17 = .ok (.putfield 271, 3) := by decide +kernel
theorem dX12_triesAll_20 : decode cX12_triesAll 20 = .ok (.aload_n 0, 1) := by decide +kernel
theorem dX12_triesAll_21 : decode cX12_triesAll 21 = .ok (.iconst 0, 1) := by decide +kernel
theorem dX12_triesAll_22 : decode cX12_triesAll 22 = .ok (.aload_n 0, 1) := by decide +kernel
theorem dX12_triesAll_23 : decode cX12_triesAll 23 = .ok (.iload_n 1, 1) := by decide +kernel
theorem dX12_triesAll_24 : decode cX12_triesAll 24 = .ok (.invokevirtual 288, 3) := by decide +kernel
theorem dX12_triesAll_27 : decode cX12_triesAll 27 = .ok (.iconst 0, 1) := by decide +kernel
theorem dX12_triesAll_28 : decode cX12_triesAll 28 = .ok (.iconst 0, 1) := by decide +kernel
theorem dX12_triesAll_29 : decode cX12_triesAll 29 = .ok (.iload_n 2, 1) := by decide +kernel
theorem dX12_triesAll_30 : decode cX12_triesAll 30 = .ok (.invokevirtual 281, 3) := by decide +kernel
theorem dX12_triesAll_33 : decode cX12_triesAll 33 = .ok (.return_, 1) := by decide +kernel
def r_triesAll (a1 : Int32) (a2 : Int32) (m : M) : Option (M) :=
  lt (wrF m 76 20 (-1 : Int32)) (fun m1 => lt (wrF m1 76 21 (0 : Int32)) (fun m2 => lt (wrF m2 76 22 (5 : Int32)) (fun m3 => lt (wrF m3 76 23 (0 : Int32)) (fun m4 => Option.bind (r_daysOf a1 m4) (fun v5 => Option.bind (r_goesPlans_d 8 (0 : Int32) v5 (0 : Int32) (0 : Int32) a2 m4) (fun m6 => some m6))))))
set_option maxRecDepth 20000 in
theorem t_r_triesAll {G : GG} {x : Cx} (E : En G x cX12_triesAll "WreckBoardModel" 17 none) (hn : xn x = 3) (a1 : Int32) (a2 : Int32) (m : M) : Sm G x 0 [(0, .ref (G.2.1 76)), (1, .int a1), (2, .int a2)] [] m (r_triesAll a1 a2 m) KWv := by
  unfold r_triesAll
  refine s_aload_n 0 E dX12_triesAll_0 rfl rfl ?_
  refine s_iconst (v := (-1 : Int32)) E dX12_triesAll_1 (by decide) ?_
  refine s_put (k := 20) (T := TX12) (ty := .int) 76 E rfl rfl rfl inX12 tyX12 tyX12_ok nmX12 (by decide) W1259 rfl (by decide +kernel) rfl rfl dX12_triesAll_2 ?_
  refine s_ltm rfl (fun m1 => ?_)
  refine s_aload_n 0 E dX12_triesAll_5 rfl rfl ?_
  refine s_iconst (v := (0 : Int32)) E dX12_triesAll_6 (by decide) ?_
  refine s_put (k := 21) (T := TX12) (ty := .int) 76 E rfl rfl rfl inX12 tyX12 tyX12_ok nmX12 (by decide) W1260 rfl (by decide +kernel) rfl rfl dX12_triesAll_7 ?_
  refine s_ltm rfl (fun m2 => ?_)
  refine s_aload_n 0 E dX12_triesAll_10 rfl rfl ?_
  refine s_iconst (v := (5 : Int32)) E dX12_triesAll_11 (by decide) ?_
  refine s_put (k := 22) (T := TX12) (ty := .int) 76 E rfl rfl rfl inX12 tyX12 tyX12_ok nmX12 (by decide) W1261 rfl (by decide +kernel) rfl rfl dX12_triesAll_12 ?_
  refine s_ltm rfl (fun m3 => ?_)
  refine s_aload_n 0 E dX12_triesAll_15 rfl rfl ?_
  refine s_iconst (v := (0 : Int32)) E dX12_triesAll_16 (by decide) ?_
  refine s_put (k := 23) (T := TX12) (ty := .int) 76 E rfl rfl rfl inX12 tyX12 tyX12_ok nmX12 (by decide) W1262 rfl (by decide +kernel) rfl rfl dX12_triesAll_17 ?_
  refine s_ltm rfl (fun m4 => ?_)
  refine s_aload_n 0 E dX12_triesAll_20 rfl rfl ?_
  refine s_iconst (v := (0 : Int32)) E dX12_triesAll_21 (by decide) ?_
  refine s_aload_n 0 E dX12_triesAll_22 rfl rfl ?_
  refine s_iload_n 1 E dX12_triesAll_23 rfl rfl ?_
  refine s_bd (fun v5 hz => ?_)
  refine s_cV (rest := [.int (0 : Int32), .ref (G.2.1 76)]) E (C_r_daysOf (xl x) G a1 m4 hz) mdX12_daysOf W1648 W1650 W69 W103 W1651 rfl rfl rfl rfl (Nat.le_of_ble_eq_true rfl) ⟨by decide, by decide⟩ dX12_triesAll_24 ?_
  refine s_iconst (v := (0 : Int32)) E dX12_triesAll_27 (by decide) ?_
  refine s_iconst (v := (0 : Int32)) E dX12_triesAll_28 (by decide) ?_
  refine s_iload_n 2 E dX12_triesAll_29 rfl rfl ?_
  refine s_bd (fun m6 hz => ?_)
  refine s_cV (rest := []) E (C_r_goesPlans_d (xl x) G 8 (0 : Int32) v5 (0 : Int32) (0 : Int32) a2 m4 hz) mdX12_goesPlans W1652 W1654 W70 W103 W1655 rfl rfl rfl rfl (Nat.le_of_ble_eq_true rfl) ⟨by decide, by decide⟩ dX12_triesAll_30 ?_
  exact s_vret E rfl dX12_triesAll_33
set_option maxRecDepth 20000 in
theorem C_r_triesAll (l : Launch) (G : GG) (a1 : Int32) (a2 : Int32) (m : M) {z : M} (hz : r_triesAll a1 a2 m = some z) : Ct l G yX12_triesAll cX12_triesAll 3 none 17 [.ref (G.2.1 76), .int a1, .int a2] m none z :=
  ct_of (K := KWv) (by decide) (Nat.le_of_ble_eq_true rfl) (congrArg (fun q => Option.bind q _) hz) (fun x hl hn E => (t_r_triesAll E hn a1 a2 m))
theorem mdX12_triesAll : mdq yX12_triesAll 2 := ⟨by decide, by decide, by decide +kernel⟩
theorem dX12_best_0 : decode cX12_best 0 = .ok (.iload_n 1, 1) := by decide +kernel
theorem dX12_best_1 : decode cX12_best 1 = .ok (.invokestatic 291, 3) := by decide +kernel
theorem dX12_best_4 : decode cX12_best 4 = .ok (.ifCond .ne 5, 3) := by decide +kernel
theorem dX12_best_7 : decode cX12_best 7 = .ok (.iconst (-1), 1) := by decide +kernel
theorem dX12_best_8 : decode cX12_best 8 = .ok (.ireturn, 1) := by decide +kernel
theorem dX12_best_9 : decode cX12_best 9 = .ok (.aload_n 0, 1) := by decide +kernel
theorem dX12_best_10 : decode cX12_best 10 = .ok (.iload_n 1, 1) := by decide +kernel
theorem dX12_best_11 : decode cX12_best 11 = .ok (.iconst 0, 1) := by decide +kernel
theorem dX12_best_12 : decode cX12_best 12 = .ok (.invokevirtual 294, 3) := by decide +kernel
theorem dX12_best_15 : decode cX12_best 15 = .ok (.aload_n 0, 1) := by decide +kernel
theorem dX12_best_16 : decode cX12_best 16 = .ok (.getfield 262, 3) := by decide +kernel
theorem dX12_best_19 : decode cX12_best 19 = .ok (.ireturn, 1) := by decide +kernel
def r_best (a1 : Int32) (m : M) : Option (Int32 × M) :=
  Option.bind (r_isPlan a1 m) (fun v1 => (if v1 = 0 then some ((-1 : Int32), m) else Option.bind (r_triesAll a1 (0 : Int32) m) (fun m2 => some ((m2 76 20), m2))))
set_option maxRecDepth 20000 in
theorem t_r_best {G : GG} {x : Cx} (E : En G x cX12_best "WreckBoardModel" 18 (some .int)) (hn : xn x = 2) (a1 : Int32) (m : M) : Sm G x 0 [(0, .ref (G.2.1 76)), (1, .int a1)] [] m (r_best a1 m) KWi := by
  unfold r_best
  refine s_iload_n 1 E dX12_best_0 rfl rfl ?_
  refine s_bd (fun v1 hz => ?_)
  refine s_cS (rest := []) E (C_r_isPlan (xl x) G a1 m hz) mdX12_isPlan W1641 W1642 W103 W1643 rfl rfl (Nat.le_of_ble_eq_true rfl) ⟨by decide, by decide⟩ dX12_best_1 ?_
  refine s_if_ne 9 E dX12_best_4 (by decide) ?_ ?_
  · refine s_aload_n 0 E dX12_best_9 rfl rfl ?_
    refine s_iload_n 1 E dX12_best_10 rfl rfl ?_
    refine s_iconst (v := (0 : Int32)) E dX12_best_11 (by decide) ?_
    refine s_bd (fun m2 hz => ?_)
    refine s_cV (rest := []) E (C_r_triesAll (xl x) G a1 (0 : Int32) m hz) mdX12_triesAll W1644 W1646 W68 W103 W1647 rfl rfl rfl rfl (Nat.le_of_ble_eq_true rfl) ⟨by decide, by decide⟩ dX12_best_12 ?_
    refine s_aload_n 0 E dX12_best_15 rfl rfl ?_
    refine s_geti (k := 20) (T := TX12) 76 E rfl rfl rfl inX12 (by decide) W1259 dX12_best_16 ?_
    exact s_iret E rfl dX12_best_19
  · refine s_iconst (v := (-1 : Int32)) E dX12_best_7 (by decide) ?_
    exact s_iret E rfl dX12_best_8
set_option maxRecDepth 20000 in
theorem C_r_best (l : Launch) (G : GG) (a1 : Int32) (m : M) {z : Int32 × M} (hz : r_best a1 m = some z) : Ct l G yX12_best cX12_best 2 (some .int) 18 [.ref (G.2.1 76), .int a1] m (some (.int z.1)) z.2 :=
  ct_of (K := KWi) (by decide) (Nat.le_of_ble_eq_true rfl) (congrArg (fun q => Option.bind q _) hz) (fun x hl hn E => (t_r_best E hn a1 m))
theorem dX12_ith_0 : decode cX12_ith 0 = .ok (.iload_n 1, 1) := by decide +kernel
theorem dX12_ith_1 : decode cX12_ith 1 = .ok (.invokestatic 291, 3) := by decide +kernel
theorem dX12_ith_4 : decode cX12_ith 4 = .ok (.ifCond .eq 12, 3) := by decide +kernel
theorem dX12_ith_7 : decode cX12_ith 7 = .ok (.iload_n 2, 1) := by decide +kernel
theorem dX12_ith_8 : decode cX12_ith 8 = .ok (.iconst 0, 1) := by decide +kernel
theorem dX12_ith_9 : decode cX12_ith 9 = .ok (.iconst 3, 1) := by decide +kernel
theorem dX12_ith_10 : decode cX12_ith 10 = .ok (.invokestatic 71, 3) := by decide +kernel
theorem dX12_ith_13 : decode cX12_ith 13 = .ok (.ifCond .ne 5, 3) := by decide +kernel
theorem dX12_ith_16 : decode cX12_ith 16 = .ok (.iconst (-1), 1) := by decide +kernel
theorem dX12_ith_17 : decode cX12_ith 17 = .ok (.ireturn, 1) := by decide +kernel
theorem dX12_ith_18 : decode cX12_ith 18 = .ok (.aload_n 0, 1) := by decide +kernel
theorem dX12_ith_19 : decode cX12_ith 19 = .ok (.iload_n 1, 1) := by decide +kernel
theorem dX12_ith_20 : decode cX12_ith 20 = .ok (.iconst 0, 1) := by decide +kernel
theorem dX12_ith_21 : decode cX12_ith 21 = .ok (.invokevirtual 294, 3) := by decide +kernel
theorem dX12_ith_24 : decode cX12_ith 24 = .ok (.iload_n 2, 1) := by decide +kernel
theorem dX12_ith_25 : decode cX12_ith 25 = .ok (.aload_n 0, 1) := by decide +kernel
theorem dX12_ith_26 : decode cX12_ith 26 = .ok (.iload_n 1, 1) := by decide +kernel
theorem dX12_ith_27 : decode cX12_ith 27 = .ok (.invokevirtual 288, 3) := by decide +kernel
theorem dX12_ith_30 : decode cX12_ith 30 = .ok (.if_icmp .ge 12, 3) := by decide +kernel
theorem dX12_ith_33 : decode cX12_ith 33 = .ok (.aload_n 0, 1) := by decide +kernel
theorem dX12_ith_34 : decode cX12_ith 34 = .ok (.getfield 41, 3) := by decide +kernel
theorem dX12_ith_37 : decode cX12_ith 37 = .ok (.iload_n 2, 1) := by decide +kernel
theorem dX12_ith_38 : decode cX12_ith 38 = .ok (.iaload, 1) := by decide +kernel
theorem dX12_ith_39 : decode cX12_ith 39 = .ok (.goto 5, 3) := by decide +kernel
theorem dX12_ith_42 : decode cX12_ith 42 = .ok (.bipush (-3), 2) := by decide +kernel
theorem dX12_ith_44 : decode cX12_ith 44 = .ok (.ireturn, 1) := by decide +kernel
def r_ith (a1 : Int32) (a2 : Int32) (m : M) : Option (Int32 × M) :=
  Option.bind (r_isPlan a1 m) (fun v1 => (if v1 = 0 then some ((-1 : Int32), m) else Option.bind (r_in1 a2 (0 : Int32) (3 : Int32) m) (fun v2 => (if v2 = 0 then some ((-1 : Int32), m) else Option.bind (r_triesAll a1 (0 : Int32) m) (fun m3 => Option.bind (r_daysOf a1 m3) (fun v4 => (if v4 ≤ a2 then some ((-3 : Int32), m3) else Option.bind (rdI m3 87 a2) (fun v5 => some (v5, m3)))))))))
set_option maxRecDepth 20000 in
theorem t_r_ith {G : GG} {x : Cx} (E : En G x cX12_ith "WreckBoardModel" 18 (some .int)) (hn : xn x = 3) (a1 : Int32) (a2 : Int32) (m : M) : Sm G x 0 [(0, .ref (G.2.1 76)), (1, .int a1), (2, .int a2)] [] m (r_ith a1 a2 m) KWi := by
  unfold r_ith
  refine s_iload_n 1 E dX12_ith_0 rfl rfl ?_
  refine s_bd (fun v1 hz => ?_)
  refine s_cS (rest := []) E (C_r_isPlan (xl x) G a1 m hz) mdX12_isPlan W1641 W1642 W103 W1643 rfl rfl (Nat.le_of_ble_eq_true rfl) ⟨by decide, by decide⟩ dX12_ith_1 ?_
  refine s_if_eq 16 E dX12_ith_4 (by decide) ?_ ?_
  · refine s_iconst (v := (-1 : Int32)) E dX12_ith_16 (by decide) ?_
    exact s_iret E rfl dX12_ith_17
  · refine s_iload_n 2 E dX12_ith_7 rfl rfl ?_
    refine s_iconst (v := (0 : Int32)) E dX12_ith_8 (by decide) ?_
    refine s_iconst (v := (3 : Int32)) E dX12_ith_9 (by decide) ?_
    refine s_bd (fun v2 hz => ?_)
    refine s_cS (rest := []) E (C_r_in1 (xl x) G a2 (0 : Int32) (3 : Int32) m hz) mdX12_in1 W1359 W1360 W103 W1361 rfl rfl (Nat.le_of_ble_eq_true rfl) ⟨by decide, by decide⟩ dX12_ith_10 ?_
    refine s_if_ne 18 E dX12_ith_13 (by decide) ?_ ?_
    · refine s_aload_n 0 E dX12_ith_18 rfl rfl ?_
      refine s_iload_n 1 E dX12_ith_19 rfl rfl ?_
      refine s_iconst (v := (0 : Int32)) E dX12_ith_20 (by decide) ?_
      refine s_bd (fun m3 hz => ?_)
      refine s_cV (rest := []) E (C_r_triesAll (xl x) G a1 (0 : Int32) m hz) mdX12_triesAll W1644 W1646 W68 W103 W1647 rfl rfl rfl rfl (Nat.le_of_ble_eq_true rfl) ⟨by decide, by decide⟩ dX12_ith_21 ?_
      refine s_iload_n 2 E dX12_ith_24 rfl rfl ?_
      refine s_aload_n 0 E dX12_ith_25 rfl rfl ?_
      refine s_iload_n 1 E dX12_ith_26 rfl rfl ?_
      refine s_bd (fun v4 hz => ?_)
      refine s_cV (rest := [.int a2]) E (C_r_daysOf (xl x) G a1 m3 hz) mdX12_daysOf W1648 W1650 W69 W103 W1651 rfl rfl rfl rfl (Nat.le_of_ble_eq_true rfl) ⟨by decide, by decide⟩ dX12_ith_27 ?_
      refine s_icmp_ge 42 E dX12_ith_30 (by decide) ?_ ?_
      · refine s_bipush (v := (-3 : Int32)) E dX12_ith_42 (by decide) ?_
        exact s_iret E rfl dX12_ith_44
      · refine s_aload_n 0 E dX12_ith_33 rfl rfl ?_
        refine s_getr (k := 19) (T := TX12) 76 E rfl rfl rfl inX12 (by decide) W1258 dX12_ith_34 ?_
        refine s_iload_n 2 E dX12_ith_37 rfl rfl ?_
        refine s_iald E dX12_ith_38 (fun v5 => ?_)
        refine s_goto 44 E dX12_ith_39 (by decide) ?_
        exact s_iret E rfl dX12_ith_44
    · refine s_iconst (v := (-1 : Int32)) E dX12_ith_16 (by decide) ?_
      exact s_iret E rfl dX12_ith_17
set_option maxRecDepth 20000 in
theorem C_r_ith (l : Launch) (G : GG) (a1 : Int32) (a2 : Int32) (m : M) {z : Int32 × M} (hz : r_ith a1 a2 m = some z) : Ct l G yX12_ith cX12_ith 3 (some .int) 18 [.ref (G.2.1 76), .int a1, .int a2] m (some (.int z.1)) z.2 :=
  ct_of (K := KWi) (by decide) (Nat.le_of_ble_eq_true rfl) (congrArg (fun q => Option.bind q _) hz) (fun x hl hn E => (t_r_ith E hn a1 a2 m))
theorem dX12_ways_0 : decode cX12_ways 0 = .ok (.iload_n 1, 1) := by decide +kernel
theorem dX12_ways_1 : decode cX12_ways 1 = .ok (.invokestatic 291, 3) := by decide +kernel
theorem dX12_ways_4 : decode cX12_ways 4 = .ok (.ifCond .ne 5, 3) := by decide +kernel
theorem dX12_ways_7 : decode cX12_ways 7 = .ok (.iconst (-1), 1) := by decide +kernel
theorem dX12_ways_8 : decode cX12_ways 8 = .ok (.ireturn, 1) := by decide +kernel
theorem dX12_ways_9 : decode cX12_ways 9 = .ok (.aload_n 0, 1) := by decide +kernel
theorem dX12_ways_10 : decode cX12_ways 10 = .ok (.iload_n 1, 1) := by decide +kernel
theorem dX12_ways_11 : decode cX12_ways 11 = .ok (.iconst 0, 1) := by decide +kernel
theorem dX12_ways_12 : decode cX12_ways 12 = .ok (.invokevirtual 294, 3) := by decide +kernel
theorem dX12_ways_15 : decode cX12_ways 15 = .ok (.aload_n 0, 1) := by decide +kernel
theorem dX12_ways_16 : decode cX12_ways 16 = .ok (.getfield 265, 3) := by decide +kernel
theorem dX12_ways_19 : decode cX12_ways 19 = .ok (.ireturn, 1) := by decide +kernel
def r_ways (a1 : Int32) (m : M) : Option (Int32 × M) :=
  Option.bind (r_isPlan a1 m) (fun v1 => (if v1 = 0 then some ((-1 : Int32), m) else Option.bind (r_triesAll a1 (0 : Int32) m) (fun m2 => some ((m2 76 21), m2))))
set_option maxRecDepth 20000 in
theorem t_r_ways {G : GG} {x : Cx} (E : En G x cX12_ways "WreckBoardModel" 18 (some .int)) (hn : xn x = 2) (a1 : Int32) (m : M) : Sm G x 0 [(0, .ref (G.2.1 76)), (1, .int a1)] [] m (r_ways a1 m) KWi := by
  unfold r_ways
  refine s_iload_n 1 E dX12_ways_0 rfl rfl ?_
  refine s_bd (fun v1 hz => ?_)
  refine s_cS (rest := []) E (C_r_isPlan (xl x) G a1 m hz) mdX12_isPlan W1641 W1642 W103 W1643 rfl rfl (Nat.le_of_ble_eq_true rfl) ⟨by decide, by decide⟩ dX12_ways_1 ?_
  refine s_if_ne 9 E dX12_ways_4 (by decide) ?_ ?_
  · refine s_aload_n 0 E dX12_ways_9 rfl rfl ?_
    refine s_iload_n 1 E dX12_ways_10 rfl rfl ?_
    refine s_iconst (v := (0 : Int32)) E dX12_ways_11 (by decide) ?_
    refine s_bd (fun m2 hz => ?_)
    refine s_cV (rest := []) E (C_r_triesAll (xl x) G a1 (0 : Int32) m hz) mdX12_triesAll W1644 W1646 W68 W103 W1647 rfl rfl rfl rfl (Nat.le_of_ble_eq_true rfl) ⟨by decide, by decide⟩ dX12_ways_12 ?_
    refine s_aload_n 0 E dX12_ways_15 rfl rfl ?_
    refine s_geti (k := 21) (T := TX12) 76 E rfl rfl rfl inX12 (by decide) W1260 dX12_ways_16 ?_
    exact s_iret E rfl dX12_ways_19
  · refine s_iconst (v := (-1 : Int32)) E dX12_ways_7 (by decide) ?_
    exact s_iret E rfl dX12_ways_8
set_option maxRecDepth 20000 in
theorem C_r_ways (l : Launch) (G : GG) (a1 : Int32) (m : M) {z : Int32 × M} (hz : r_ways a1 m = some z) : Ct l G yX12_ways cX12_ways 2 (some .int) 18 [.ref (G.2.1 76), .int a1] m (some (.int z.1)) z.2 :=
  ct_of (K := KWi) (by decide) (Nat.le_of_ble_eq_true rfl) (congrArg (fun q => Option.bind q _) hz) (fun x hl hn E => (t_r_ways E hn a1 m))
theorem dX12_isSet_0 : decode cX12_isSet 0 = .ok (.iload_n 1, 1) := by decide +kernel
theorem dX12_isSet_1 : decode cX12_isSet 1 = .ok (.iconst 0, 1) := by decide +kernel
theorem dX12_isSet_2 : decode cX12_isSet 2 = .ok (.iconst 1, 1) := by decide +kernel
theorem dX12_isSet_3 : decode cX12_isSet 3 = .ok (.aload_n 0, 1) := by decide +kernel
theorem dX12_isSet_4 : decode cX12_isSet 4 = .ok (.getfield 9, 3) := by decide +kernel
theorem dX12_isSet_7 : decode cX12_isSet 7 = .ok (.bipush 6, 2) := by decide +kernel
theorem dX12_isSet_9 : decode cX12_isSet 9 = .ok (.iaload, 1) := by decide +kernel
theorem dX12_isSet_10 : decode cX12_isSet 10 = .ok (.ishl, 1) := by decide +kernel
theorem dX12_isSet_11 : decode cX12_isSet 11 = .ok (.iconst 1, 1) := by decide +kernel
theorem dX12_isSet_12 : decode cX12_isSet 12 = .ok (.isub, 1) := by decide +kernel
theorem dX12_isSet_13 : decode cX12_isSet 13 = .ok (.invokestatic 71, 3) := by decide +kernel
theorem dX12_isSet_16 : decode cX12_isSet 16 = .ok (.ireturn, 1) := by decide +kernel
def r_isSet (a1 : Int32) (m : M) : Option (Int32) :=
  Option.bind (rdI m 77 (6 : Int32)) (fun v1 => Option.bind (r_in1 a1 (0 : Int32) (((1 : Int32) <<< (v1 &&& 31)) - (1 : Int32)) m) (fun v2 => some (v2 &&& 1)))
set_option maxRecDepth 20000 in
theorem t_r_isSet {G : GG} {x : Cx} (E : En G x cX12_isSet "WreckBoardModel" 2 (some .boolean)) (hn : xn x = 2) (a1 : Int32) (m : M) : Sm G x 0 [(0, .ref (G.2.1 76)), (1, .int a1)] [] m (r_isSet a1 m) (KRi m) := by
  unfold r_isSet
  refine s_iload_n 1 E dX12_isSet_0 rfl rfl ?_
  refine s_iconst (v := (0 : Int32)) E dX12_isSet_1 (by decide) ?_
  refine s_iconst (v := (1 : Int32)) E dX12_isSet_2 (by decide) ?_
  refine s_aload_n 0 E dX12_isSet_3 rfl rfl ?_
  refine s_getr (k := 0) (T := TX12) 76 E rfl rfl rfl inX12 (by decide) W1239 dX12_isSet_4 ?_
  refine s_bipush (v := (6 : Int32)) E dX12_isSet_7 (by decide) ?_
  refine s_iald E dX12_isSet_9 (fun v1 => ?_)
  refine s_ishl E dX12_isSet_10 ?_
  refine s_iconst (v := (1 : Int32)) E dX12_isSet_11 (by decide) ?_
  refine s_isub E dX12_isSet_12 ?_
  refine s_bd (fun v2 hz => ?_)
  refine s_cS (rest := []) E (C_r_in1 (xl x) G a1 (0 : Int32) (((1 : Int32) <<< (v1 &&& 31)) - (1 : Int32)) m hz) mdX12_in1 W1359 W1360 W103 W1361 rfl rfl (Nat.le_of_ble_eq_true rfl) ⟨by decide, by decide⟩ dX12_isSet_13 ?_
  exact s_zretN E rfl dX12_isSet_16
set_option maxRecDepth 20000 in
theorem C_r_isSet (l : Launch) (G : GG) (a1 : Int32) (m : M) {z : Int32} (hz : r_isSet a1 m = some z) : Ct l G yX12_isSet cX12_isSet 2 (some .boolean) 2 [.ref (G.2.1 76), .int a1] m (some (.int z)) m :=
  ct_of (K := (KRi m)) (by decide) (Nat.le_of_ble_eq_true rfl) (congrArg (fun q => Option.bind q _) hz) (fun x hl hn E => (t_r_isSet E hn a1 m))
theorem mdX12_isSet : mdq yX12_isSet 1 := ⟨by decide, by decide, by decide +kernel⟩
theorem dX12_agenda_0 : decode cX12_agenda 0 = .ok (.iload_n 1, 1) := by decide +kernel
theorem dX12_agenda_1 : decode cX12_agenda 1 = .ok (.invokestatic 291, 3) := by decide +kernel
theorem dX12_agenda_4 : decode cX12_agenda 4 = .ok (.ifCond .eq 11, 3) := by decide +kernel
theorem dX12_agenda_7 : decode cX12_agenda 7 = .ok (.aload_n 0, 1) := by decide +kernel
theorem dX12_agenda_8 : decode cX12_agenda 8 = .ok (.iload_n 2, 1) := by decide +kernel
theorem dX12_agenda_9 : decode cX12_agenda 9 = .ok (.invokevirtual 298, 3) := by decide +kernel
theorem dX12_agenda_12 : decode cX12_agenda 12 = .ok (.ifCond .ne 5, 3) := by decide +kernel
theorem dX12_agenda_15 : decode cX12_agenda 15 = .ok (.iconst (-1), 1) := by decide +kernel
theorem dX12_agenda_16 : decode cX12_agenda 16 = .ok (.ireturn, 1) := by decide +kernel
theorem dX12_agenda_17 : decode cX12_agenda 17 = .ok (.aload_n 0, 1) := by decide +kernel
theorem dX12_agenda_18 : decode cX12_agenda 18 = .ok (.iload_n 1, 1) := by decide +kernel
theorem dX12_agenda_19 : decode cX12_agenda 19 = .ok (.iload_n 2, 1) := by decide +kernel
theorem dX12_agenda_20 : decode cX12_agenda 20 = .ok (.invokevirtual 294, 3) := by decide +kernel
theorem dX12_agenda_23 : decode cX12_agenda 23 = .ok (.aload_n 0, 1) := by decide +kernel
theorem dX12_agenda_24 : decode cX12_agenda 24 = .ok (.getfield 268, 3) := by decide +kernel
theorem dX12_agenda_27 : decode cX12_agenda 27 = .ok (.iconst 4, 1) := by decide +kernel
theorem dX12_agenda_28 : decode cX12_agenda 28 = .ok (.if_icmp .le 8, 3) := by decide +kernel
theorem dX12_agenda_31 : decode cX12_agenda 31 = .ok (.bipush (-3), 2) := by decide +kernel
theorem dX12_agenda_33 : decode cX12_agenda 33 = .ok (.goto 7, 3) := by decide +kernel
theorem dX12_agenda_36 : decode cX12_agenda 36 = .ok (.aload_n 0, 1) := by decide +kernel
theorem dX12_agenda_37 : decode cX12_agenda 37 = .ok (.getfield 268, 3) := by decide +kernel
theorem dX12_agenda_40 : decode cX12_agenda 40 = .ok (.ireturn, 1) := by decide +kernel
def r_agenda (a1 : Int32) (a2 : Int32) (m : M) : Option (Int32 × M) :=
  Option.bind (r_isPlan a1 m) (fun v1 => (if v1 = 0 then some ((-1 : Int32), m) else Option.bind (r_isSet a2 m) (fun v2 => (if v2 = 0 then some ((-1 : Int32), m) else Option.bind (r_triesAll a1 a2 m) (fun m3 => (if (m3 76 22) ≤ (4 : Int32) then some ((m3 76 22), m3) else some ((-3 : Int32), m3)))))))
set_option maxRecDepth 20000 in
theorem t_r_agenda {G : GG} {x : Cx} (E : En G x cX12_agenda "WreckBoardModel" 18 (some .int)) (hn : xn x = 3) (a1 : Int32) (a2 : Int32) (m : M) : Sm G x 0 [(0, .ref (G.2.1 76)), (1, .int a1), (2, .int a2)] [] m (r_agenda a1 a2 m) KWi := by
  unfold r_agenda
  refine s_iload_n 1 E dX12_agenda_0 rfl rfl ?_
  refine s_bd (fun v1 hz => ?_)
  refine s_cS (rest := []) E (C_r_isPlan (xl x) G a1 m hz) mdX12_isPlan W1641 W1642 W103 W1643 rfl rfl (Nat.le_of_ble_eq_true rfl) ⟨by decide, by decide⟩ dX12_agenda_1 ?_
  refine s_if_eq 15 E dX12_agenda_4 (by decide) ?_ ?_
  · refine s_iconst (v := (-1 : Int32)) E dX12_agenda_15 (by decide) ?_
    exact s_iret E rfl dX12_agenda_16
  · refine s_aload_n 0 E dX12_agenda_7 rfl rfl ?_
    refine s_iload_n 2 E dX12_agenda_8 rfl rfl ?_
    refine s_bd (fun v2 hz => ?_)
    refine s_cV (rest := []) E (C_r_isSet (xl x) G a2 m hz) mdX12_isSet W1680 W1682 W74 W103 W1683 rfl rfl rfl rfl (Nat.le_of_ble_eq_true rfl) ⟨by decide, by decide⟩ dX12_agenda_9 ?_
    refine s_if_ne 17 E dX12_agenda_12 (by decide) ?_ ?_
    · refine s_aload_n 0 E dX12_agenda_17 rfl rfl ?_
      refine s_iload_n 1 E dX12_agenda_18 rfl rfl ?_
      refine s_iload_n 2 E dX12_agenda_19 rfl rfl ?_
      refine s_bd (fun m3 hz => ?_)
      refine s_cV (rest := []) E (C_r_triesAll (xl x) G a1 a2 m hz) mdX12_triesAll W1644 W1646 W68 W103 W1647 rfl rfl rfl rfl (Nat.le_of_ble_eq_true rfl) ⟨by decide, by decide⟩ dX12_agenda_20 ?_
      refine s_aload_n 0 E dX12_agenda_23 rfl rfl ?_
      refine s_geti (k := 22) (T := TX12) 76 E rfl rfl rfl inX12 (by decide) W1261 dX12_agenda_24 ?_
      refine s_iconst (v := (4 : Int32)) E dX12_agenda_27 (by decide) ?_
      refine s_icmp_le 36 E dX12_agenda_28 (by decide) ?_ ?_
      · refine s_aload_n 0 E dX12_agenda_36 rfl rfl ?_
        refine s_geti (k := 22) (T := TX12) 76 E rfl rfl rfl inX12 (by decide) W1261 dX12_agenda_37 ?_
        exact s_iret E rfl dX12_agenda_40
      · refine s_bipush (v := (-3 : Int32)) E dX12_agenda_31 (by decide) ?_
        refine s_goto 40 E dX12_agenda_33 (by decide) ?_
        exact s_iret E rfl dX12_agenda_40
    · refine s_iconst (v := (-1 : Int32)) E dX12_agenda_15 (by decide) ?_
      exact s_iret E rfl dX12_agenda_16
set_option maxRecDepth 20000 in
theorem C_r_agenda (l : Launch) (G : GG) (a1 : Int32) (a2 : Int32) (m : M) {z : Int32 × M} (hz : r_agenda a1 a2 m = some z) : Ct l G yX12_agenda cX12_agenda 3 (some .int) 18 [.ref (G.2.1 76), .int a1, .int a2] m (some (.int z.1)) z.2 :=
  ct_of (K := KWi) (by decide) (Nat.le_of_ble_eq_true rfl) (congrArg (fun q => Option.bind q _) hz) (fun x hl hn E => (t_r_agenda E hn a1 a2 m))
theorem dX12_bars_0 : decode cX12_bars 0 = .ok (.iload_n 1, 1) := by decide +kernel
theorem dX12_bars_1 : decode cX12_bars 1 = .ok (.invokestatic 291, 3) := by decide +kernel
theorem dX12_bars_4 : decode cX12_bars 4 = .ok (.ifCond .eq 11, 3) := by decide +kernel
theorem dX12_bars_7 : decode cX12_bars 7 = .ok (.aload_n 0, 1) := by decide +kernel
theorem dX12_bars_8 : decode cX12_bars 8 = .ok (.iload_n 2, 1) := by decide +kernel
theorem dX12_bars_9 : decode cX12_bars 9 = .ok (.invokevirtual 298, 3) := by decide +kernel
theorem dX12_bars_12 : decode cX12_bars 12 = .ok (.ifCond .ne 5, 3) := by decide +kernel
theorem dX12_bars_15 : decode cX12_bars 15 = .ok (.iconst (-1), 1) := by decide +kernel
theorem dX12_bars_16 : decode cX12_bars 16 = .ok (.ireturn, 1) := by decide +kernel
theorem dX12_bars_17 : decode cX12_bars 17 = .ok (.aload_n 0, 1) := by decide +kernel
theorem dX12_bars_18 : decode cX12_bars 18 = .ok (.iload_n 1, 1) := by decide +kernel
theorem dX12_bars_19 : decode cX12_bars 19 = .ok (.iload_n 2, 1) := by decide +kernel
theorem dX12_bars_20 : decode cX12_bars 20 = .ok (.invokevirtual 294, 3) := by decide +kernel
theorem dX12_bars_23 : decode cX12_bars 23 = .ok (.iload_n 2, 1) := by decide +kernel
theorem dX12_bars_24 : decode cX12_bars 24 = .ok (.aload_n 0, 1) := by decide +kernel
theorem dX12_bars_25 : decode cX12_bars 25 = .ok (.getfield 271, 3) := by decide +kernel
theorem dX12_bars_28 : decode cX12_bars 28 = .ok (.iconst (-1), 1) := by decide +kernel
theorem dX12_bars_29 : decode cX12_bars 29 = .ok (.ixor, 1) := by decide +kernel
theorem dX12_bars_30 : decode cX12_bars 30 = .ok (.iand, 1) := by decide +kernel
theorem dX12_bars_31 : decode cX12_bars 31 = .ok (.istore_n 3, 1) := by decide +kernel
theorem dX12_bars_32 : decode cX12_bars 32 = .ok (.iconst 0, 1) := by decide +kernel
theorem dX12_bars_33 : decode cX12_bars 33 = .ok (.istore 4, 2) := by decide +kernel
theorem dX12_bars_35 : decode cX12_bars 35 = .ok (.iload 4, 2) := by decide +kernel
theorem dX12_bars_37 : decode cX12_bars 37 = .ok (.aload_n 0, 1) := by decide +kernel
theorem dX12_bars_38 : decode cX12_bars 38 = .ok (.getfield 9, 3) := by decide +kernel
theorem dX12_bars_41 : decode cX12_bars 41 = .ok (.bipush 6, 2) := by decide +kernel
theorem dX12_bars_43 : decode cX12_bars 43 = .ok (.iaload, 1) := by decide +kernel
theorem dX12_bars_44 : decode cX12_bars 44 = .ok (.if_icmp .ge 18, 3) := by decide +kernel
theorem dX12_bars_47 : decode cX12_bars 47 = .ok (.iload_n 3, 1) := by decide +kernel
theorem dX12_bars_48 : decode cX12_bars 48 = .ok (.iload 4, 2) := by decide +kernel
theorem dX12_bars_50 : decode cX12_bars 50 = .ok (.ishr, 1) := by decide +kernel
theorem dX12_bars_51 : decode cX12_bars 51 = .ok (.iconst 1, 1) := by decide +kernel
theorem dX12_bars_52 : decode cX12_bars 52 = .ok (.iand, 1) := by decide +kernel
theorem dX12_bars_53 : decode cX12_bars 53 = .ok (.ifCond .ne 9, 3) := by decide +kernel
theorem dX12_bars_56 : decode cX12_bars 56 = .ok (.iinc 4 1, 3) := by decide +kernel
theorem dX12_bars_59 : decode cX12_bars 59 = .ok (.goto (-24), 3) := by decide +kernel
theorem dX12_bars_62 : decode cX12_bars 62 = .ok (.iload 4, 2) := by decide +kernel
theorem dX12_bars_64 : decode cX12_bars 64 = .ok (.aload_n 0, 1) := by decide +kernel
theorem dX12_bars_65 : decode cX12_bars 65 = .ok (.getfield 9, 3) := by decide +kernel
theorem dX12_bars_68 : decode cX12_bars 68 = .ok (.bipush 6, 2) := by decide +kernel
theorem dX12_bars_70 : decode cX12_bars 70 = .ok (.iaload, 1) := by decide +kernel
theorem dX12_bars_71 : decode cX12_bars 71 = .ok (.if_icmp .ge 8, 3) := by decide +kernel
theorem dX12_bars_74 : decode cX12_bars 74 = .ok (.iload 4, 2) := by decide +kernel
theorem dX12_bars_76 : decode cX12_bars 76 = .ok (.goto 5, 3) := by decide +kernel
theorem dX12_bars_79 : decode cX12_bars 79 = .ok (.bipush (-3), 2) := by decide +kernel
theorem dX12_bars_81 : decode cX12_bars 81 = .ok (.ireturn, 1) := by decide +kernel
def r_bars_35b (a3 : Int32) (a4 : Int32) (m : M) : Option ((Int32) ⊕ ((Int32))) :=
  Option.bind (rdI m 77 (6 : Int32)) (fun v1 => (if v1 ≤ a4 then some (.inr a4) else (if ((a3 >>> (a4 &&& 31)) &&& (1 : Int32)) = 0 then lt (a4 + (1 : Int32)) (fun w2 : Int32 => some (.inl w2)) else some (.inr a4))))
set_option maxRecDepth 20000 in
theorem t_r_bars_35b {G : GG} {x : Cx} {K : ((Int32) ⊕ ((Int32))) → Option (Option Value × M)} (E : En G x cX12_bars "WreckBoardModel" 18 (some .int)) (hn : xn x = 5) (a3 : Int32) (a4 : Int32) (m : M) (hb : ∀ z : Int32, Sm G x 35 [(0, .ref (G.2.1 76)), (3, .int a3), (4, .int z)] [] m (some (.inl z)) K) (hx0 : ∀ z : Int32, Sm G x 62 [(0, .ref (G.2.1 76)), (4, .int z)] [] m (some (.inr z)) K) : Sm G x 35 [(0, .ref (G.2.1 76)), (3, .int a3), (4, .int a4)] [] m (r_bars_35b a3 a4 m) K := by
  unfold r_bars_35b
  refine s_iload 2 E dX12_bars_35 rfl ?_
  refine s_aload_n 0 E dX12_bars_37 rfl rfl ?_
  refine s_getr (k := 0) (T := TX12) 76 E rfl rfl rfl inX12 (by decide) W1239 dX12_bars_38 ?_
  refine s_bipush (v := (6 : Int32)) E dX12_bars_41 (by decide) ?_
  refine s_iald E dX12_bars_43 (fun v1 => ?_)
  refine s_icmp_ge 62 E dX12_bars_44 (by decide) ?_ ?_
  · refine s_sub (lv' := [(0, .ref (G.2.1 76)), (4, .int a4)]) [0, 2] rfl ?_
    exact hx0 a4
  · refine s_iload_n 1 E dX12_bars_47 rfl rfl ?_
    refine s_iload 2 E dX12_bars_48 rfl ?_
    refine s_ishr E dX12_bars_50 ?_
    refine s_iconst (v := (1 : Int32)) E dX12_bars_51 (by decide) ?_
    refine s_iand E dX12_bars_52 ?_
    refine s_if_ne 62 E dX12_bars_53 (by decide) ?_ ?_
    · refine s_sub (lv' := [(0, .ref (G.2.1 76)), (4, .int a4)]) [0, 2] rfl ?_
      exact hx0 a4
    · refine s_iincL (v := (1 : Int32)) 2 [1, 2, 0] (fun w2 => [(0, .ref (G.2.1 76)), (3, .int a3), (4, .int w2)]) E dX12_bars_56 rfl (by decide) (by rw [hn]; decide) (fun _ => rfl) (fun w2 => ?_)
      refine s_goto 35 E dX12_bars_59 (by decide) ?_
      exact hb w2
def r_bars_62 (a4 : Int32) (m : M) : Option (Int32 × M) :=
  Option.bind (rdI m 77 (6 : Int32)) (fun v1 => (if v1 ≤ a4 then some ((-3 : Int32), m) else some (a4, m)))
set_option maxRecDepth 20000 in
theorem t_r_bars_62 {G : GG} {x : Cx} (E : En G x cX12_bars "WreckBoardModel" 18 (some .int)) (hn : xn x = 5) (a4 : Int32) (m : M) : Sm G x 62 [(0, .ref (G.2.1 76)), (4, .int a4)] [] m (r_bars_62 a4 m) KWi := by
  unfold r_bars_62
  refine s_iload 1 E dX12_bars_62 rfl ?_
  refine s_aload_n 0 E dX12_bars_64 rfl rfl ?_
  refine s_getr (k := 0) (T := TX12) 76 E rfl rfl rfl inX12 (by decide) W1239 dX12_bars_65 ?_
  refine s_bipush (v := (6 : Int32)) E dX12_bars_68 (by decide) ?_
  refine s_iald E dX12_bars_70 (fun v1 => ?_)
  refine s_icmp_ge 79 E dX12_bars_71 (by decide) ?_ ?_
  · refine s_bipush (v := (-3 : Int32)) E dX12_bars_79 (by decide) ?_
    exact s_iret E rfl dX12_bars_81
  · refine s_iload 1 E dX12_bars_74 rfl ?_
    refine s_goto 81 E dX12_bars_76 (by decide) ?_
    exact s_iret E rfl dX12_bars_81
def r_bars_35 (a3 : Int32) (a4 : Int32) (m : M) : Option (Int32 × M) :=
  Option.bind (iter (fun z => r_bars_35b a3 z m) FU a4) (fun r => r_bars_62 r m)
set_option maxRecDepth 20000 in
theorem t_r_bars_35 {G : GG} {x : Cx} (E : En G x cX12_bars "WreckBoardModel" 18 (some .int)) (hn : xn x = 5) (a3 : Int32) (a4 : Int32) (m : M) : Sm G x 35 [(0, .ref (G.2.1 76)), (3, .int a3), (4, .int a4)] [] m (r_bars_35 a3 a4 m) KWi := by
  unfold r_bars_35
  refine s_loop (fun z => [(0, .ref (G.2.1 76)), (3, .int a3), (4, .int z)]) (fun z => m) (fun K2 hb2 hr2 z => ?_) FU a4
  refine t_r_bars_35b (K := K2) E hn a3 z m hb2 (fun r => s_out (hr2 r) ?_)
  · exact t_r_bars_62 E hn r m
def r_bars (a1 : Int32) (a2 : Int32) (m : M) : Option (Int32 × M) :=
  Option.bind (r_isPlan a1 m) (fun v1 => (if v1 = 0 then some ((-1 : Int32), m) else Option.bind (r_isSet a2 m) (fun v2 => (if v2 = 0 then some ((-1 : Int32), m) else Option.bind (r_triesAll a1 a2 m) (fun m3 => lt (a2 &&& ((m3 76 23) ^^^ (-1 : Int32))) (fun w4 : Int32 => r_bars_35 w4 (0 : Int32) m3))))))
set_option maxRecDepth 20000 in
theorem t_r_bars {G : GG} {x : Cx} (E : En G x cX12_bars "WreckBoardModel" 18 (some .int)) (hn : xn x = 5) (a1 : Int32) (a2 : Int32) (m : M) : Sm G x 0 [(0, .ref (G.2.1 76)), (1, .int a1), (2, .int a2)] [] m (r_bars a1 a2 m) KWi := by
  unfold r_bars
  refine s_iload_n 1 E dX12_bars_0 rfl rfl ?_
  refine s_bd (fun v1 hz => ?_)
  refine s_cS (rest := []) E (C_r_isPlan (xl x) G a1 m hz) mdX12_isPlan W1641 W1642 W103 W1643 rfl rfl (Nat.le_of_ble_eq_true rfl) ⟨by decide, by decide⟩ dX12_bars_1 ?_
  refine s_if_eq 15 E dX12_bars_4 (by decide) ?_ ?_
  · refine s_iconst (v := (-1 : Int32)) E dX12_bars_15 (by decide) ?_
    exact s_iret E rfl dX12_bars_16
  · refine s_aload_n 0 E dX12_bars_7 rfl rfl ?_
    refine s_iload_n 2 E dX12_bars_8 rfl rfl ?_
    refine s_bd (fun v2 hz => ?_)
    refine s_cV (rest := []) E (C_r_isSet (xl x) G a2 m hz) mdX12_isSet W1680 W1682 W74 W103 W1683 rfl rfl rfl rfl (Nat.le_of_ble_eq_true rfl) ⟨by decide, by decide⟩ dX12_bars_9 ?_
    refine s_if_ne 17 E dX12_bars_12 (by decide) ?_ ?_
    · refine s_aload_n 0 E dX12_bars_17 rfl rfl ?_
      refine s_iload_n 1 E dX12_bars_18 rfl rfl ?_
      refine s_iload_n 2 E dX12_bars_19 rfl rfl ?_
      refine s_bd (fun m3 hz => ?_)
      refine s_cV (rest := []) E (C_r_triesAll (xl x) G a1 a2 m hz) mdX12_triesAll W1644 W1646 W68 W103 W1647 rfl rfl rfl rfl (Nat.le_of_ble_eq_true rfl) ⟨by decide, by decide⟩ dX12_bars_20 ?_
      refine s_iload_n 2 E dX12_bars_23 rfl rfl ?_
      refine s_aload_n 0 E dX12_bars_24 rfl rfl ?_
      refine s_geti (k := 23) (T := TX12) 76 E rfl rfl rfl inX12 (by decide) W1262 dX12_bars_25 ?_
      refine s_iconst (v := (-1 : Int32)) E dX12_bars_28 (by decide) ?_
      refine s_ixor E dX12_bars_29 ?_
      refine s_iand E dX12_bars_30 ?_
      refine s_lt (fun w4 => [(0, .ref (G.2.1 76)), (1, .int a1), (2, .int a2)]) (fun w4 => [.int w4]) rfl rfl (fun w4 => ?_)
      refine s_istore_n (lv' := [(0, .ref (G.2.1 76)), (3, .int w4)]) [1, 0] E dX12_bars_31 rfl (by rw [hn]; decide) rfl ?_
      refine s_iconst (v := (0 : Int32)) E dX12_bars_32 (by decide) ?_
      refine s_istore (lv' := [(0, .ref (G.2.1 76)), (3, .int w4), (4, .int (0 : Int32))]) [1, 2, 0] E dX12_bars_33 (by rw [hn]; decide) rfl ?_
      exact t_r_bars_35 E hn w4 (0 : Int32) m3
    · refine s_iconst (v := (-1 : Int32)) E dX12_bars_15 (by decide) ?_
      exact s_iret E rfl dX12_bars_16
