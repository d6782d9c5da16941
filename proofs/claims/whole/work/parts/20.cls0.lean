theorem dX11_within_0 : decode cX11_within 0 = .ok (.iload_n 1, 1) := by decide +kernel
theorem dX11_within_1 : decode cX11_within 1 = .ok (.iload_n 0, 1) := by decide +kernel
theorem dX11_within_2 : decode cX11_within 2 = .ok (.if_icmp .gt 12, 3) := by decide +kernel
theorem dX11_within_5 : decode cX11_within 5 = .ok (.iload_n 0, 1) := by decide +kernel
theorem dX11_within_6 : decode cX11_within 6 = .ok (.iload_n 2, 1) := by decide +kernel
theorem dX11_within_7 : decode cX11_within 7 = .ok (.if_icmp .gt 7, 3) := by decide +kernel
theorem dX11_within_10 : decode cX11_within 10 = .ok (.iconst 1, 1) := by decide +kernel
theorem dX11_within_11 : decode cX11_within 11 = .ok (.goto 4, 3) := by decide +kernel
theorem dX11_within_14 : decode cX11_within 14 = .ok (.iconst 0, 1) := by decide +kernel
theorem dX11_within_15 : decode cX11_within 15 = .ok (.ireturn, 1) := by decide +kernel
def k_within (a0 : Int32) (a1 : Int32) (a2 : Int32) (m : M) : Option (Int32) :=
  (if a0 < a1 then some (0 : Int32) else (if a2 < a0 then some (0 : Int32) else some (1 : Int32)))
set_option maxRecDepth 20000 in
theorem t_k_within {G : GG} {x : Cx} (E : En G x cX11_within "WreckBoard" 1 (some .boolean)) (hn : xn x = 3) (a0 : Int32) (a1 : Int32) (a2 : Int32) (m : M) : Sm G x 0 [(0, .int a0), (1, .int a1), (2, .int a2)] [] m (k_within a0 a1 a2 m) (KRi m) := by
  unfold k_within
  refine s_iload_n 1 E dX11_within_0 rfl rfl ?_
  refine s_iload_n 0 E dX11_within_1 rfl rfl ?_
  refine s_icmp_gt 14 E dX11_within_2 (by decide) ?_ ?_
  · refine s_iconst (v := (0 : Int32)) E dX11_within_14 (by decide) ?_
    exact s_zret E (by decide) rfl dX11_within_15
  · refine s_iload_n 0 E dX11_within_5 rfl rfl ?_
    refine s_iload_n 2 E dX11_within_6 rfl rfl ?_
    refine s_icmp_gt 14 E dX11_within_7 (by decide) ?_ ?_
    · refine s_iconst (v := (0 : Int32)) E dX11_within_14 (by decide) ?_
      exact s_zret E (by decide) rfl dX11_within_15
    · refine s_iconst (v := (1 : Int32)) E dX11_within_10 (by decide) ?_
      refine s_goto 15 E dX11_within_11 (by decide) ?_
      exact s_zret E (by decide) rfl dX11_within_15
set_option maxRecDepth 20000 in
theorem C_k_within (l : Launch) (G : GG) (a0 : Int32) (a1 : Int32) (a2 : Int32) (m : M) {z : Int32} (hz : k_within a0 a1 a2 m = some z) : Ct l G yX11_within cX11_within 3 (some .boolean) 1 [.int a0, .int a1, .int a2] m (some (.int z)) m :=
  ct_of (K := (KRi m)) (by decide) (Nat.le_of_ble_eq_true rfl) (congrArg (fun q => Option.bind q _) hz) (fun x hl hn E => (t_k_within E hn a0 a1 a2 m))
theorem mdX11_within : mdq yX11_within 3 := ⟨by decide, by decide, by decide +kernel⟩
theorem dX0_join_0 : decode cX0_join 0 = .ok (.aload_n 0, 1) := by decide +kernel
theorem dX0_join_1 : decode cX0_join 1 = .ok (.getfield 79, 3) := by decide +kernel
theorem dX0_join_4 : decode cX0_join 4 = .ok (.istore 5, 2) := by decide +kernel
theorem dX0_join_6 : decode cX0_join 6 = .ok (.aload_n 0, 1) := by decide +kernel
theorem dX0_join_7 : decode cX0_join 7 = .ok (.getfield 21, 3) := by decide +kernel
theorem dX0_join_10 : decode cX0_join 10 = .ok (.iload 5, 2) := by decide +kernel
theorem dX0_join_12 : decode cX0_join 12 = .ok (.iload_n 1, 1) := by decide +kernel
theorem dX0_join_13 : decode cX0_join 13 = .ok (.iastore, 1) := by decide +kernel
theorem dX0_join_14 : decode cX0_join 14 = .ok (.aload_n 0, 1) := by decide +kernel
theorem dX0_join_15 : decode cX0_join 15 = .ok (.getfield 25, 3) := by decide +kernel
theorem dX0_join_18 : decode cX0_join 18 = .ok (.iload 5, 2) := by decide +kernel
theorem dX0_join_20 : decode cX0_join 20 = .ok (.iload_n 2, 1) := by decide +kernel
theorem dX0_join_21 : decode cX0_join 21 = .ok (.iastore, 1) := by decide +kernel
theorem dX0_join_22 : decode cX0_join 22 = .ok (.aload_n 0, 1) := by decide +kernel
theorem dX0_join_23 : decode cX0_join 23 = .ok (.getfield 28, 3) := by decide +kernel
theorem dX0_join_26 : decode cX0_join 26 = .ok (.iload 5, 2) := by decide +kernel
theorem dX0_join_28 : decode cX0_join 28 = .ok (.iload_n 3, 1) := by decide +kernel
theorem dX0_join_29 : decode cX0_join 29 = .ok (.iastore, 1) := by decide +kernel
theorem dX0_join_30 : decode cX0_join 30 = .ok (.aload_n 0, 1) := by decide +kernel
theorem dX0_join_31 : decode cX0_join 31 = .ok (.getfield 31, 3) := by decide +kernel
theorem dX0_join_34 : decode cX0_join 34 = .ok (.iload 5, 2) := by decide +kernel
theorem dX0_join_36 : decode cX0_join 36 = .ok (.iload 4, 2) := by decide +kernel
theorem dX0_join_38 : decode cX0_join 38 = .ok (.iastore, 1) := by decide +kernel
theorem dX0_join_39 : decode cX0_join 39 = .ok (.aload_n 0, 1) := by decide +kernel
theorem dX0_join_40 : decode cX0_join 40 = .ok (.dup, 1) := by decide +kernel
theorem dX0_join_41 : decode cX0_join 41 = .ok (.getfield 79, 3) := by decide +kernel
theorem dX0_join_44 : decode cX0_join 44 = .ok (.iconst 1, 1) := by decide +kernel
theorem dX0_join_45 : decode cX0_join 45 = .ok (.iadd, 1) := by decide +kernel
theorem dX0_join_46 : decode cX0_join 46 = .ok (.putfield 79, 3) := by decide +kernel
theorem dX0_join_49 : decode cX0_join 49 = .ok (.iload 5, 2) := by decide +kernel
theorem dX0_join_51 : decode cX0_join 51 = .ok (.ireturn, 1) := by decide +kernel
def b_join (a1 : Int32) (a2 : Int32) (a3 : Int32) (a4 : Int32) (m : M) : Option (Int32 × M) :=
  lt (m 1 6) (fun w1 : Int32 => Option.bind (wrI m 10 w1 a1) (fun m2 => Option.bind (wrI m2 11 w1 a2) (fun m3 => Option.bind (wrI m3 12 w1 a3) (fun m4 => Option.bind (wrI m4 13 w1 a4) (fun m5 => lt (wrF m5 1 6 ((m5 1 6) + (1 : Int32))) (fun m6 => some (w1, m6)))))))
set_option maxRecDepth 20000 in
theorem t_b_join {G : GG} {x : Cx} (E : En G x cX0_join "WreckBoard$Board" 1 (some .int)) (hn : xn x = 6) (a1 : Int32) (a2 : Int32) (a3 : Int32) (a4 : Int32) (m : M) : Sm G x 0 [(0, .ref (G.2.1 1)), (1, .int a1), (2, .int a2), (3, .int a3), (4, .int a4)] [] m (b_join a1 a2 a3 a4 m) KWi := by
  unfold b_join
  refine s_aload_n 0 E dX0_join_0 rfl rfl ?_
  refine s_geti (k := 6) (T := TX0) 1 E rfl rfl rfl inX0 (by decide) W236 dX0_join_1 ?_
  refine s_lt (fun w1 => [(0, .ref (G.2.1 1)), (1, .int a1), (2, .int a2), (3, .int a3), (4, .int a4)]) (fun w1 => [.int w1]) rfl rfl (fun w1 => ?_)
  refine s_istore (lv' := [(0, .ref (G.2.1 1)), (1, .int a1), (2, .int a2), (3, .int a3), (4, .int a4), (5, .int w1)]) [1, 2, 3, 4, 5, 0] E dX0_join_4 (by rw [hn]; decide) rfl ?_
  refine s_aload_n 0 E dX0_join_6 rfl rfl ?_
  refine s_getr (k := 9) (T := TX0) 1 E rfl rfl rfl inX0 (by decide) W242 dX0_join_7 ?_
  refine s_iload 5 E dX0_join_10 rfl ?_
  refine s_iload_n 1 E dX0_join_12 rfl rfl ?_
  refine s_iast E dX0_join_13 (fun m2 => ?_)
  refine s_aload_n 0 E dX0_join_14 rfl rfl ?_
  refine s_getr (k := 10) (T := TX0) 1 E rfl rfl rfl inX0 (by decide) W244 dX0_join_15 ?_
  refine s_iload 5 E dX0_join_18 rfl ?_
  refine s_iload_n 2 E dX0_join_20 rfl rfl ?_
  refine s_iast E dX0_join_21 (fun m3 => ?_)
  refine s_aload_n 0 E dX0_join_22 rfl rfl ?_
  refine s_getr (k := 11) (T := TX0) 1 E rfl rfl rfl inX0 (by decide) W247 dX0_join_23 ?_
  refine s_iload 5 E dX0_join_26 rfl ?_
  refine s_iload_n 3 E dX0_join_28 rfl rfl ?_
  refine s_iast E dX0_join_29 (fun m4 => ?_)
  refine s_aload_n 0 E dX0_join_30 rfl rfl ?_
  refine s_getr (k := 12) (T := TX0) 1 E rfl rfl rfl inX0 (by decide) W250 dX0_join_31 ?_
  refine s_iload 5 E dX0_join_34 rfl ?_
  refine s_iload 4 E dX0_join_36 rfl ?_
  refine s_iast E dX0_join_38 (fun m5 => ?_)
  refine s_aload_n 0 E dX0_join_39 rfl rfl ?_
  refine s_dup E dX0_join_40 rfl ?_
  refine s_geti (k := 6) (T := TX0) 1 E rfl rfl rfl inX0 (by decide) W236 dX0_join_41 ?_
  refine s_iconst (v := (1 : Int32)) E dX0_join_44 (by decide) ?_
  refine s_iadd E dX0_join_45 ?_
  refine s_put (k := 6) (T := TX0) (ty := .int) 1 E rfl rfl rfl inX0 tyX0 tyX0_ok nmX0 (by decide) W236 rfl (by decide +kernel) rfl rfl dX0_join_46 ?_
  refine s_ltm rfl (fun m6 => ?_)
  refine s_iload 5 E dX0_join_49 rfl ?_
  exact s_iret E rfl dX0_join_51
set_option maxRecDepth 20000 in
theorem C_b_join (l : Launch) (G : GG) (a1 : Int32) (a2 : Int32) (a3 : Int32) (a4 : Int32) (m : M) {z : Int32 × M} (hz : b_join a1 a2 a3 a4 m = some z) : Ct l G yX0_join cX0_join 6 (some .int) 1 [.ref (G.2.1 1), .int a1, .int a2, .int a3, .int a4] m (some (.int z.1)) z.2 :=
  ct_of (K := KWi) (by decide) (Nat.le_of_ble_eq_true rfl) (congrArg (fun q => Option.bind q _) hz) (fun x hl hn E => (t_b_join E hn a1 a2 a3 a4 m))
theorem mdX0_join : mdq yX0_join 4 := ⟨by decide, by decide, by decide +kernel⟩
theorem dX11_member_0 : decode cX11_member 0 = .ok (.iload_n 1, 1) := by decide +kernel
theorem dX11_member_1 : decode cX11_member 1 = .ok (.iconst 1, 1) := by decide +kernel
theorem dX11_member_2 : decode cX11_member 2 = .ok (.iconst 5, 1) := by decide +kernel
theorem dX11_member_3 : decode cX11_member 3 = .ok (.invokestatic 61, 3) := by decide +kernel
theorem dX11_member_6 : decode cX11_member 6 = .ok (.ifCond .eq 13, 3) := by decide +kernel
theorem dX11_member_9 : decode cX11_member 9 = .ok (.iload_n 2, 1) := by decide +kernel
theorem dX11_member_10 : decode cX11_member 10 = .ok (.iconst 0, 1) := by decide +kernel
theorem dX11_member_11 : decode cX11_member 11 = .ok (.bipush 9, 2) := by decide +kernel
theorem dX11_member_13 : decode cX11_member 13 = .ok (.invokestatic 61, 3) := by decide +kernel
theorem dX11_member_16 : decode cX11_member 16 = .ok (.ifCond .ne 5, 3) := by decide +kernel
theorem dX11_member_19 : decode cX11_member 19 = .ok (.iconst (-1), 1) := by decide +kernel
theorem dX11_member_20 : decode cX11_member 20 = .ok (.ireturn, 1) := by decide +kernel
theorem dX11_member_21 : decode cX11_member 21 = .ok (.iload_n 3, 1) := by decide +kernel
theorem dX11_member_22 : decode cX11_member 22 = .ok (.iconst 0, 1) := by decide +kernel
theorem dX11_member_23 : decode cX11_member 23 = .ok (.bipush 9, 2) := by decide +kernel
theorem dX11_member_25 : decode cX11_member 25 = .ok (.invokestatic 61, 3) := by decide +kernel
theorem dX11_member_28 : decode cX11_member 28 = .ok (.ifCond .eq 13, 3) := by decide +kernel
theorem dX11_member_31 : decode cX11_member 31 = .ok (.iload 4, 2) := by decide +kernel
theorem dX11_member_33 : decode cX11_member 33 = .ok (.iconst 0, 1) := by decide +kernel
theorem dX11_member_34 : decode cX11_member 34 = .ok (.iconst 5, 1) := by decide +kernel
theorem dX11_member_35 : decode cX11_member 35 = .ok (.invokestatic 61, 3) := by decide +kernel
theorem dX11_member_38 : decode cX11_member 38 = .ok (.ifCond .ne 5, 3) := by decide +kernel
theorem dX11_member_41 : decode cX11_member 41 = .ok (.iconst (-1), 1) := by decide +kernel
theorem dX11_member_42 : decode cX11_member 42 = .ok (.ireturn, 1) := by decide +kernel
theorem dX11_member_43 : decode cX11_member 43 = .ok (.aload_n 0, 1) := by decide +kernel
theorem dX11_member_44 : decode cX11_member 44 = .ok (.getfield 12, 3) := by decide +kernel
theorem dX11_member_47 : decode cX11_member 47 = .ok (.getfield 65, 3) := by decide +kernel
theorem dX11_member_50 : decode cX11_member 50 = .ok (.bipush 6, 2) := by decide +kernel
theorem dX11_member_52 : decode cX11_member 52 = .ok (.if_icmp .lt 6, 3) := by decide +kernel
theorem dX11_member_55 : decode cX11_member 55 = .ok (.bipush (-2), 2) := by decide +kernel
theorem dX11_member_57 : decode cX11_member 57 = .ok (.ireturn, 1) := by decide +kernel
theorem dX11_member_58 : decode cX11_member 58 = .ok (.aload_n 0, 1) := by decide +kernel
theorem dX11_member_59 : decode cX11_member 59 = .ok (.getfield 12, 3) := by decide +kernel
theorem dX11_member_62 : decode cX11_member 62 = .ok (.iload_n 1, 1) := by decide +kernel
theorem dX11_member_63 : decode cX11_member 63 = .ok (.iload_n 2, 1) := by decide +kernel
theorem dX11_member_64 : decode cX11_member 64 = .ok (.iload_n 3, 1) := by decide +kernel
theorem dX11_member_65 : decode cX11_member 65 = .ok (.iload 4, 2) := by decide +kernel
theorem dX11_member_67 : decode cX11_member 67 = .ok (.invokevirtual 69, 3) := by decide +kernel
theorem dX11_member_70 : decode cX11_member 70 = .ok (.ireturn, 1) := by decide +kernel
def k_member (a1 : Int32) (a2 : Int32) (a3 : Int32) (a4 : Int32) (m : M) : Option (Int32 × M) :=
  Option.bind (k_within a1 (1 : Int32) (5 : Int32) m) (fun v1 => (if v1 = 0 then some ((-1 : Int32), m) else Option.bind (k_within a2 (0 : Int32) (9 : Int32) m) (fun v2 => (if v2 = 0 then some ((-1 : Int32), m) else Option.bind (k_within a3 (0 : Int32) (9 : Int32) m) (fun v3 => (if v3 = 0 then some ((-1 : Int32), m) else Option.bind (k_within a4 (0 : Int32) (5 : Int32) m) (fun v4 => (if v4 = 0 then some ((-1 : Int32), m) else (if (m 1 6) < (6 : Int32) then Option.bind (b_join a1 a2 a3 a4 m) (fun z5 => some (z5.1, z5.2)) else some ((-2 : Int32), m))))))))))
set_option maxRecDepth 20000 in
theorem t_k_member {G : GG} {x : Cx} (E : En G x cX11_member "WreckBoard" 2 (some .int)) (hn : xn x = 5) (a1 : Int32) (a2 : Int32) (a3 : Int32) (a4 : Int32) (m : M) : Sm G x 0 [(0, .ref (G.2.1 0)), (1, .int a1), (2, .int a2), (3, .int a3), (4, .int a4)] [] m (k_member a1 a2 a3 a4 m) KWi := by
  unfold k_member
  refine s_iload_n 1 E dX11_member_0 rfl rfl ?_
  refine s_iconst (v := (1 : Int32)) E dX11_member_1 (by decide) ?_
  refine s_iconst (v := (5 : Int32)) E dX11_member_2 (by decide) ?_
  refine s_bd (fun v1 hz => ?_)
  refine s_cS (rest := []) E (C_k_within (xl x) G a1 (1 : Int32) (5 : Int32) m hz) mdX11_within W404 W405 W91 W406 rfl rfl (Nat.le_of_ble_eq_true rfl) ⟨by decide, by decide⟩ dX11_member_3 ?_
  refine s_if_eq 19 E dX11_member_6 (by decide) ?_ ?_
  · refine s_iconst (v := (-1 : Int32)) E dX11_member_19 (by decide) ?_
    exact s_iret E rfl dX11_member_20
  · refine s_iload_n 2 E dX11_member_9 rfl rfl ?_
    refine s_iconst (v := (0 : Int32)) E dX11_member_10 (by decide) ?_
    refine s_bipush (v := (9 : Int32)) E dX11_member_11 (by decide) ?_
    refine s_bd (fun v2 hz => ?_)
    refine s_cS (rest := []) E (C_k_within (xl x) G a2 (0 : Int32) (9 : Int32) m hz) mdX11_within W404 W405 W91 W406 rfl rfl (Nat.le_of_ble_eq_true rfl) ⟨by decide, by decide⟩ dX11_member_13 ?_
    refine s_if_ne 21 E dX11_member_16 (by decide) ?_ ?_
    · refine s_iload_n 3 E dX11_member_21 rfl rfl ?_
      refine s_iconst (v := (0 : Int32)) E dX11_member_22 (by decide) ?_
      refine s_bipush (v := (9 : Int32)) E dX11_member_23 (by decide) ?_
      refine s_bd (fun v3 hz => ?_)
      refine s_cS (rest := []) E (C_k_within (xl x) G a3 (0 : Int32) (9 : Int32) m hz) mdX11_within W404 W405 W91 W406 rfl rfl (Nat.le_of_ble_eq_true rfl) ⟨by decide, by decide⟩ dX11_member_25 ?_
      refine s_if_eq 41 E dX11_member_28 (by decide) ?_ ?_
      · refine s_iconst (v := (-1 : Int32)) E dX11_member_41 (by decide) ?_
        exact s_iret E rfl dX11_member_42
      · refine s_iload 4 E dX11_member_31 rfl ?_
        refine s_iconst (v := (0 : Int32)) E dX11_member_33 (by decide) ?_
        refine s_iconst (v := (5 : Int32)) E dX11_member_34 (by decide) ?_
        refine s_bd (fun v4 hz => ?_)
        refine s_cS (rest := []) E (C_k_within (xl x) G a4 (0 : Int32) (5 : Int32) m hz) mdX11_within W404 W405 W91 W406 rfl rfl (Nat.le_of_ble_eq_true rfl) ⟨by decide, by decide⟩ dX11_member_35 ?_
        refine s_if_ne 43 E dX11_member_38 (by decide) ?_ ?_
        · refine s_aload_n 0 E dX11_member_43 rfl rfl ?_
          refine s_getr (k := 0) (T := TX11) 0 E rfl rfl rfl inX11 (by decide) W360 dX11_member_44 ?_
          refine s_geti (k := 6) (T := TX0) 1 E rfl rfl rfl inX0 (by decide) W237 dX11_member_47 ?_
          refine s_bipush (v := (6 : Int32)) E dX11_member_50 (by decide) ?_
          refine s_icmp_lt 58 E dX11_member_52 (by decide) ?_ ?_
          · refine s_aload_n 0 E dX11_member_58 rfl rfl ?_
            refine s_getr (k := 0) (T := TX11) 0 E rfl rfl rfl inX11 (by decide) W360 dX11_member_59 ?_
            refine s_iload_n 1 E dX11_member_62 rfl rfl ?_
            refine s_iload_n 2 E dX11_member_63 rfl rfl ?_
            refine s_iload_n 3 E dX11_member_64 rfl rfl ?_
            refine s_iload 4 E dX11_member_65 rfl ?_
            refine s_bd (fun z5 hz => ?_)
            refine s_cV (rest := []) E (C_b_join (xl x) G a1 a2 a3 a4 m hz) mdX0_join W407 W408 W409 W92 W410 rfl rfl rfl rfl (Nat.le_of_ble_eq_true rfl) ⟨by decide, by decide⟩ dX11_member_67 ?_
            exact s_iret E rfl dX11_member_70
          · refine s_bipush (v := (-2 : Int32)) E dX11_member_55 (by decide) ?_
            exact s_iret E rfl dX11_member_57
        · refine s_iconst (v := (-1 : Int32)) E dX11_member_41 (by decide) ?_
          exact s_iret E rfl dX11_member_42
    · refine s_iconst (v := (-1 : Int32)) E dX11_member_19 (by decide) ?_
      exact s_iret E rfl dX11_member_20
set_option maxRecDepth 20000 in
theorem C_k_member (l : Launch) (G : GG) (a1 : Int32) (a2 : Int32) (a3 : Int32) (a4 : Int32) (m : M) {z : Int32 × M} (hz : k_member a1 a2 a3 a4 m = some z) : Ct l G yX11_member cX11_member 5 (some .int) 2 [.ref (G.2.1 0), .int a1, .int a2, .int a3, .int a4] m (some (.int z.1)) z.2 :=
  ct_of (K := KWi) (by decide) (Nat.le_of_ble_eq_true rfl) (congrArg (fun q => Option.bind q _) hz) (fun x hl hn E => (t_k_member E hn a1 a2 a3 a4 m))
theorem dX0_isMember_0 : decode cX0_isMember 0 = .ok (.iload_n 1, 1) := by decide +kernel
theorem dX0_isMember_1 : decode cX0_isMember 1 = .ok (.iconst 0, 1) := by decide +kernel
theorem dX0_isMember_2 : decode cX0_isMember 2 = .ok (.aload_n 0, 1) := by decide +kernel
theorem dX0_isMember_3 : decode cX0_isMember 3 = .ok (.getfield 79, 3) := by decide +kernel
theorem dX0_isMember_6 : decode cX0_isMember 6 = .ok (.iconst 1, 1) := by decide +kernel
theorem dX0_isMember_7 : decode cX0_isMember 7 = .ok (.isub, 1) := by decide +kernel
theorem dX0_isMember_8 : decode cX0_isMember 8 = .ok (.invokestatic 82, 3) := by decide +kernel
theorem dX0_isMember_11 : decode cX0_isMember 11 = .ok (.ireturn, 1) := by decide +kernel
def b_isMember (a1 : Int32) (m : M) : Option (Int32) :=
  Option.bind (k_within a1 (0 : Int32) ((m 1 6) - (1 : Int32)) m) (fun v1 => some (v1 &&& 1))
set_option maxRecDepth 20000 in
theorem t_b_isMember {G : GG} {x : Cx} (E : En G x cX0_isMember "WreckBoard$Board" 2 (some .boolean)) (hn : xn x = 2) (a1 : Int32) (m : M) : Sm G x 0 [(0, .ref (G.2.1 1)), (1, .int a1)] [] m (b_isMember a1 m) (KRi m) := by
  unfold b_isMember
  refine s_iload_n 1 E dX0_isMember_0 rfl rfl ?_
  refine s_iconst (v := (0 : Int32)) E dX0_isMember_1 (by decide) ?_
  refine s_aload_n 0 E dX0_isMember_2 rfl rfl ?_
  refine s_geti (k := 6) (T := TX0) 1 E rfl rfl rfl inX0 (by decide) W236 dX0_isMember_3 ?_
  refine s_iconst (v := (1 : Int32)) E dX0_isMember_6 (by decide) ?_
  refine s_isub E dX0_isMember_7 ?_
  refine s_bd (fun v1 hz => ?_)
  refine s_cSN (rest := []) (host := "WreckBoard") E (C_k_within (xl x) G a1 (0 : Int32) ((m 1 6) - (1 : Int32)) m hz) mdX11_within (by decide) W405 W91 W406 rfl rfl (Nat.le_of_ble_eq_true rfl) ⟨by decide, by decide⟩ dX0_isMember_8 ?_
  exact s_zretN E rfl dX0_isMember_11
set_option maxRecDepth 20000 in
theorem C_b_isMember (l : Launch) (G : GG) (a1 : Int32) (m : M) {z : Int32} (hz : b_isMember a1 m = some z) : Ct l G yX0_isMember cX0_isMember 2 (some .boolean) 2 [.ref (G.2.1 1), .int a1] m (some (.int z)) m :=
  ct_of (K := (KRi m)) (by decide) (Nat.le_of_ble_eq_true rfl) (congrArg (fun q => Option.bind q _) hz) (fun x hl hn E => (t_b_isMember E hn a1 m))
theorem mdX0_isMember : mdq yX0_isMember 1 := ⟨by decide, by decide, by decide +kernel⟩
theorem dX11_isIn_0 : decode cX11_isIn 0 = .ok (.iload_n 0, 1) := by decide +kernel
theorem dX11_isIn_1 : decode cX11_isIn 1 = .ok (.iload_n 1, 1) := by decide +kernel
theorem dX11_isIn_2 : decode cX11_isIn 2 = .ok (.ishr, 1) := by decide +kernel
theorem dX11_isIn_3 : decode cX11_isIn 3 = .ok (.iconst 1, 1) := by decide +kernel
theorem dX11_isIn_4 : decode cX11_isIn 4 = .ok (.iand, 1) := by decide +kernel
theorem dX11_isIn_5 : decode cX11_isIn 5 = .ok (.iconst 1, 1) := by decide +kernel
theorem dX11_isIn_6 : decode cX11_isIn 6 = .ok (.if_icmp .ne 7, 3) := by decide +kernel
theorem dX11_isIn_9 : decode cX11_isIn 9 = .ok (.iconst 1, 1) := by decide +kernel
theorem dX11_isIn_10 : decode cX11_isIn 10 = .ok (.goto 4, 3) := by decide +kernel
theorem dX11_isIn_13 : decode cX11_isIn 13 = .ok (.iconst 0, 1) := by decide +kernel
theorem dX11_isIn_14 : decode cX11_isIn 14 = .ok (.ireturn, 1) := by decide +kernel
def k_isIn (a0 : Int32) (a1 : Int32) (m : M) : Option (Int32) :=
  (if ((a0 >>> (a1 &&& 31)) &&& (1 : Int32)) = (1 : Int32) then some (1 : Int32) else some (0 : Int32))
set_option maxRecDepth 20000 in
theorem t_k_isIn {G : GG} {x : Cx} (E : En G x cX11_isIn "WreckBoard" 1 (some .boolean)) (hn : xn x = 2) (a0 : Int32) (a1 : Int32) (m : M) : Sm G x 0 [(0, .int a0), (1, .int a1)] [] m (k_isIn a0 a1 m) (KRi m) := by
  unfold k_isIn
  refine s_iload_n 0 E dX11_isIn_0 rfl rfl ?_
  refine s_iload_n 1 E dX11_isIn_1 rfl rfl ?_
  refine s_ishr E dX11_isIn_2 ?_
  refine s_iconst (v := (1 : Int32)) E dX11_isIn_3 (by decide) ?_
  refine s_iand E dX11_isIn_4 ?_
  refine s_iconst (v := (1 : Int32)) E dX11_isIn_5 (by decide) ?_
  refine s_icmp_ne 13 E dX11_isIn_6 (by decide) ?_ ?_
  · refine s_iconst (v := (0 : Int32)) E dX11_isIn_13 (by decide) ?_
    exact s_zret E (by decide) rfl dX11_isIn_14
  · refine s_iconst (v := (1 : Int32)) E dX11_isIn_9 (by decide) ?_
    refine s_goto 14 E dX11_isIn_10 (by decide) ?_
    exact s_zret E (by decide) rfl dX11_isIn_14
set_option maxRecDepth 20000 in
theorem C_k_isIn (l : Launch) (G : GG) (a0 : Int32) (a1 : Int32) (m : M) {z : Int32} (hz : k_isIn a0 a1 m = some z) : Ct l G yX11_isIn cX11_isIn 2 (some .boolean) 1 [.int a0, .int a1] m (some (.int z)) m :=
  ct_of (K := (KRi m)) (by decide) (Nat.le_of_ble_eq_true rfl) (congrArg (fun q => Option.bind q _) hz) (fun x hl hn E => (t_k_isIn E hn a0 a1 m))
theorem mdX11_isIn : mdq yX11_isIn 2 := ⟨by decide, by decide, by decide +kernel⟩
theorem dX0_isHeard_0 : decode cX0_isHeard 0 = .ok (.aload_n 0, 1) := by decide +kernel
theorem dX0_isHeard_1 : decode cX0_isHeard 1 = .ok (.getfield 86, 3) := by decide +kernel
theorem dX0_isHeard_4 : decode cX0_isHeard 4 = .ok (.iload_n 1, 1) := by decide +kernel
theorem dX0_isHeard_5 : decode cX0_isHeard 5 = .ok (.invokestatic 89, 3) := by decide +kernel
theorem dX0_isHeard_8 : decode cX0_isHeard 8 = .ok (.ireturn, 1) := by decide +kernel
def b_isHeard (a1 : Int32) (m : M) : Option (Int32) :=
  Option.bind (k_isIn (m 1 7) a1 m) (fun v1 => some (v1 &&& 1))
set_option maxRecDepth 20000 in
theorem t_b_isHeard {G : GG} {x : Cx} (E : En G x cX0_isHeard "WreckBoard$Board" 2 (some .boolean)) (hn : xn x = 2) (a1 : Int32) (m : M) : Sm G x 0 [(0, .ref (G.2.1 1)), (1, .int a1)] [] m (b_isHeard a1 m) (KRi m) := by
  unfold b_isHeard
  refine s_aload_n 0 E dX0_isHeard_0 rfl rfl ?_
  refine s_geti (k := 7) (T := TX0) 1 E rfl rfl rfl inX0 (by decide) W238 dX0_isHeard_1 ?_
  refine s_iload_n 1 E dX0_isHeard_4 rfl rfl ?_
  refine s_bd (fun v1 hz => ?_)
  refine s_cSN (rest := []) (host := "WreckBoard") E (C_k_isIn (xl x) G (m 1 7) a1 m hz) mdX11_isIn (by decide) W425 W91 W426 rfl rfl (Nat.le_of_ble_eq_true rfl) ⟨by decide, by decide⟩ dX0_isHeard_5 ?_
  exact s_zretN E rfl dX0_isHeard_8
set_option maxRecDepth 20000 in
theorem C_b_isHeard (l : Launch) (G : GG) (a1 : Int32) (m : M) {z : Int32} (hz : b_isHeard a1 m = some z) : Ct l G yX0_isHeard cX0_isHeard 2 (some .boolean) 2 [.ref (G.2.1 1), .int a1] m (some (.int z)) m :=
  ct_of (K := (KRi m)) (by decide) (Nat.le_of_ble_eq_true rfl) (congrArg (fun q => Option.bind q _) hz) (fun x hl hn E => (t_b_isHeard E hn a1 m))
theorem mdX0_isHeard : mdq yX0_isHeard 1 := ⟨by decide, by decide, by decide +kernel⟩
theorem dX0_shipNow_0 : decode cX0_shipNow 0 = .ok (.aload_n 0, 1) := by decide +kernel
theorem dX0_shipNow_1 : decode cX0_shipNow 1 = .ok (.getfield 93, 3) := by decide +kernel
theorem dX0_shipNow_4 : decode cX0_shipNow 4 = .ok (.aload_n 0, 1) := by decide +kernel
theorem dX0_shipNow_5 : decode cX0_shipNow 5 = .ok (.getfield 34, 3) := by decide +kernel
theorem dX0_shipNow_8 : decode cX0_shipNow 8 = .ok (.arraylength, 1) := by decide +kernel
theorem dX0_shipNow_9 : decode cX0_shipNow 9 = .ok (.if_icmp .ge 15, 3) := by decide +kernel
theorem dX0_shipNow_12 : decode cX0_shipNow 12 = .ok (.aload_n 0, 1) := by decide +kernel
theorem dX0_shipNow_13 : decode cX0_shipNow 13 = .ok (.getfield 34, 3) := by decide +kernel
theorem dX0_shipNow_16 : decode cX0_shipNow 16 = .ok (.aload_n 0, 1) := by decide +kernel
theorem dX0_shipNow_17 : decode cX0_shipNow 17 = .ok (.getfield 93, 3) := by decide +kernel
theorem dX0_shipNow_20 : decode cX0_shipNow 20 = .ok (.iaload, 1) := by decide +kernel
theorem dX0_shipNow_21 : decode cX0_shipNow 21 = .ok (.goto 4, 3) := by decide +kernel
theorem dX0_shipNow_24 : decode cX0_shipNow 24 = .ok (.iconst 0, 1) := by decide +kernel
theorem dX0_shipNow_25 : decode cX0_shipNow 25 = .ok (.ireturn, 1) := by decide +kernel
def b_shipNow  (m : M) : Option (Int32) :=
  (if (16 : Int32) ≤ (m 1 0) then some (0 : Int32) else Option.bind (rdI m 14 (m 1 0)) (fun v1 => some v1))
set_option maxRecDepth 20000 in
theorem t_b_shipNow {G : GG} {x : Cx} (E : En G x cX0_shipNow "WreckBoard$Board" 1 (some .int)) (hn : xn x = 1)  (m : M) : Sm G x 0 [(0, .ref (G.2.1 1))] [] m (b_shipNow m) (KRi m) := by
  unfold b_shipNow
  refine s_aload_n 0 E dX0_shipNow_0 rfl rfl ?_
  refine s_geti (k := 0) (T := TX0) 1 E rfl rfl rfl inX0 (by decide) W222 dX0_shipNow_1 ?_
  refine s_aload_n 0 E dX0_shipNow_4 rfl rfl ?_
  refine s_getr (k := 13) (T := TX0) 1 E rfl rfl rfl inX0 (by decide) W252 dX0_shipNow_5 ?_
  refine s_alen (n := 16) (v := (16 : Int32)) E rfl (by decide) (by decide) dX0_shipNow_8 ?_
  refine s_icmp_ge 24 E dX0_shipNow_9 (by decide) ?_ ?_
  · refine s_iconst (v := (0 : Int32)) E dX0_shipNow_24 (by decide) ?_
    exact s_iret E rfl dX0_shipNow_25
  · refine s_aload_n 0 E dX0_shipNow_12 rfl rfl ?_
    refine s_getr (k := 13) (T := TX0) 1 E rfl rfl rfl inX0 (by decide) W252 dX0_shipNow_13 ?_
    refine s_aload_n 0 E dX0_shipNow_16 rfl rfl ?_
    refine s_geti (k := 0) (T := TX0) 1 E rfl rfl rfl inX0 (by decide) W222 dX0_shipNow_17 ?_
    refine s_iald E dX0_shipNow_20 (fun v1 => ?_)
    refine s_goto 25 E dX0_shipNow_21 (by decide) ?_
    exact s_iret E rfl dX0_shipNow_25
set_option maxRecDepth 20000 in
theorem C_b_shipNow (l : Launch) (G : GG)  (m : M) {z : Int32} (hz : b_shipNow m = some z) : Ct l G yX0_shipNow cX0_shipNow 1 (some .int) 1 [.ref (G.2.1 1)] m (some (.int z)) m :=
  ct_of (K := (KRi m)) (by decide) (Nat.le_of_ble_eq_true rfl) (congrArg (fun q => Option.bind q _) hz) (fun x hl hn E => (t_b_shipNow E hn  m))
theorem mdX0_shipNow : mdq yX0_shipNow 0 := ⟨by decide, by decide, by decide +kernel⟩
theorem dX0_valueOf_0 : decode cX0_valueOf 0 = .ok (.iload_n 0, 1) := by decide +kernel
theorem dX0_valueOf_1 : decode cX0_valueOf 1 = .ok (.iconst 4, 1) := by decide +kernel
theorem dX0_valueOf_2 : decode cX0_valueOf 2 = .ok (.idiv, 1) := by decide +kernel
theorem dX0_valueOf_3 : decode cX0_valueOf 3 = .ok (.ireturn, 1) := by decide +kernel
def b_valueOf (a0 : Int32) (m : M) : Option (Int32) :=
  some (a0 / (4 : Int32))
set_option maxRecDepth 20000 in
theorem t_b_valueOf {G : GG} {x : Cx} (E : En G x cX0_valueOf "WreckBoard$Board" 1 (some .int)) (hn : xn x = 1) (a0 : Int32) (m : M) : Sm G x 0 [(0, .int a0)] [] m (b_valueOf a0 m) (KRi m) := by
  unfold b_valueOf
  refine s_iload_n 0 E dX0_valueOf_0 rfl rfl ?_
  refine s_iconst (v := (4 : Int32)) E dX0_valueOf_1 (by decide) ?_
  refine s_idivc E dX0_valueOf_2 (by decide) ?_
  exact s_iret E rfl dX0_valueOf_3
set_option maxRecDepth 20000 in
theorem C_b_valueOf (l : Launch) (G : GG) (a0 : Int32) (m : M) {z : Int32} (hz : b_valueOf a0 m = some z) : Ct l G yX0_valueOf cX0_valueOf 1 (some .int) 1 [.int a0] m (some (.int z)) m :=
  ct_of (K := (KRi m)) (by decide) (Nat.le_of_ble_eq_true rfl) (congrArg (fun q => Option.bind q _) hz) (fun x hl hn E => (t_b_valueOf E hn a0 m))
theorem mdX0_valueOf : mdq yX0_valueOf 1 := ⟨by decide, by decide, by decide +kernel⟩
theorem dX5_leansBy_0 : decode cX5_leansBy 0 = .ok (.iload_n 1, 1) := by decide +kernel
theorem dX5_leansBy_1 : decode cX5_leansBy 1 = .ok (.iconst 1, 1) := by decide +kernel
theorem dX5_leansBy_2 : decode cX5_leansBy 2 = .ok (.isub, 1) := by decide +kernel
theorem dX5_leansBy_3 : decode cX5_leansBy 3 = .ok (.ireturn, 1) := by decide +kernel
def m0_leansBy (a1 : Int32) (m : M) : Option (Int32) :=
  some (a1 - (1 : Int32))
set_option maxRecDepth 20000 in
theorem t_m0_leansBy {G : GG} {x : Cx} (E : En G x cX5_leansBy "WreckBoard$Member" 1 (some .int)) (hn : xn x = 5) (a1 : Int32) (m : M) : Sm G x 0 [(1, .int a1)] [] m (m0_leansBy a1 m) (KRi m) := by
  unfold m0_leansBy
  refine s_iload_n 0 E dX5_leansBy_0 rfl rfl ?_
  refine s_iconst (v := (1 : Int32)) E dX5_leansBy_1 (by decide) ?_
  refine s_isub E dX5_leansBy_2 ?_
  exact s_iret E rfl dX5_leansBy_3
set_option maxRecDepth 20000 in
theorem C_m0_leansBy (l : Launch) (G : GG) (a1 : Int32) (a2 : Int32) (a3 : Int32) (a4 : Int32) (m : M) {z : Int32} (hz : m0_leansBy a1 m = some z) : Ct l G yX5_leansBy cX5_leansBy 5 (some .int) 1 [.ref (G.2.1 64), .int a1, .int a2, .int a3, .int a4] m (some (.int z)) m :=
  ct_of (K := (KRi m)) (by decide) (Nat.le_of_ble_eq_true rfl) (congrArg (fun q => Option.bind q _) hz) (fun x hl hn E => s_sub [1] rfl (t_m0_leansBy E hn a1 m))
theorem dX10_leansBy_0 : decode cX10_leansBy 0 = .ok (.iload_n 3, 1) := by decide +kernel
theorem dX10_leansBy_1 : decode cX10_leansBy 1 = .ok (.iload_n 1, 1) := by decide +kernel
theorem dX10_leansBy_2 : decode cX10_leansBy 2 = .ok (.imul, 1) := by decide +kernel
theorem dX10_leansBy_3 : decode cX10_leansBy 3 = .ok (.iconst 1, 1) := by decide +kernel
theorem dX10_leansBy_4 : decode cX10_leansBy 4 = .ok (.iadd, 1) := by decide +kernel
theorem dX10_leansBy_5 : decode cX10_leansBy 5 = .ok (.ireturn, 1) := by decide +kernel
def m1_leansBy (a1 : Int32) (a3 : Int32) (m : M) : Option (Int32) :=
  some ((a3 * a1) + (1 : Int32))
set_option maxRecDepth 20000 in
theorem t_m1_leansBy {G : GG} {x : Cx} (E : En G x cX10_leansBy "WreckBoard$Wrecker" 1 (some .int)) (hn : xn x = 5) (a1 : Int32) (a3 : Int32) (m : M) : Sm G x 0 [(1, .int a1), (3, .int a3)] [] m (m1_leansBy a1 a3 m) (KRi m) := by
  unfold m1_leansBy
  refine s_iload_n 1 E dX10_leansBy_0 rfl rfl ?_
  refine s_iload_n 0 E dX10_leansBy_1 rfl rfl ?_
  refine s_imul E dX10_leansBy_2 ?_
  refine s_iconst (v := (1 : Int32)) E dX10_leansBy_3 (by decide) ?_
  refine s_iadd E dX10_leansBy_4 ?_
  exact s_iret E rfl dX10_leansBy_5
set_option maxRecDepth 20000 in
theorem C_m1_leansBy (l : Launch) (G : GG) (a1 : Int32) (a2 : Int32) (a3 : Int32) (a4 : Int32) (m : M) {z : Int32} (hz : m1_leansBy a1 a3 m = some z) : Ct l G yX10_leansBy cX10_leansBy 5 (some .int) 1 [.ref (G.2.1 65), .int a1, .int a2, .int a3, .int a4] m (some (.int z)) m :=
  ct_of (K := (KRi m)) (by decide) (Nat.le_of_ble_eq_true rfl) (congrArg (fun q => Option.bind q _) hz) (fun x hl hn E => s_sub [1, 3] rfl (t_m1_leansBy E hn a1 a3 m))
theorem dX8_leansBy_0 : decode cX8_leansBy 0 = .ok (.iload_n 2, 1) := by decide +kernel
theorem dX8_leansBy_1 : decode cX8_leansBy 1 = .ok (.iconst 5, 1) := by decide +kernel
theorem dX8_leansBy_2 : decode cX8_leansBy 2 = .ok (.if_icmp .ge 8, 3) := by decide +kernel
theorem dX8_leansBy_5 : decode cX8_leansBy 5 = .ok (.bipush (-3), 2) := by decide +kernel
theorem dX8_leansBy_7 : decode cX8_leansBy 7 = .ok (.goto 4, 3) := by decide +kernel
theorem dX8_leansBy_10 : decode cX8_leansBy 10 = .ok (.iconst (-1), 1) := by decide +kernel
theorem dX8_leansBy_11 : decode cX8_leansBy 11 = .ok (.ireturn, 1) := by decide +kernel
def m2_leansBy (a2 : Int32) (m : M) : Option (Int32) :=
  (if (5 : Int32) ≤ a2 then some (-1 : Int32) else some (-3 : Int32))
set_option maxRecDepth 20000 in
theorem t_m2_leansBy {G : GG} {x : Cx} (E : En G x cX8_leansBy "WreckBoard$Saver" 1 (some .int)) (hn : xn x = 5) (a2 : Int32) (m : M) : Sm G x 0 [(2, .int a2)] [] m (m2_leansBy a2 m) (KRi m) := by
  unfold m2_leansBy
  refine s_iload_n 0 E dX8_leansBy_0 rfl rfl ?_
  refine s_iconst (v := (5 : Int32)) E dX8_leansBy_1 (by decide) ?_
  refine s_icmp_ge 10 E dX8_leansBy_2 (by decide) ?_ ?_
  · refine s_iconst (v := (-1 : Int32)) E dX8_leansBy_10 (by decide) ?_
    exact s_iret E rfl dX8_leansBy_11
  · refine s_bipush (v := (-3 : Int32)) E dX8_leansBy_5 (by decide) ?_
    refine s_goto 11 E dX8_leansBy_7 (by decide) ?_
    exact s_iret E rfl dX8_leansBy_11
set_option maxRecDepth 20000 in
theorem C_m2_leansBy (l : Launch) (G : GG) (a1 : Int32) (a2 : Int32) (a3 : Int32) (a4 : Int32) (m : M) {z : Int32} (hz : m2_leansBy a2 m = some z) : Ct l G yX8_leansBy cX8_leansBy 5 (some .int) 1 [.ref (G.2.1 66), .int a1, .int a2, .int a3, .int a4] m (some (.int z)) m :=
  ct_of (K := (KRi m)) (by decide) (Nat.le_of_ble_eq_true rfl) (congrArg (fun q => Option.bind q _) hz) (fun x hl hn E => s_sub [2] rfl (t_m2_leansBy E hn a2 m))
def m2_leansBy_67 (a2 : Int32) (m : M) : Option (Int32) :=
  (if (5 : Int32) ≤ a2 then some (-1 : Int32) else some (-3 : Int32))
set_option maxRecDepth 20000 in
theorem t_m2_leansBy_67 {G : GG} {x : Cx} (E : En G x cX8_leansBy "WreckBoard$Saver" 1 (some .int)) (hn : xn x = 5) (a2 : Int32) (m : M) : Sm G x 0 [(2, .int a2)] [] m (m2_leansBy_67 a2 m) (KRi m) := by
  unfold m2_leansBy_67
  refine s_iload_n 0 E dX8_leansBy_0 rfl rfl ?_
  refine s_iconst (v := (5 : Int32)) E dX8_leansBy_1 (by decide) ?_
  refine s_icmp_ge 10 E dX8_leansBy_2 (by decide) ?_ ?_
  · refine s_iconst (v := (-1 : Int32)) E dX8_leansBy_10 (by decide) ?_
    exact s_iret E rfl dX8_leansBy_11
  · refine s_bipush (v := (-3 : Int32)) E dX8_leansBy_5 (by decide) ?_
    refine s_goto 11 E dX8_leansBy_7 (by decide) ?_
    exact s_iret E rfl dX8_leansBy_11
set_option maxRecDepth 20000 in
theorem C_m2_leansBy_67 (l : Launch) (G : GG) (a1 : Int32) (a2 : Int32) (a3 : Int32) (a4 : Int32) (m : M) {z : Int32} (hz : m2_leansBy_67 a2 m = some z) : Ct l G yX8_leansBy cX8_leansBy 5 (some .int) 1 [.ref (G.2.1 67), .int a1, .int a2, .int a3, .int a4] m (some (.int z)) m :=
  ct_of (K := (KRi m)) (by decide) (Nat.le_of_ble_eq_true rfl) (congrArg (fun q => Option.bind q _) hz) (fun x hl hn E => s_sub [2] rfl (t_m2_leansBy_67 E hn a2 m))
theorem mdX8_leansBy : mdq yX8_leansBy 4 := ⟨by decide, by decide, by decide +kernel⟩
theorem dX1_leansBy_0 : decode cX1_leansBy 0 = .ok (.iload 4, 2) := by decide +kernel
theorem dX1_leansBy_2 : decode cX1_leansBy 2 = .ok (.iconst 2, 1) := by decide +kernel
theorem dX1_leansBy_3 : decode cX1_leansBy 3 = .ok (.irem, 1) := by decide +kernel
theorem dX1_leansBy_4 : decode cX1_leansBy 4 = .ok (.ifCond .ne 15, 3) := by decide +kernel
theorem dX1_leansBy_7 : decode cX1_leansBy 7 = .ok (.aload_n 0, 1) := by decide +kernel
theorem dX1_leansBy_8 : decode cX1_leansBy 8 = .ok (.iload_n 1, 1) := by decide +kernel
theorem dX1_leansBy_9 : decode cX1_leansBy 9 = .ok (.iload_n 2, 1) := by decide +kernel
theorem dX1_leansBy_10 : decode cX1_leansBy 10 = .ok (.iload_n 3, 1) := by decide +kernel
theorem dX1_leansBy_11 : decode cX1_leansBy 11 = .ok (.iload 4, 2) := by decide +kernel
theorem dX1_leansBy_13 : decode cX1_leansBy 13 = .ok (.invokespecial 7, 3) := by decide +kernel
theorem dX1_leansBy_16 : decode cX1_leansBy 16 = .ok (.goto 4, 3) := by decide +kernel
theorem dX1_leansBy_19 : decode cX1_leansBy 19 = .ok (.iconst 0, 1) := by decide +kernel
theorem dX1_leansBy_20 : decode cX1_leansBy 20 = .ok (.ireturn, 1) := by decide +kernel
def m3_leansBy (a1 : Int32) (a2 : Int32) (a3 : Int32) (a4 : Int32) (m : M) : Option (Int32) :=
  (if (a4 - a4 / (2 : Int32) * (2 : Int32)) = 0 then Option.bind (m2_leansBy_67 a2 m) (fun v1 => some v1) else some (0 : Int32))
set_option maxRecDepth 20000 in
theorem t_m3_leansBy {G : GG} {x : Cx} (E : En G x cX1_leansBy "WreckBoard$Chair" 2 (some .int)) (hn : xn x = 5) (a1 : Int32) (a2 : Int32) (a3 : Int32) (a4 : Int32) (m : M) : Sm G x 0 [(0, .ref (G.2.1 67)), (1, .int a1), (2, .int a2), (3, .int a3), (4, .int a4)] [] m (m3_leansBy a1 a2 a3 a4 m) (KRi m) := by
  unfold m3_leansBy
  refine s_iload 4 E dX1_leansBy_0 rfl ?_
  refine s_iconst (v := (2 : Int32)) E dX1_leansBy_2 (by decide) ?_
  refine s_iremc E dX1_leansBy_3 (by decide) ?_
  refine s_if_ne 19 E dX1_leansBy_4 (by decide) ?_ ?_
  · refine s_iconst (v := (0 : Int32)) E dX1_leansBy_19 (by decide) ?_
    exact s_iret E rfl dX1_leansBy_20
  · refine s_aload_n 0 E dX1_leansBy_7 rfl rfl ?_
    refine s_iload_n 1 E dX1_leansBy_8 rfl rfl ?_
    refine s_iload_n 2 E dX1_leansBy_9 rfl rfl ?_
    refine s_iload_n 3 E dX1_leansBy_10 rfl rfl ?_
    refine s_iload 4 E dX1_leansBy_11 rfl ?_
    refine s_bd (fun v1 hz => ?_)
    refine s_cSU (n := 4) (rest := []) E (C_m2_leansBy_67 (xl x) G a1 a2 a3 a4 m hz) ⟨by decide, by decide +kernel⟩ W445 W1859 W207 W446 W97 W447 rfl rfl rfl rfl (Nat.le_of_ble_eq_true rfl) ⟨by decide, by decide⟩ dX1_leansBy_13 ?_
    refine s_goto 20 E dX1_leansBy_16 (by decide) ?_
    exact s_iret E rfl dX1_leansBy_20
set_option maxRecDepth 20000 in
theorem C_m3_leansBy (l : Launch) (G : GG) (a1 : Int32) (a2 : Int32) (a3 : Int32) (a4 : Int32) (m : M) {z : Int32} (hz : m3_leansBy a1 a2 a3 a4 m = some z) : Ct l G yX1_leansBy cX1_leansBy 5 (some .int) 2 [.ref (G.2.1 67), .int a1, .int a2, .int a3, .int a4] m (some (.int z)) m :=
  ct_of (K := (KRi m)) (by decide) (Nat.le_of_ble_eq_true rfl) (congrArg (fun q => Option.bind q _) hz) (fun x hl hn E => (t_m3_leansBy E hn a1 a2 a3 a4 m))
def m0_leansBy_68 (a1 : Int32) (m : M) : Option (Int32) :=
  some (a1 - (1 : Int32))
set_option maxRecDepth 20000 in
theorem t_m0_leansBy_68 {G : GG} {x : Cx} (E : En G x cX5_leansBy "WreckBoard$Member" 1 (some .int)) (hn : xn x = 5) (a1 : Int32) (m : M) : Sm G x 0 [(1, .int a1)] [] m (m0_leansBy_68 a1 m) (KRi m) := by
  unfold m0_leansBy_68
  refine s_iload_n 0 E dX5_leansBy_0 rfl rfl ?_
  refine s_iconst (v := (1 : Int32)) E dX5_leansBy_1 (by decide) ?_
  refine s_isub E dX5_leansBy_2 ?_
  exact s_iret E rfl dX5_leansBy_3
set_option maxRecDepth 20000 in
theorem C_m0_leansBy_68 (l : Launch) (G : GG) (a1 : Int32) (a2 : Int32) (a3 : Int32) (a4 : Int32) (m : M) {z : Int32} (hz : m0_leansBy_68 a1 m = some z) : Ct l G yX5_leansBy cX5_leansBy 5 (some .int) 1 [.ref (G.2.1 68), .int a1, .int a2, .int a3, .int a4] m (some (.int z)) m :=
  ct_of (K := (KRi m)) (by decide) (Nat.le_of_ble_eq_true rfl) (congrArg (fun q => Option.bind q _) hz) (fun x hl hn E => s_sub [1] rfl (t_m0_leansBy_68 E hn a1 m))
theorem mdX5_leansBy : mdq yX5_leansBy 4 := ⟨by decide, by decide, by decide +kernel⟩
theorem dX3_leansBy_0 : decode cX3_leansBy 0 = .ok (.iload_n 1, 1) := by decide +kernel
theorem dX3_leansBy_1 : decode cX3_leansBy 1 = .ok (.iconst 2, 1) := by decide +kernel
theorem dX3_leansBy_2 : decode cX3_leansBy 2 = .ok (.if_icmp .ne 7, 3) := by decide +kernel
theorem dX3_leansBy_5 : decode cX3_leansBy 5 = .ok (.iload_n 3, 1) := by decide +kernel
theorem dX3_leansBy_6 : decode cX3_leansBy 6 = .ok (.goto 12, 3) := by decide +kernel
theorem dX3_leansBy_9 : decode cX3_leansBy 9 = .ok (.aload_n 0, 1) := by decide +kernel
theorem dX3_leansBy_10 : decode cX3_leansBy 10 = .ok (.iload_n 1, 1) := by decide +kernel
theorem dX3_leansBy_11 : decode cX3_leansBy 11 = .ok (.iload_n 2, 1) := by decide +kernel
theorem dX3_leansBy_12 : decode cX3_leansBy 12 = .ok (.iload_n 3, 1) := by decide +kernel
theorem dX3_leansBy_13 : decode cX3_leansBy 13 = .ok (.iload 4, 2) := by decide +kernel
theorem dX3_leansBy_15 : decode cX3_leansBy 15 = .ok (.invokespecial 7, 3) := by decide +kernel
theorem dX3_leansBy_18 : decode cX3_leansBy 18 = .ok (.ireturn, 1) := by decide +kernel
def m4_leansBy (a1 : Int32) (a2 : Int32) (a3 : Int32) (a4 : Int32) (m : M) : Option (Int32) :=
  (if a1 = (2 : Int32) then some a3 else Option.bind (m0_leansBy_68 a1 m) (fun v1 => some v1))
set_option maxRecDepth 20000 in
theorem t_m4_leansBy {G : GG} {x : Cx} (E : En G x cX3_leansBy "WreckBoard$Farmer" 2 (some .int)) (hn : xn x = 5) (a1 : Int32) (a2 : Int32) (a3 : Int32) (a4 : Int32) (m : M) : Sm G x 0 [(0, .ref (G.2.1 68)), (1, .int a1), (2, .int a2), (3, .int a3), (4, .int a4)] [] m (m4_leansBy a1 a2 a3 a4 m) (KRi m) := by
  unfold m4_leansBy
  refine s_iload_n 1 E dX3_leansBy_0 rfl rfl ?_
  refine s_iconst (v := (2 : Int32)) E dX3_leansBy_1 (by decide) ?_
  refine s_icmp_ne 9 E dX3_leansBy_2 (by decide) ?_ ?_
  · refine s_aload_n 0 E dX3_leansBy_9 rfl rfl ?_
    refine s_iload_n 1 E dX3_leansBy_10 rfl rfl ?_
    refine s_iload_n 2 E dX3_leansBy_11 rfl rfl ?_
    refine s_iload_n 3 E dX3_leansBy_12 rfl rfl ?_
    refine s_iload 4 E dX3_leansBy_13 rfl ?_
    refine s_bd (fun v1 hz => ?_)
    refine s_cSU (n := 4) (rest := []) E (C_m0_leansBy_68 (xl x) G a1 a2 a3 a4 m hz) ⟨by decide, by decide +kernel⟩ W451 W441 W214 W439 W95 W460 rfl rfl rfl rfl (Nat.le_of_ble_eq_true rfl) ⟨by decide, by decide⟩ dX3_leansBy_15 ?_
    exact s_iret E rfl dX3_leansBy_18
  · refine s_iload_n 3 E dX3_leansBy_5 rfl rfl ?_
    refine s_goto 18 E dX3_leansBy_6 (by decide) ?_
    exact s_iret E rfl dX3_leansBy_18
set_option maxRecDepth 20000 in
theorem C_m4_leansBy (l : Launch) (G : GG) (a1 : Int32) (a2 : Int32) (a3 : Int32) (a4 : Int32) (m : M) {z : Int32} (hz : m4_leansBy a1 a2 a3 a4 m = some z) : Ct l G yX3_leansBy cX3_leansBy 5 (some .int) 2 [.ref (G.2.1 68), .int a1, .int a2, .int a3, .int a4] m (some (.int z)) m :=
  ct_of (K := (KRi m)) (by decide) (Nat.le_of_ble_eq_true rfl) (congrArg (fun q => Option.bind q _) hz) (fun x hl hn E => (t_m4_leansBy E hn a1 a2 a3 a4 m))
def m0_leansBy_69 (a1 : Int32) (m : M) : Option (Int32) :=
  some (a1 - (1 : Int32))
set_option maxRecDepth 20000 in
theorem t_m0_leansBy_69 {G : GG} {x : Cx} (E : En G x cX5_leansBy "WreckBoard$Member" 1 (some .int)) (hn : xn x = 5) (a1 : Int32) (m : M) : Sm G x 0 [(1, .int a1)] [] m (m0_leansBy_69 a1 m) (KRi m) := by
  unfold m0_leansBy_69
  refine s_iload_n 0 E dX5_leansBy_0 rfl rfl ?_
  refine s_iconst (v := (1 : Int32)) E dX5_leansBy_1 (by decide) ?_
  refine s_isub E dX5_leansBy_2 ?_
  exact s_iret E rfl dX5_leansBy_3
set_option maxRecDepth 20000 in
theorem C_m0_leansBy_69 (l : Launch) (G : GG) (a1 : Int32) (a2 : Int32) (a3 : Int32) (a4 : Int32) (m : M) {z : Int32} (hz : m0_leansBy_69 a1 m = some z) : Ct l G yX5_leansBy cX5_leansBy 5 (some .int) 1 [.ref (G.2.1 69), .int a1, .int a2, .int a3, .int a4] m (some (.int z)) m :=
  ct_of (K := (KRi m)) (by decide) (Nat.le_of_ble_eq_true rfl) (congrArg (fun q => Option.bind q _) hz) (fun x hl hn E => s_sub [1] rfl (t_m0_leansBy_69 E hn a1 m))
def m4_leansBy_69 (a1 : Int32) (a2 : Int32) (a3 : Int32) (a4 : Int32) (m : M) : Option (Int32) :=
  (if a1 = (2 : Int32) then some a3 else Option.bind (m0_leansBy_69 a1 m) (fun v1 => some v1))
set_option maxRecDepth 20000 in
theorem t_m4_leansBy_69 {G : GG} {x : Cx} (E : En G x cX3_leansBy "WreckBoard$Farmer" 2 (some .int)) (hn : xn x = 5) (a1 : Int32) (a2 : Int32) (a3 : Int32) (a4 : Int32) (m : M) : Sm G x 0 [(0, .ref (G.2.1 69)), (1, .int a1), (2, .int a2), (3, .int a3), (4, .int a4)] [] m (m4_leansBy_69 a1 a2 a3 a4 m) (KRi m) := by
  unfold m4_leansBy_69
  refine s_iload_n 1 E dX3_leansBy_0 rfl rfl ?_
  refine s_iconst (v := (2 : Int32)) E dX3_leansBy_1 (by decide) ?_
  refine s_icmp_ne 9 E dX3_leansBy_2 (by decide) ?_ ?_
  · refine s_aload_n 0 E dX3_leansBy_9 rfl rfl ?_
    refine s_iload_n 1 E dX3_leansBy_10 rfl rfl ?_
    refine s_iload_n 2 E dX3_leansBy_11 rfl rfl ?_
    refine s_iload_n 3 E dX3_leansBy_12 rfl rfl ?_
    refine s_iload 4 E dX3_leansBy_13 rfl ?_
    refine s_bd (fun v1 hz => ?_)
    refine s_cSU (n := 4) (rest := []) E (C_m0_leansBy_69 (xl x) G a1 a2 a3 a4 m hz) ⟨by decide, by decide +kernel⟩ W451 W441 W214 W439 W95 W460 rfl rfl rfl rfl (Nat.le_of_ble_eq_true rfl) ⟨by decide, by decide⟩ dX3_leansBy_15 ?_
    exact s_iret E rfl dX3_leansBy_18
  · refine s_iload_n 3 E dX3_leansBy_5 rfl rfl ?_
    refine s_goto 18 E dX3_leansBy_6 (by decide) ?_
    exact s_iret E rfl dX3_leansBy_18
set_option maxRecDepth 20000 in
theorem C_m4_leansBy_69 (l : Launch) (G : GG) (a1 : Int32) (a2 : Int32) (a3 : Int32) (a4 : Int32) (m : M) {z : Int32} (hz : m4_leansBy_69 a1 a2 a3 a4 m = some z) : Ct l G yX3_leansBy cX3_leansBy 5 (some .int) 2 [.ref (G.2.1 69), .int a1, .int a2, .int a3, .int a4] m (some (.int z)) m :=
  ct_of (K := (KRi m)) (by decide) (Nat.le_of_ble_eq_true rfl) (congrArg (fun q => Option.bind q _) hz) (fun x hl hn E => (t_m4_leansBy_69 E hn a1 a2 a3 a4 m))
theorem mdX3_leansBy : mdq yX3_leansBy 4 := ⟨by decide, by decide, by decide +kernel⟩
theorem dX4_leansBy_0 : decode cX4_leansBy 0 = .ok (.aload_n 0, 1) := by decide +kernel
theorem dX4_leansBy_1 : decode cX4_leansBy 1 = .ok (.iload_n 1, 1) := by decide +kernel
theorem dX4_leansBy_2 : decode cX4_leansBy 2 = .ok (.iload_n 2, 1) := by decide +kernel
theorem dX4_leansBy_3 : decode cX4_leansBy 3 = .ok (.iload_n 3, 1) := by decide +kernel
theorem dX4_leansBy_4 : decode cX4_leansBy 4 = .ok (.iload 4, 2) := by decide +kernel
theorem dX4_leansBy_6 : decode cX4_leansBy 6 = .ok (.invokespecial 7, 3) := by decide +kernel
theorem dX4_leansBy_9 : decode cX4_leansBy 9 = .ok (.ineg, 1) := by decide +kernel
theorem dX4_leansBy_10 : decode cX4_leansBy 10 = .ok (.ireturn, 1) := by decide +kernel
def m5_leansBy (a1 : Int32) (a2 : Int32) (a3 : Int32) (a4 : Int32) (m : M) : Option (Int32) :=
  Option.bind (m4_leansBy_69 a1 a2 a3 a4 m) (fun v1 => some (-v1))
set_option maxRecDepth 20000 in
theorem t_m5_leansBy {G : GG} {x : Cx} (E : En G x cX4_leansBy "WreckBoard$Lad" 3 (some .int)) (hn : xn x = 5) (a1 : Int32) (a2 : Int32) (a3 : Int32) (a4 : Int32) (m : M) : Sm G x 0 [(0, .ref (G.2.1 69)), (1, .int a1), (2, .int a2), (3, .int a3), (4, .int a4)] [] m (m5_leansBy a1 a2 a3 a4 m) (KRi m) := by
  unfold m5_leansBy
  refine s_aload_n 0 E dX4_leansBy_0 rfl rfl ?_
  refine s_iload_n 1 E dX4_leansBy_1 rfl rfl ?_
  refine s_iload_n 2 E dX4_leansBy_2 rfl rfl ?_
  refine s_iload_n 3 E dX4_leansBy_3 rfl rfl ?_
  refine s_iload 4 E dX4_leansBy_4 rfl ?_
  refine s_bd (fun v1 hz => ?_)
  refine s_cSU (n := 4) (rest := []) E (C_m4_leansBy_69 (xl x) G a1 a2 a3 a4 m hz) ⟨by decide, by decide +kernel⟩ W455 W1860 W221 W449 W99 W450 rfl rfl rfl rfl (Nat.le_of_ble_eq_true rfl) ⟨by decide, by decide⟩ dX4_leansBy_6 ?_
  refine s_ineg E dX4_leansBy_9 ?_
  exact s_iret E rfl dX4_leansBy_10
set_option maxRecDepth 20000 in
theorem C_m5_leansBy (l : Launch) (G : GG) (a1 : Int32) (a2 : Int32) (a3 : Int32) (a4 : Int32) (m : M) {z : Int32} (hz : m5_leansBy a1 a2 a3 a4 m = some z) : Ct l G yX4_leansBy cX4_leansBy 5 (some .int) 3 [.ref (G.2.1 69), .int a1, .int a2, .int a3, .int a4] m (some (.int z)) m :=
  ct_of (K := (KRi m)) (by decide) (Nat.le_of_ble_eq_true rfl) (congrArg (fun q => Option.bind q _) hz) (fun x hl hn E => (t_m5_leansBy E hn a1 a2 a3 a4 m))
def vd_leansBy (p : Nat) (a1 : Int32) (a2 : Int32) (a3 : Int32) (a4 : Int32) (m : M) : Option (Int32) :=
  if p = 64 then m0_leansBy a1 m else if p = 65 then m1_leansBy a1 a3 m else if p = 66 then m2_leansBy a2 m else if p = 67 then m3_leansBy a1 a2 a3 a4 m else if p = 68 then m4_leansBy a1 a2 a3 a4 m else if p = 69 then m5_leansBy a1 a2 a3 a4 m else none
theorem D_vd_leansBy {α : Type} {G : GG} {x : Cx} {cc : ByteArray} {own : String} {lev : Nat} {ret : Option FieldType} {pc : Nat} {lv : List (Nat × Value)} {m : M} {o : Option α} {K : α → Option (Option Value × M)} {index : Nat} (rest : List Value) (E : En G x cc own lev ret) (p : Nat) (a1 : Int32) (a2 : Int32) (a3 : Int32) (a4 : Int32) {z : Int32} (hz : vd_leansBy p a1 a2 a3 a4 m = some z) (hl : Cond.methodLink own index ({ cls := "WreckBoard$Member", name := "leansBy", desc := "(IIII)I" } : MethodName) ∈ gw) (hroom : (rest.map fun v => v.category).sum ≤ 8) (hlev : 3 + 1 ≤ lev) (d : decode cc pc = .ok (.invokevirtual index, 3)) (k : Sm G x (pc + 3) lv ((.int z) :: rest) m o K) : Sm G x pc lv (.int a4 :: .int a3 :: .int a2 :: .int a1 :: .ref (G.2.1 p) :: rest) m o K := by
  unfold vd_leansBy at hz
  by_cases h : p = 64
  · rw [if_pos h] at hz
    subst h
    exact s_cU (n := 4) (rest := rest) (z := ⟨"WreckBoard$Member", "leansBy", "(IIII)I"⟩) (owner := "WreckBoard$Member") E (C_m0_leansBy (xl x) G a1 a2 a3 a4 m hz) ⟨by decide, by decide, by decide +kernel⟩ hl W441 W439 W460 W440 W439 W95 W460 rfl rfl rfl rfl hroom ⟨by omega, by omega⟩ d k
  rw [if_neg h] at hz
  clear h
  by_cases h : p = 65
  · rw [if_pos h] at hz
    subst h
    exact s_cU (n := 4) (rest := rest) (z := ⟨"WreckBoard$Member", "leansBy", "(IIII)I"⟩) (owner := "WreckBoard$Member") E (C_m1_leansBy (xl x) G a1 a2 a3 a4 m hz) ⟨by decide, by decide, by decide +kernel⟩ hl W441 W439 W460 W457 W458 W96 W459 rfl rfl rfl rfl hroom ⟨by omega, by omega⟩ d k
  rw [if_neg h] at hz
  clear h
  by_cases h : p = 66
  · rw [if_pos h] at hz
    subst h
    exact s_cU (n := 4) (rest := rest) (z := ⟨"WreckBoard$Member", "leansBy", "(IIII)I"⟩) (owner := "WreckBoard$Member") E (C_m2_leansBy (xl x) G a1 a2 a3 a4 m hz) ⟨by decide, by decide, by decide +kernel⟩ hl W441 W439 W460 W456 W446 W97 W447 rfl rfl rfl rfl hroom ⟨by omega, by omega⟩ d k
  rw [if_neg h] at hz
  clear h
  by_cases h : p = 67
  · rw [if_pos h] at hz
    subst h
    exact s_cU (n := 4) (rest := rest) (z := ⟨"WreckBoard$Member", "leansBy", "(IIII)I"⟩) (owner := "WreckBoard$Member") E (C_m3_leansBy (xl x) G a1 a2 a3 a4 m hz) ⟨by decide, by decide, by decide +kernel⟩ hl W441 W439 W460 W442 W443 W98 W444 rfl rfl rfl rfl hroom ⟨by omega, by omega⟩ d k
  rw [if_neg h] at hz
  clear h
  by_cases h : p = 68
  · rw [if_pos h] at hz
    subst h
    exact s_cU (n := 4) (rest := rest) (z := ⟨"WreckBoard$Member", "leansBy", "(IIII)I"⟩) (owner := "WreckBoard$Member") E (C_m4_leansBy (xl x) G a1 a2 a3 a4 m hz) ⟨by decide, by decide, by decide +kernel⟩ hl W441 W439 W460 W448 W449 W99 W450 rfl rfl rfl rfl hroom ⟨by omega, by omega⟩ d k
  rw [if_neg h] at hz
  clear h
  by_cases h : p = 69
  · rw [if_pos h] at hz
    subst h
    exact s_cU (n := 4) (rest := rest) (z := ⟨"WreckBoard$Member", "leansBy", "(IIII)I"⟩) (owner := "WreckBoard$Member") E (C_m5_leansBy (xl x) G a1 a2 a3 a4 m hz) ⟨by decide, by decide, by decide +kernel⟩ hl W441 W439 W460 W452 W453 W100 W454 rfl rfl rfl rfl hroom ⟨by omega, by omega⟩ d k
  rw [if_neg h] at hz
  clear h
  cases hz
theorem dX0_leanOf_0 : decode cX0_leanOf 0 = .ok (.aload_n 0, 1) := by decide +kernel
theorem dX0_leanOf_1 : decode cX0_leanOf 1 = .ok (.getfield 75, 3) := by decide +kernel
theorem dX0_leanOf_4 : decode cX0_leanOf 4 = .ok (.aload_n 0, 1) := by decide +kernel
theorem dX0_leanOf_5 : decode cX0_leanOf 5 = .ok (.getfield 21, 3) := by decide +kernel
theorem dX0_leanOf_8 : decode cX0_leanOf 8 = .ok (.iload_n 1, 1) := by decide +kernel
theorem dX0_leanOf_9 : decode cX0_leanOf 9 = .ok (.iaload, 1) := by decide +kernel
theorem dX0_leanOf_10 : decode cX0_leanOf 10 = .ok (.aaload, 1) := by decide +kernel
theorem dX0_leanOf_11 : decode cX0_leanOf 11 = .ok (.aload_n 0, 1) := by decide +kernel
theorem dX0_leanOf_12 : decode cX0_leanOf 12 = .ok (.invokevirtual 106, 3) := by decide +kernel
theorem dX0_leanOf_15 : decode cX0_leanOf 15 = .ok (.invokestatic 110, 3) := by decide +kernel
theorem dX0_leanOf_18 : decode cX0_leanOf 18 = .ok (.aload_n 0, 1) := by decide +kernel
theorem dX0_leanOf_19 : decode cX0_leanOf 19 = .ok (.getfield 15, 3) := by decide +kernel
theorem dX0_leanOf_22 : decode cX0_leanOf 22 = .ok (.aload_n 0, 1) := by decide +kernel
theorem dX0_leanOf_23 : decode cX0_leanOf 23 = .ok (.getfield 28, 3) := by decide +kernel
theorem dX0_leanOf_26 : decode cX0_leanOf 26 = .ok (.iload_n 1, 1) := by decide +kernel
theorem dX0_leanOf_27 : decode cX0_leanOf 27 = .ok (.iaload, 1) := by decide +kernel
theorem dX0_leanOf_28 : decode cX0_leanOf 28 = .ok (.aload_n 0, 1) := by decide +kernel
theorem dX0_leanOf_29 : decode cX0_leanOf 29 = .ok (.getfield 93, 3) := by decide +kernel
theorem dX0_leanOf_32 : decode cX0_leanOf 32 = .ok (.invokevirtual 114, 3) := by decide +kernel
theorem dX0_leanOf_35 : decode cX0_leanOf 35 = .ok (.aload_n 0, 1) := by decide +kernel
theorem dX0_leanOf_36 : decode cX0_leanOf 36 = .ok (.getfield 40, 3) := by decide +kernel
theorem dX0_leanOf_39 : decode cX0_leanOf 39 = .ok (.aload_n 0, 1) := by decide +kernel
theorem dX0_leanOf_40 : decode cX0_leanOf 40 = .ok (.getfield 31, 3) := by decide +kernel
theorem dX0_leanOf_43 : decode cX0_leanOf 43 = .ok (.iload_n 1, 1) := by decide +kernel
theorem dX0_leanOf_44 : decode cX0_leanOf 44 = .ok (.iaload, 1) := by decide +kernel
theorem dX0_leanOf_45 : decode cX0_leanOf 45 = .ok (.iaload, 1) := by decide +kernel
theorem dX0_leanOf_46 : decode cX0_leanOf 46 = .ok (.iadd, 1) := by decide +kernel
theorem dX0_leanOf_47 : decode cX0_leanOf 47 = .ok (.ireturn, 1) := by decide +kernel
def b_leanOf (a1 : Int32) (m : M) : Option (Int32) :=
  Option.bind (rdI m 10 a1) (fun v1 => Option.bind (rdR 17 v1) (fun p2 => Option.bind (b_shipNow m) (fun v3 => Option.bind (b_valueOf v3 m) (fun v4 => Option.bind (rdI m 12 a1) (fun v5 => Option.bind (vd_leansBy p2 v4 (m 1 2) v5 (m 1 0) m) (fun v6 => Option.bind (rdI m 13 a1) (fun v7 => Option.bind (rdI m 16 v7) (fun v8 => some (v6 + v8)))))))))
set_option maxRecDepth 20000 in
theorem t_b_leanOf {G : GG} {x : Cx} (E : En G x cX0_leanOf "WreckBoard$Board" 4 (some .int)) (hn : xn x = 2) (a1 : Int32) (m : M) : Sm G x 0 [(0, .ref (G.2.1 1)), (1, .int a1)] [] m (b_leanOf a1 m) (KRi m) := by
  unfold b_leanOf
  refine s_aload_n 0 E dX0_leanOf_0 rfl rfl ?_
  refine s_getr (k := 18) (T := TX0) 1 E rfl rfl rfl inX0 (by decide) W262 dX0_leanOf_1 ?_
  refine s_aload_n 0 E dX0_leanOf_4 rfl rfl ?_
  refine s_getr (k := 9) (T := TX0) 1 E rfl rfl rfl inX0 (by decide) W242 dX0_leanOf_5 ?_
  refine s_iload_n 1 E dX0_leanOf_8 rfl rfl ?_
  refine s_iald E dX0_leanOf_9 (fun v1 => ?_)
  refine s_aald E dX0_leanOf_10 (fun p2 => ?_)
  refine s_aload_n 0 E dX0_leanOf_11 rfl rfl ?_
  refine s_bd (fun v3 hz => ?_)
  refine s_cV (rest := [.ref (G.2.1 p2)]) E (C_b_shipNow (xl x) G  m hz) mdX0_shipNow W431 W432 W433 W92 W434 rfl rfl rfl rfl (Nat.le_of_ble_eq_true rfl) ⟨by decide, by decide⟩ dX0_leanOf_12 ?_
  refine s_bd (fun v4 hz => ?_)
  refine s_cS (rest := [.ref (G.2.1 p2)]) E (C_b_valueOf (xl x) G v3 m hz) mdX0_valueOf W435 W436 W92 W437 rfl rfl (Nat.le_of_ble_eq_true rfl) ⟨by decide, by decide⟩ dX0_leanOf_15 ?_
  refine s_aload_n 0 E dX0_leanOf_18 rfl rfl ?_
  refine s_geti (k := 2) (T := TX0) 1 E rfl rfl rfl inX0 (by decide) W227 dX0_leanOf_19 ?_
  refine s_aload_n 0 E dX0_leanOf_22 rfl rfl ?_
  refine s_getr (k := 11) (T := TX0) 1 E rfl rfl rfl inX0 (by decide) W247 dX0_leanOf_23 ?_
  refine s_iload_n 1 E dX0_leanOf_26 rfl rfl ?_
  refine s_iald E dX0_leanOf_27 (fun v5 => ?_)
  refine s_aload_n 0 E dX0_leanOf_28 rfl rfl ?_
  refine s_geti (k := 0) (T := TX0) 1 E rfl rfl rfl inX0 (by decide) W222 dX0_leanOf_29 ?_
  refine s_bd (fun v6 hz => ?_)
  refine D_vd_leansBy [] E p2 v4 (m 1 2) v5 (m 1 0) hz W438 (Nat.le_of_ble_eq_true rfl) (by decide) dX0_leanOf_32 ?_
  refine s_aload_n 0 E dX0_leanOf_35 rfl rfl ?_
  refine s_getr (k := 15) (T := TX0) 1 E rfl rfl rfl inX0 (by decide) W256 dX0_leanOf_36 ?_
  refine s_aload_n 0 E dX0_leanOf_39 rfl rfl ?_
  refine s_getr (k := 12) (T := TX0) 1 E rfl rfl rfl inX0 (by decide) W250 dX0_leanOf_40 ?_
  refine s_iload_n 1 E dX0_leanOf_43 rfl rfl ?_
  refine s_iald E dX0_leanOf_44 (fun v7 => ?_)
  refine s_iald E dX0_leanOf_45 (fun v8 => ?_)
  refine s_iadd E dX0_leanOf_46 ?_
  exact s_iret E rfl dX0_leanOf_47
set_option maxRecDepth 20000 in
theorem C_b_leanOf (l : Launch) (G : GG) (a1 : Int32) (m : M) {z : Int32} (hz : b_leanOf a1 m = some z) : Ct l G yX0_leanOf cX0_leanOf 2 (some .int) 4 [.ref (G.2.1 1), .int a1] m (some (.int z)) m :=
  ct_of (K := (KRi m)) (by decide) (Nat.le_of_ble_eq_true rfl) (congrArg (fun q => Option.bind q _) hz) (fun x hl hn E => (t_b_leanOf E hn a1 m))
theorem mdX0_leanOf : mdq yX0_leanOf 1 := ⟨by decide, by decide, by decide +kernel⟩
theorem dX11_side_0 : decode cX11_side 0 = .ok (.iload_n 0, 1) := by decide +kernel
theorem dX11_side_1 : decode cX11_side 1 = .ok (.ifCond .le 5, 3) := by decide +kernel
theorem dX11_side_4 : decode cX11_side 4 = .ok (.iconst 2, 1) := by decide +kernel
theorem dX11_side_5 : decode cX11_side 5 = .ok (.ireturn, 1) := by decide +kernel
theorem dX11_side_6 : decode cX11_side 6 = .ok (.iload_n 0, 1) := by decide +kernel
theorem dX11_side_7 : decode cX11_side 7 = .ok (.ifCond .ge 7, 3) := by decide +kernel
theorem dX11_side_10 : decode cX11_side 10 = .ok (.iconst 0, 1) := by decide +kernel
theorem dX11_side_11 : decode cX11_side 11 = .ok (.goto 4, 3) := by decide +kernel
theorem dX11_side_14 : decode cX11_side 14 = .ok (.iconst 1, 1) := by decide +kernel
theorem dX11_side_15 : decode cX11_side 15 = .ok (.ireturn, 1) := by decide +kernel
def k_side (a0 : Int32) (m : M) : Option (Int32) :=
  (if a0 ≤ 0 then (if 0 ≤ a0 then some (1 : Int32) else some (0 : Int32)) else some (2 : Int32))
set_option maxRecDepth 20000 in
theorem t_k_side {G : GG} {x : Cx} (E : En G x cX11_side "WreckBoard" 1 (some .int)) (hn : xn x = 1) (a0 : Int32) (m : M) : Sm G x 0 [(0, .int a0)] [] m (k_side a0 m) (KRi m) := by
  unfold k_side
  refine s_iload_n 0 E dX11_side_0 rfl rfl ?_
  refine s_if_le 6 E dX11_side_1 (by decide) ?_ ?_
  · refine s_iload_n 0 E dX11_side_6 rfl rfl ?_
    refine s_if_ge 14 E dX11_side_7 (by decide) ?_ ?_
    · refine s_iconst (v := (1 : Int32)) E dX11_side_14 (by decide) ?_
      exact s_iret E rfl dX11_side_15
    · refine s_iconst (v := (0 : Int32)) E dX11_side_10 (by decide) ?_
      refine s_goto 15 E dX11_side_11 (by decide) ?_
      exact s_iret E rfl dX11_side_15
  · refine s_iconst (v := (2 : Int32)) E dX11_side_4 (by decide) ?_
    exact s_iret E rfl dX11_side_5
set_option maxRecDepth 20000 in
theorem C_k_side (l : Launch) (G : GG) (a0 : Int32) (m : M) {z : Int32} (hz : k_side a0 m = some z) : Ct l G yX11_side cX11_side 1 (some .int) 1 [.int a0] m (some (.int z)) m :=
  ct_of (K := (KRi m)) (by decide) (Nat.le_of_ble_eq_true rfl) (congrArg (fun q => Option.bind q _) hz) (fun x hl hn E => (t_k_side E hn a0 m))
theorem mdX11_side : mdq yX11_side 1 := ⟨by decide, by decide, by decide +kernel⟩
theorem dX5_weighsBy_0 : decode cX5_weighsBy 0 = .ok (.iload_n 1, 1) := by decide +kernel
theorem dX5_weighsBy_1 : decode cX5_weighsBy 1 = .ok (.ireturn, 1) := by decide +kernel
def m0_weighsBy (a1 : Int32) (m : M) : Option (Int32) :=
  some a1
set_option maxRecDepth 20000 in
theorem t_m0_weighsBy {G : GG} {x : Cx} (E : En G x cX5_weighsBy "WreckBoard$Member" 1 (some .int)) (hn : xn x = 3) (a1 : Int32) (m : M) : Sm G x 0 [(1, .int a1)] [] m (m0_weighsBy a1 m) (KRi m) := by
  unfold m0_weighsBy
  refine s_iload_n 0 E dX5_weighsBy_0 rfl rfl ?_
  exact s_iret E rfl dX5_weighsBy_1
set_option maxRecDepth 20000 in
theorem C_m0_weighsBy (l : Launch) (G : GG) (a1 : Int32) (a2 : Int32) (m : M) {z : Int32} (hz : m0_weighsBy a1 m = some z) : Ct l G yX5_weighsBy cX5_weighsBy 3 (some .int) 1 [.ref (G.2.1 64), .int a1, .int a2] m (some (.int z)) m :=
  ct_of (K := (KRi m)) (by decide) (Nat.le_of_ble_eq_true rfl) (congrArg (fun q => Option.bind q _) hz) (fun x hl hn E => s_sub [1] rfl (t_m0_weighsBy E hn a1 m))
def m0_weighsBy_65 (a1 : Int32) (m : M) : Option (Int32) :=
  some a1
set_option maxRecDepth 20000 in
theorem t_m0_weighsBy_65 {G : GG} {x : Cx} (E : En G x cX5_weighsBy "WreckBoard$Member" 1 (some .int)) (hn : xn x = 3) (a1 : Int32) (m : M) : Sm G x 0 [(1, .int a1)] [] m (m0_weighsBy_65 a1 m) (KRi m) := by
  unfold m0_weighsBy_65
  refine s_iload_n 0 E dX5_weighsBy_0 rfl rfl ?_
  exact s_iret E rfl dX5_weighsBy_1
set_option maxRecDepth 20000 in
theorem C_m0_weighsBy_65 (l : Launch) (G : GG) (a1 : Int32) (a2 : Int32) (m : M) {z : Int32} (hz : m0_weighsBy_65 a1 m = some z) : Ct l G yX5_weighsBy cX5_weighsBy 3 (some .int) 1 [.ref (G.2.1 65), .int a1, .int a2] m (some (.int z)) m :=
  ct_of (K := (KRi m)) (by decide) (Nat.le_of_ble_eq_true rfl) (congrArg (fun q => Option.bind q _) hz) (fun x hl hn E => s_sub [1] rfl (t_m0_weighsBy_65 E hn a1 m))
theorem mdX5_weighsBy : mdq yX5_weighsBy 2 := ⟨by decide, by decide, by decide +kernel⟩
theorem dX10_weighsBy_0 : decode cX10_weighsBy 0 = .ok (.aload_n 0, 1) := by decide +kernel
theorem dX10_weighsBy_1 : decode cX10_weighsBy 1 = .ok (.iload_n 1, 1) := by decide +kernel
theorem dX10_weighsBy_2 : decode cX10_weighsBy 2 = .ok (.iload_n 2, 1) := by decide +kernel
theorem dX10_weighsBy_3 : decode cX10_weighsBy 3 = .ok (.invokespecial 7, 3) := by decide +kernel
theorem dX10_weighsBy_6 : decode cX10_weighsBy 6 = .ok (.iconst 1, 1) := by decide +kernel
theorem dX10_weighsBy_7 : decode cX10_weighsBy 7 = .ok (.iadd, 1) := by decide +kernel
theorem dX10_weighsBy_8 : decode cX10_weighsBy 8 = .ok (.ireturn, 1) := by decide +kernel
def m1_weighsBy (a1 : Int32) (a2 : Int32) (m : M) : Option (Int32) :=
  Option.bind (m0_weighsBy_65 a1 m) (fun v1 => some (v1 + (1 : Int32)))
set_option maxRecDepth 20000 in
theorem t_m1_weighsBy {G : GG} {x : Cx} (E : En G x cX10_weighsBy "WreckBoard$Wrecker" 2 (some .int)) (hn : xn x = 3) (a1 : Int32) (a2 : Int32) (m : M) : Sm G x 0 [(0, .ref (G.2.1 65)), (1, .int a1), (2, .int a2)] [] m (m1_weighsBy a1 a2 m) (KRi m) := by
  unfold m1_weighsBy
  refine s_aload_n 0 E dX10_weighsBy_0 rfl rfl ?_
  refine s_iload_n 1 E dX10_weighsBy_1 rfl rfl ?_
  refine s_iload_n 2 E dX10_weighsBy_2 rfl rfl ?_
  refine s_bd (fun v1 hz => ?_)
  refine s_cSU (n := 2) (rest := []) E (C_m0_weighsBy_65 (xl x) G a1 a2 m hz) ⟨by decide, by decide +kernel⟩ W494 W471 W193 W469 W95 W495 rfl rfl rfl rfl (Nat.le_of_ble_eq_true rfl) ⟨by decide, by decide⟩ dX10_weighsBy_3 ?_
  refine s_iconst (v := (1 : Int32)) E dX10_weighsBy_6 (by decide) ?_
  refine s_iadd E dX10_weighsBy_7 ?_
  exact s_iret E rfl dX10_weighsBy_8
set_option maxRecDepth 20000 in
theorem C_m1_weighsBy (l : Launch) (G : GG) (a1 : Int32) (a2 : Int32) (m : M) {z : Int32} (hz : m1_weighsBy a1 a2 m = some z) : Ct l G yX10_weighsBy cX10_weighsBy 3 (some .int) 2 [.ref (G.2.1 65), .int a1, .int a2] m (some (.int z)) m :=
  ct_of (K := (KRi m)) (by decide) (Nat.le_of_ble_eq_true rfl) (congrArg (fun q => Option.bind q _) hz) (fun x hl hn E => (t_m1_weighsBy E hn a1 a2 m))
def m0_weighsBy_66 (a1 : Int32) (m : M) : Option (Int32) :=
  some a1
set_option maxRecDepth 20000 in
theorem t_m0_weighsBy_66 {G : GG} {x : Cx} (E : En G x cX5_weighsBy "WreckBoard$Member" 1 (some .int)) (hn : xn x = 3) (a1 : Int32) (m : M) : Sm G x 0 [(1, .int a1)] [] m (m0_weighsBy_66 a1 m) (KRi m) := by
  unfold m0_weighsBy_66
  refine s_iload_n 0 E dX5_weighsBy_0 rfl rfl ?_
  exact s_iret E rfl dX5_weighsBy_1
set_option maxRecDepth 20000 in
theorem C_m0_weighsBy_66 (l : Launch) (G : GG) (a1 : Int32) (a2 : Int32) (m : M) {z : Int32} (hz : m0_weighsBy_66 a1 m = some z) : Ct l G yX5_weighsBy cX5_weighsBy 3 (some .int) 1 [.ref (G.2.1 66), .int a1, .int a2] m (some (.int z)) m :=
  ct_of (K := (KRi m)) (by decide) (Nat.le_of_ble_eq_true rfl) (congrArg (fun q => Option.bind q _) hz) (fun x hl hn E => s_sub [1] rfl (t_m0_weighsBy_66 E hn a1 m))
theorem dX8_weighsBy_0 : decode cX8_weighsBy 0 = .ok (.iconst 2, 1) := by decide +kernel
theorem dX8_weighsBy_1 : decode cX8_weighsBy 1 = .ok (.aload_n 0, 1) := by decide +kernel
theorem dX8_weighsBy_2 : decode cX8_weighsBy 2 = .ok (.iload_n 1, 1) := by decide +kernel
theorem dX8_weighsBy_3 : decode cX8_weighsBy 3 = .ok (.iload_n 2, 1) := by decide +kernel
theorem dX8_weighsBy_4 : decode cX8_weighsBy 4 = .ok (.invokespecial 7, 3) := by decide +kernel
theorem dX8_weighsBy_7 : decode cX8_weighsBy 7 = .ok (.imul, 1) := by decide +kernel
theorem dX8_weighsBy_8 : decode cX8_weighsBy 8 = .ok (.ireturn, 1) := by decide +kernel
def m2_weighsBy (a1 : Int32) (a2 : Int32) (m : M) : Option (Int32) :=
  Option.bind (m0_weighsBy_66 a1 m) (fun v1 => some ((2 : Int32) * v1))
set_option maxRecDepth 20000 in
theorem t_m2_weighsBy {G : GG} {x : Cx} (E : En G x cX8_weighsBy "WreckBoard$Saver" 2 (some .int)) (hn : xn x = 3) (a1 : Int32) (a2 : Int32) (m : M) : Sm G x 0 [(0, .ref (G.2.1 66)), (1, .int a1), (2, .int a2)] [] m (m2_weighsBy a1 a2 m) (KRi m) := by
  unfold m2_weighsBy
  refine s_iconst (v := (2 : Int32)) E dX8_weighsBy_0 (by decide) ?_
  refine s_aload_n 0 E dX8_weighsBy_1 rfl rfl ?_
  refine s_iload_n 1 E dX8_weighsBy_2 rfl rfl ?_
  refine s_iload_n 2 E dX8_weighsBy_3 rfl rfl ?_
  refine s_bd (fun v1 hz => ?_)
  refine s_cSU (n := 2) (rest := [.int (2 : Int32)]) E (C_m0_weighsBy_66 (xl x) G a1 a2 m hz) ⟨by decide, by decide +kernel⟩ W478 W471 W200 W469 W95 W495 rfl rfl rfl rfl (Nat.le_of_ble_eq_true rfl) ⟨by decide, by decide⟩ dX8_weighsBy_4 ?_
  refine s_imul E dX8_weighsBy_7 ?_
  exact s_iret E rfl dX8_weighsBy_8
set_option maxRecDepth 20000 in
theorem C_m2_weighsBy (l : Launch) (G : GG) (a1 : Int32) (a2 : Int32) (m : M) {z : Int32} (hz : m2_weighsBy a1 a2 m = some z) : Ct l G yX8_weighsBy cX8_weighsBy 3 (some .int) 2 [.ref (G.2.1 66), .int a1, .int a2] m (some (.int z)) m :=
  ct_of (K := (KRi m)) (by decide) (Nat.le_of_ble_eq_true rfl) (congrArg (fun q => Option.bind q _) hz) (fun x hl hn E => (t_m2_weighsBy E hn a1 a2 m))
def m0_weighsBy_67 (a1 : Int32) (m : M) : Option (Int32) :=
  some a1
set_option maxRecDepth 20000 in
theorem t_m0_weighsBy_67 {G : GG} {x : Cx} (E : En G x cX5_weighsBy "WreckBoard$Member" 1 (some .int)) (hn : xn x = 3) (a1 : Int32) (m : M) : Sm G x 0 [(1, .int a1)] [] m (m0_weighsBy_67 a1 m) (KRi m) := by
  unfold m0_weighsBy_67
  refine s_iload_n 0 E dX5_weighsBy_0 rfl rfl ?_
  exact s_iret E rfl dX5_weighsBy_1
set_option maxRecDepth 20000 in
theorem C_m0_weighsBy_67 (l : Launch) (G : GG) (a1 : Int32) (a2 : Int32) (m : M) {z : Int32} (hz : m0_weighsBy_67 a1 m = some z) : Ct l G yX5_weighsBy cX5_weighsBy 3 (some .int) 1 [.ref (G.2.1 67), .int a1, .int a2] m (some (.int z)) m :=
  ct_of (K := (KRi m)) (by decide) (Nat.le_of_ble_eq_true rfl) (congrArg (fun q => Option.bind q _) hz) (fun x hl hn E => s_sub [1] rfl (t_m0_weighsBy_67 E hn a1 m))
def m2_weighsBy_67 (a1 : Int32) (a2 : Int32) (m : M) : Option (Int32) :=
  Option.bind (m0_weighsBy_67 a1 m) (fun v1 => some ((2 : Int32) * v1))
set_option maxRecDepth 20000 in
theorem t_m2_weighsBy_67 {G : GG} {x : Cx} (E : En G x cX8_weighsBy "WreckBoard$Saver" 2 (some .int)) (hn : xn x = 3) (a1 : Int32) (a2 : Int32) (m : M) : Sm G x 0 [(0, .ref (G.2.1 67)), (1, .int a1), (2, .int a2)] [] m (m2_weighsBy_67 a1 a2 m) (KRi m) := by
  unfold m2_weighsBy_67
  refine s_iconst (v := (2 : Int32)) E dX8_weighsBy_0 (by decide) ?_
  refine s_aload_n 0 E dX8_weighsBy_1 rfl rfl ?_
  refine s_iload_n 1 E dX8_weighsBy_2 rfl rfl ?_
  refine s_iload_n 2 E dX8_weighsBy_3 rfl rfl ?_
  refine s_bd (fun v1 hz => ?_)
  refine s_cSU (n := 2) (rest := [.int (2 : Int32)]) E (C_m0_weighsBy_67 (xl x) G a1 a2 m hz) ⟨by decide, by decide +kernel⟩ W478 W471 W200 W469 W95 W495 rfl rfl rfl rfl (Nat.le_of_ble_eq_true rfl) ⟨by decide, by decide⟩ dX8_weighsBy_4 ?_
  refine s_imul E dX8_weighsBy_7 ?_
  exact s_iret E rfl dX8_weighsBy_8
set_option maxRecDepth 20000 in
theorem C_m2_weighsBy_67 (l : Launch) (G : GG) (a1 : Int32) (a2 : Int32) (m : M) {z : Int32} (hz : m2_weighsBy_67 a1 a2 m = some z) : Ct l G yX8_weighsBy cX8_weighsBy 3 (some .int) 2 [.ref (G.2.1 67), .int a1, .int a2] m (some (.int z)) m :=
  ct_of (K := (KRi m)) (by decide) (Nat.le_of_ble_eq_true rfl) (congrArg (fun q => Option.bind q _) hz) (fun x hl hn E => (t_m2_weighsBy_67 E hn a1 a2 m))
theorem mdX8_weighsBy : mdq yX8_weighsBy 2 := ⟨by decide, by decide, by decide +kernel⟩
theorem dX1_weighsBy_0 : decode cX1_weighsBy 0 = .ok (.aload_n 0, 1) := by decide +kernel
theorem dX1_weighsBy_1 : decode cX1_weighsBy 1 = .ok (.iload_n 1, 1) := by decide +kernel
theorem dX1_weighsBy_2 : decode cX1_weighsBy 2 = .ok (.iload_n 2, 1) := by decide +kernel
theorem dX1_weighsBy_3 : decode cX1_weighsBy 3 = .ok (.invokespecial 11, 3) := by decide +kernel
theorem dX1_weighsBy_6 : decode cX1_weighsBy 6 = .ok (.iload_n 2, 1) := by decide +kernel
theorem dX1_weighsBy_7 : decode cX1_weighsBy 7 = .ok (.iadd, 1) := by decide +kernel
theorem dX1_weighsBy_8 : decode cX1_weighsBy 8 = .ok (.ireturn, 1) := by decide +kernel
def m3_weighsBy (a1 : Int32) (a2 : Int32) (m : M) : Option (Int32) :=
  Option.bind (m2_weighsBy_67 a1 a2 m) (fun v1 => some (v1 + a2))
set_option maxRecDepth 20000 in
theorem t_m3_weighsBy {G : GG} {x : Cx} (E : En G x cX1_weighsBy "WreckBoard$Chair" 3 (some .int)) (hn : xn x = 3) (a1 : Int32) (a2 : Int32) (m : M) : Sm G x 0 [(0, .ref (G.2.1 67)), (1, .int a1), (2, .int a2)] [] m (m3_weighsBy a1 a2 m) (KRi m) := by
  unfold m3_weighsBy
  refine s_aload_n 0 E dX1_weighsBy_0 rfl rfl ?_
  refine s_iload_n 1 E dX1_weighsBy_1 rfl rfl ?_
  refine s_iload_n 2 E dX1_weighsBy_2 rfl rfl ?_
  refine s_bd (fun v1 hz => ?_)
  refine s_cSU (n := 2) (rest := []) E (C_m2_weighsBy_67 (xl x) G a1 a2 m hz) ⟨by decide, by decide +kernel⟩ W475 W1861 W207 W476 W97 W477 rfl rfl rfl rfl (Nat.le_of_ble_eq_true rfl) ⟨by decide, by decide⟩ dX1_weighsBy_3 ?_
  refine s_iload_n 2 E dX1_weighsBy_6 rfl rfl ?_
  refine s_iadd E dX1_weighsBy_7 ?_
  exact s_iret E rfl dX1_weighsBy_8
set_option maxRecDepth 20000 in
theorem C_m3_weighsBy (l : Launch) (G : GG) (a1 : Int32) (a2 : Int32) (m : M) {z : Int32} (hz : m3_weighsBy a1 a2 m = some z) : Ct l G yX1_weighsBy cX1_weighsBy 3 (some .int) 3 [.ref (G.2.1 67), .int a1, .int a2] m (some (.int z)) m :=
  ct_of (K := (KRi m)) (by decide) (Nat.le_of_ble_eq_true rfl) (congrArg (fun q => Option.bind q _) hz) (fun x hl hn E => (t_m3_weighsBy E hn a1 a2 m))
def m0_weighsBy_68 (a1 : Int32) (m : M) : Option (Int32) :=
  some a1
set_option maxRecDepth 20000 in
theorem t_m0_weighsBy_68 {G : GG} {x : Cx} (E : En G x cX5_weighsBy "WreckBoard$Member" 1 (some .int)) (hn : xn x = 3) (a1 : Int32) (m : M) : Sm G x 0 [(1, .int a1)] [] m (m0_weighsBy_68 a1 m) (KRi m) := by
  unfold m0_weighsBy_68
  refine s_iload_n 0 E dX5_weighsBy_0 rfl rfl ?_
  exact s_iret E rfl dX5_weighsBy_1
set_option maxRecDepth 20000 in
theorem C_m0_weighsBy_68 (l : Launch) (G : GG) (a1 : Int32) (a2 : Int32) (m : M) {z : Int32} (hz : m0_weighsBy_68 a1 m = some z) : Ct l G yX5_weighsBy cX5_weighsBy 3 (some .int) 1 [.ref (G.2.1 68), .int a1, .int a2] m (some (.int z)) m :=
  ct_of (K := (KRi m)) (by decide) (Nat.le_of_ble_eq_true rfl) (congrArg (fun q => Option.bind q _) hz) (fun x hl hn E => s_sub [1] rfl (t_m0_weighsBy_68 E hn a1 m))
theorem dX3_weighsBy_0 : decode cX3_weighsBy 0 = .ok (.aload_n 0, 1) := by decide +kernel
theorem dX3_weighsBy_1 : decode cX3_weighsBy 1 = .ok (.iload_n 1, 1) := by decide +kernel
theorem dX3_weighsBy_2 : decode cX3_weighsBy 2 = .ok (.iload_n 2, 1) := by decide +kernel
theorem dX3_weighsBy_3 : decode cX3_weighsBy 3 = .ok (.invokespecial 11, 3) := by decide +kernel
theorem dX3_weighsBy_6 : decode cX3_weighsBy 6 = .ok (.iconst 1, 1) := by decide +kernel
theorem dX3_weighsBy_7 : decode cX3_weighsBy 7 = .ok (.iadd, 1) := by decide +kernel
theorem dX3_weighsBy_8 : decode cX3_weighsBy 8 = .ok (.iconst 2, 1) := by decide +kernel
theorem dX3_weighsBy_9 : decode cX3_weighsBy 9 = .ok (.idiv, 1) := by decide +kernel
theorem dX3_weighsBy_10 : decode cX3_weighsBy 10 = .ok (.ireturn, 1) := by decide +kernel
def m4_weighsBy (a1 : Int32) (a2 : Int32) (m : M) : Option (Int32) :=
  Option.bind (m0_weighsBy_68 a1 m) (fun v1 => some ((v1 + (1 : Int32)) / (2 : Int32)))
set_option maxRecDepth 20000 in
theorem t_m4_weighsBy {G : GG} {x : Cx} (E : En G x cX3_weighsBy "WreckBoard$Farmer" 2 (some .int)) (hn : xn x = 3) (a1 : Int32) (a2 : Int32) (m : M) : Sm G x 0 [(0, .ref (G.2.1 68)), (1, .int a1), (2, .int a2)] [] m (m4_weighsBy a1 a2 m) (KRi m) := by
  unfold m4_weighsBy
  refine s_aload_n 0 E dX3_weighsBy_0 rfl rfl ?_
  refine s_iload_n 1 E dX3_weighsBy_1 rfl rfl ?_
  refine s_iload_n 2 E dX3_weighsBy_2 rfl rfl ?_
  refine s_bd (fun v1 hz => ?_)
  refine s_cSU (n := 2) (rest := []) E (C_m0_weighsBy_68 (xl x) G a1 a2 m hz) ⟨by decide, by decide +kernel⟩ W482 W471 W214 W469 W95 W495 rfl rfl rfl rfl (Nat.le_of_ble_eq_true rfl) ⟨by decide, by decide⟩ dX3_weighsBy_3 ?_
  refine s_iconst (v := (1 : Int32)) E dX3_weighsBy_6 (by decide) ?_
  refine s_iadd E dX3_weighsBy_7 ?_
  refine s_iconst (v := (2 : Int32)) E dX3_weighsBy_8 (by decide) ?_
  refine s_idivc E dX3_weighsBy_9 (by decide) ?_
  exact s_iret E rfl dX3_weighsBy_10
set_option maxRecDepth 20000 in
theorem C_m4_weighsBy (l : Launch) (G : GG) (a1 : Int32) (a2 : Int32) (m : M) {z : Int32} (hz : m4_weighsBy a1 a2 m = some z) : Ct l G yX3_weighsBy cX3_weighsBy 3 (some .int) 2 [.ref (G.2.1 68), .int a1, .int a2] m (some (.int z)) m :=
  ct_of (K := (KRi m)) (by decide) (Nat.le_of_ble_eq_true rfl) (congrArg (fun q => Option.bind q _) hz) (fun x hl hn E => (t_m4_weighsBy E hn a1 a2 m))
def m0_weighsBy_69 (a1 : Int32) (m : M) : Option (Int32) :=
  some a1
set_option maxRecDepth 20000 in
theorem t_m0_weighsBy_69 {G : GG} {x : Cx} (E : En G x cX5_weighsBy "WreckBoard$Member" 1 (some .int)) (hn : xn x = 3) (a1 : Int32) (m : M) : Sm G x 0 [(1, .int a1)] [] m (m0_weighsBy_69 a1 m) (KRi m) := by
  unfold m0_weighsBy_69
  refine s_iload_n 0 E dX5_weighsBy_0 rfl rfl ?_
  exact s_iret E rfl dX5_weighsBy_1
set_option maxRecDepth 20000 in
theorem C_m0_weighsBy_69 (l : Launch) (G : GG) (a1 : Int32) (a2 : Int32) (m : M) {z : Int32} (hz : m0_weighsBy_69 a1 m = some z) : Ct l G yX5_weighsBy cX5_weighsBy 3 (some .int) 1 [.ref (G.2.1 69), .int a1, .int a2] m (some (.int z)) m :=
  ct_of (K := (KRi m)) (by decide) (Nat.le_of_ble_eq_true rfl) (congrArg (fun q => Option.bind q _) hz) (fun x hl hn E => s_sub [1] rfl (t_m0_weighsBy_69 E hn a1 m))
def m4_weighsBy_69 (a1 : Int32) (a2 : Int32) (m : M) : Option (Int32) :=
  Option.bind (m0_weighsBy_69 a1 m) (fun v1 => some ((v1 + (1 : Int32)) / (2 : Int32)))
set_option maxRecDepth 20000 in
theorem t_m4_weighsBy_69 {G : GG} {x : Cx} (E : En G x cX3_weighsBy "WreckBoard$Farmer" 2 (some .int)) (hn : xn x = 3) (a1 : Int32) (a2 : Int32) (m : M) : Sm G x 0 [(0, .ref (G.2.1 69)), (1, .int a1), (2, .int a2)] [] m (m4_weighsBy_69 a1 a2 m) (KRi m) := by
  unfold m4_weighsBy_69
  refine s_aload_n 0 E dX3_weighsBy_0 rfl rfl ?_
  refine s_iload_n 1 E dX3_weighsBy_1 rfl rfl ?_
  refine s_iload_n 2 E dX3_weighsBy_2 rfl rfl ?_
  refine s_bd (fun v1 hz => ?_)
  refine s_cSU (n := 2) (rest := []) E (C_m0_weighsBy_69 (xl x) G a1 a2 m hz) ⟨by decide, by decide +kernel⟩ W482 W471 W214 W469 W95 W495 rfl rfl rfl rfl (Nat.le_of_ble_eq_true rfl) ⟨by decide, by decide⟩ dX3_weighsBy_3 ?_
  refine s_iconst (v := (1 : Int32)) E dX3_weighsBy_6 (by decide) ?_
  refine s_iadd E dX3_weighsBy_7 ?_
  refine s_iconst (v := (2 : Int32)) E dX3_weighsBy_8 (by decide) ?_
  refine s_idivc E dX3_weighsBy_9 (by decide) ?_
  exact s_iret E rfl dX3_weighsBy_10
set_option maxRecDepth 20000 in
theorem C_m4_weighsBy_69 (l : Launch) (G : GG) (a1 : Int32) (a2 : Int32) (m : M) {z : Int32} (hz : m4_weighsBy_69 a1 a2 m = some z) : Ct l G yX3_weighsBy cX3_weighsBy 3 (some .int) 2 [.ref (G.2.1 69), .int a1, .int a2] m (some (.int z)) m :=
  ct_of (K := (KRi m)) (by decide) (Nat.le_of_ble_eq_true rfl) (congrArg (fun q => Option.bind q _) hz) (fun x hl hn E => (t_m4_weighsBy_69 E hn a1 a2 m))
theorem mdX3_weighsBy : mdq yX3_weighsBy 2 := ⟨by decide, by decide, by decide +kernel⟩
theorem dX4_weighsBy_0 : decode cX4_weighsBy 0 = .ok (.iconst 3, 1) := by decide +kernel
theorem dX4_weighsBy_1 : decode cX4_weighsBy 1 = .ok (.aload_n 0, 1) := by decide +kernel
theorem dX4_weighsBy_2 : decode cX4_weighsBy 2 = .ok (.iload_n 1, 1) := by decide +kernel
theorem dX4_weighsBy_3 : decode cX4_weighsBy 3 = .ok (.iload_n 2, 1) := by decide +kernel
theorem dX4_weighsBy_4 : decode cX4_weighsBy 4 = .ok (.invokespecial 11, 3) := by decide +kernel
theorem dX4_weighsBy_7 : decode cX4_weighsBy 7 = .ok (.invokestatic 15, 3) := by decide +kernel
theorem dX4_weighsBy_10 : decode cX4_weighsBy 10 = .ok (.ireturn, 1) := by decide +kernel
def m5_weighsBy (a1 : Int32) (a2 : Int32) (m : M) : Option (Int32) :=
  Option.bind (m4_weighsBy_69 a1 a2 m) (fun v1 => some (mnI (3 : Int32) v1))
set_option maxRecDepth 20000 in
theorem t_m5_weighsBy {G : GG} {x : Cx} (E : En G x cX4_weighsBy "WreckBoard$Lad" 3 (some .int)) (hn : xn x = 3) (a1 : Int32) (a2 : Int32) (m : M) : Sm G x 0 [(0, .ref (G.2.1 69)), (1, .int a1), (2, .int a2)] [] m (m5_weighsBy a1 a2 m) (KRi m) := by
  unfold m5_weighsBy
  refine s_iconst (v := (3 : Int32)) E dX4_weighsBy_0 (by decide) ?_
  refine s_aload_n 0 E dX4_weighsBy_1 rfl rfl ?_
  refine s_iload_n 1 E dX4_weighsBy_2 rfl rfl ?_
  refine s_iload_n 2 E dX4_weighsBy_3 rfl rfl ?_
  refine s_bd (fun v1 hz => ?_)
  refine s_cSU (n := 2) (rest := [.int (3 : Int32)]) E (C_m4_weighsBy_69 (xl x) G a1 a2 m hz) ⟨by decide, by decide +kernel⟩ W486 W1862 W221 W480 W99 W481 rfl rfl rfl rfl (Nat.le_of_ble_eq_true rfl) ⟨by decide, by decide⟩ dX4_weighsBy_4 ?_
  refine s_mmin E W487 W488 W104 W489 (by decide) (Nat.le_of_ble_eq_true rfl) dX4_weighsBy_7 ?_
  exact s_iret E rfl dX4_weighsBy_10
set_option maxRecDepth 20000 in
theorem C_m5_weighsBy (l : Launch) (G : GG) (a1 : Int32) (a2 : Int32) (m : M) {z : Int32} (hz : m5_weighsBy a1 a2 m = some z) : Ct l G yX4_weighsBy cX4_weighsBy 3 (some .int) 3 [.ref (G.2.1 69), .int a1, .int a2] m (some (.int z)) m :=
  ct_of (K := (KRi m)) (by decide) (Nat.le_of_ble_eq_true rfl) (congrArg (fun q => Option.bind q _) hz) (fun x hl hn E => (t_m5_weighsBy E hn a1 a2 m))
def vd_weighsBy (p : Nat) (a1 : Int32) (a2 : Int32) (m : M) : Option (Int32) :=
  if p = 64 then m0_weighsBy a1 m else if p = 65 then m1_weighsBy a1 a2 m else if p = 66 then m2_weighsBy a1 a2 m else if p = 67 then m3_weighsBy a1 a2 m else if p = 68 then m4_weighsBy a1 a2 m else if p = 69 then m5_weighsBy a1 a2 m else none
theorem D_vd_weighsBy {α : Type} {G : GG} {x : Cx} {cc : ByteArray} {own : String} {lev : Nat} {ret : Option FieldType} {pc : Nat} {lv : List (Nat × Value)} {m : M} {o : Option α} {K : α → Option (Option Value × M)} {index : Nat} (rest : List Value) (E : En G x cc own lev ret) (p : Nat) (a1 : Int32) (a2 : Int32) {z : Int32} (hz : vd_weighsBy p a1 a2 m = some z) (hl : Cond.methodLink own index ({ cls := "WreckBoard$Member", name := "weighsBy", desc := "(II)I" } : MethodName) ∈ gw) (hroom : (rest.map fun v => v.category).sum ≤ 8) (hlev : 3 + 1 ≤ lev) (d : decode cc pc = .ok (.invokevirtual index, 3)) (k : Sm G x (pc + 3) lv ((.int z) :: rest) m o K) : Sm G x pc lv (.int a2 :: .int a1 :: .ref (G.2.1 p) :: rest) m o K := by
  unfold vd_weighsBy at hz
  by_cases h : p = 64
  · rw [if_pos h] at hz
    subst h
    exact s_cU (n := 2) (rest := rest) (z := ⟨"WreckBoard$Member", "weighsBy", "(II)I"⟩) (owner := "WreckBoard$Member") E (C_m0_weighsBy (xl x) G a1 a2 m hz) ⟨by decide, by decide, by decide +kernel⟩ hl W471 W469 W495 W470 W469 W95 W495 rfl rfl rfl rfl hroom ⟨by omega, by omega⟩ d k
  rw [if_neg h] at hz
  clear h
  by_cases h : p = 65
  · rw [if_pos h] at hz
    subst h
    exact s_cU (n := 2) (rest := rest) (z := ⟨"WreckBoard$Member", "weighsBy", "(II)I"⟩) (owner := "WreckBoard$Member") E (C_m1_weighsBy (xl x) G a1 a2 m hz) ⟨by decide, by decide, by decide +kernel⟩ hl W471 W469 W495 W491 W492 W96 W493 rfl rfl rfl rfl hroom ⟨by omega, by omega⟩ d k
  rw [if_neg h] at hz
  clear h
  by_cases h : p = 66
  · rw [if_pos h] at hz
    subst h
    exact s_cU (n := 2) (rest := rest) (z := ⟨"WreckBoard$Member", "weighsBy", "(II)I"⟩) (owner := "WreckBoard$Member") E (C_m2_weighsBy (xl x) G a1 a2 m hz) ⟨by decide, by decide, by decide +kernel⟩ hl W471 W469 W495 W490 W476 W97 W477 rfl rfl rfl rfl hroom ⟨by omega, by omega⟩ d k
  rw [if_neg h] at hz
  clear h
  by_cases h : p = 67
  · rw [if_pos h] at hz
    subst h
    exact s_cU (n := 2) (rest := rest) (z := ⟨"WreckBoard$Member", "weighsBy", "(II)I"⟩) (owner := "WreckBoard$Member") E (C_m3_weighsBy (xl x) G a1 a2 m hz) ⟨by decide, by decide, by decide +kernel⟩ hl W471 W469 W495 W472 W473 W98 W474 rfl rfl rfl rfl hroom ⟨by omega, by omega⟩ d k
  rw [if_neg h] at hz
  clear h
  by_cases h : p = 68
  · rw [if_pos h] at hz
    subst h
    exact s_cU (n := 2) (rest := rest) (z := ⟨"WreckBoard$Member", "weighsBy", "(II)I"⟩) (owner := "WreckBoard$Member") E (C_m4_weighsBy (xl x) G a1 a2 m hz) ⟨by decide, by decide, by decide +kernel⟩ hl W471 W469 W495 W479 W480 W99 W481 rfl rfl rfl rfl hroom ⟨by omega, by omega⟩ d k
  rw [if_neg h] at hz
  clear h
  by_cases h : p = 69
  · rw [if_pos h] at hz
    subst h
    exact s_cU (n := 2) (rest := rest) (z := ⟨"WreckBoard$Member", "weighsBy", "(II)I"⟩) (owner := "WreckBoard$Member") E (C_m5_weighsBy (xl x) G a1 a2 m hz) ⟨by decide, by decide, by decide +kernel⟩ hl W471 W469 W495 W483 W484 W100 W485 rfl rfl rfl rfl hroom ⟨by omega, by omega⟩ d k
  rw [if_neg h] at hz
  clear h
  cases hz
theorem dX0_weightOf_0 : decode cX0_weightOf 0 = .ok (.iconst 0, 1) := by decide +kernel
theorem dX0_weightOf_1 : decode cX0_weightOf 1 = .ok (.aload_n 0, 1) := by decide +kernel
theorem dX0_weightOf_2 : decode cX0_weightOf 2 = .ok (.getfield 75, 3) := by decide +kernel
theorem dX0_weightOf_5 : decode cX0_weightOf 5 = .ok (.aload_n 0, 1) := by decide +kernel
theorem dX0_weightOf_6 : decode cX0_weightOf 6 = .ok (.getfield 21, 3) := by decide +kernel
theorem dX0_weightOf_9 : decode cX0_weightOf 9 = .ok (.iload_n 1, 1) := by decide +kernel
theorem dX0_weightOf_10 : decode cX0_weightOf 10 = .ok (.iaload, 1) := by decide +kernel
theorem dX0_weightOf_11 : decode cX0_weightOf 11 = .ok (.aaload, 1) := by decide +kernel
theorem dX0_weightOf_12 : decode cX0_weightOf 12 = .ok (.aload_n 0, 1) := by decide +kernel
theorem dX0_weightOf_13 : decode cX0_weightOf 13 = .ok (.getfield 25, 3) := by decide +kernel
theorem dX0_weightOf_16 : decode cX0_weightOf 16 = .ok (.iload_n 1, 1) := by decide +kernel
theorem dX0_weightOf_17 : decode cX0_weightOf 17 = .ok (.iaload, 1) := by decide +kernel
theorem dX0_weightOf_18 : decode cX0_weightOf 18 = .ok (.iload_n 1, 1) := by decide +kernel
theorem dX0_weightOf_19 : decode cX0_weightOf 19 = .ok (.invokevirtual 118, 3) := by decide +kernel
theorem dX0_weightOf_22 : decode cX0_weightOf 22 = .ok (.aload_n 0, 1) := by decide +kernel
theorem dX0_weightOf_23 : decode cX0_weightOf 23 = .ok (.getfield 37, 3) := by decide +kernel
theorem dX0_weightOf_26 : decode cX0_weightOf 26 = .ok (.aload_n 0, 1) := by decide +kernel
theorem dX0_weightOf_27 : decode cX0_weightOf 27 = .ok (.getfield 31, 3) := by decide +kernel
theorem dX0_weightOf_30 : decode cX0_weightOf 30 = .ok (.iload_n 1, 1) := by decide +kernel
theorem dX0_weightOf_31 : decode cX0_weightOf 31 = .ok (.iaload, 1) := by decide +kernel
theorem dX0_weightOf_32 : decode cX0_weightOf 32 = .ok (.iaload, 1) := by decide +kernel
theorem dX0_weightOf_33 : decode cX0_weightOf 33 = .ok (.isub, 1) := by decide +kernel
theorem dX0_weightOf_34 : decode cX0_weightOf 34 = .ok (.invokestatic 121, 3) := by decide +kernel
theorem dX0_weightOf_37 : decode cX0_weightOf 37 = .ok (.ireturn, 1) := by decide +kernel
def b_weightOf (a1 : Int32) (m : M) : Option (Int32) :=
  Option.bind (rdI m 10 a1) (fun v1 => Option.bind (rdR 17 v1) (fun p2 => Option.bind (rdI m 11 a1) (fun v3 => Option.bind (vd_weighsBy p2 v3 a1 m) (fun v4 => Option.bind (rdI m 13 a1) (fun v5 => Option.bind (rdI m 15 v5) (fun v6 => some (mxI (0 : Int32) (v4 - v6))))))))
set_option maxRecDepth 20000 in
theorem t_b_weightOf {G : GG} {x : Cx} (E : En G x cX0_weightOf "WreckBoard$Board" 4 (some .int)) (hn : xn x = 2) (a1 : Int32) (m : M) : Sm G x 0 [(0, .ref (G.2.1 1)), (1, .int a1)] [] m (b_weightOf a1 m) (KRi m) := by
  unfold b_weightOf
  refine s_iconst (v := (0 : Int32)) E dX0_weightOf_0 (by decide) ?_
  refine s_aload_n 0 E dX0_weightOf_1 rfl rfl ?_
  refine s_getr (k := 18) (T := TX0) 1 E rfl rfl rfl inX0 (by decide) W262 dX0_weightOf_2 ?_
  refine s_aload_n 0 E dX0_weightOf_5 rfl rfl ?_
  refine s_getr (k := 9) (T := TX0) 1 E rfl rfl rfl inX0 (by decide) W242 dX0_weightOf_6 ?_
  refine s_iload_n 1 E dX0_weightOf_9 rfl rfl ?_
  refine s_iald E dX0_weightOf_10 (fun v1 => ?_)
  refine s_aald E dX0_weightOf_11 (fun p2 => ?_)
  refine s_aload_n 0 E dX0_weightOf_12 rfl rfl ?_
  refine s_getr (k := 10) (T := TX0) 1 E rfl rfl rfl inX0 (by decide) W244 dX0_weightOf_13 ?_
  refine s_iload_n 1 E dX0_weightOf_16 rfl rfl ?_
  refine s_iald E dX0_weightOf_17 (fun v3 => ?_)
  refine s_iload_n 1 E dX0_weightOf_18 rfl rfl ?_
  refine s_bd (fun v4 hz => ?_)
  refine D_vd_weighsBy [.int (0 : Int32)] E p2 v3 a1 hz W468 (Nat.le_of_ble_eq_true rfl) (by decide) dX0_weightOf_19 ?_
  refine s_aload_n 0 E dX0_weightOf_22 rfl rfl ?_
  refine s_getr (k := 14) (T := TX0) 1 E rfl rfl rfl inX0 (by decide) W254 dX0_weightOf_23 ?_
  refine s_aload_n 0 E dX0_weightOf_26 rfl rfl ?_
  refine s_getr (k := 12) (T := TX0) 1 E rfl rfl rfl inX0 (by decide) W250 dX0_weightOf_27 ?_
  refine s_iload_n 1 E dX0_weightOf_30 rfl rfl ?_
  refine s_iald E dX0_weightOf_31 (fun v5 => ?_)
  refine s_iald E dX0_weightOf_32 (fun v6 => ?_)
  refine s_isub E dX0_weightOf_33 ?_
  refine s_mmax E W496 W497 W104 W498 (by decide) (Nat.le_of_ble_eq_true rfl) dX0_weightOf_34 ?_
  exact s_iret E rfl dX0_weightOf_37
set_option maxRecDepth 20000 in
theorem C_b_weightOf (l : Launch) (G : GG) (a1 : Int32) (m : M) {z : Int32} (hz : b_weightOf a1 m = some z) : Ct l G yX0_weightOf cX0_weightOf 2 (some .int) 4 [.ref (G.2.1 1), .int a1] m (some (.int z)) m :=
  ct_of (K := (KRi m)) (by decide) (Nat.le_of_ble_eq_true rfl) (congrArg (fun q => Option.bind q _) hz) (fun x hl hn E => (t_b_weightOf E hn a1 m))
theorem mdX0_weightOf : mdq yX0_weightOf 1 := ⟨by decide, by decide, by decide +kernel⟩
theorem dX0_count_0 : decode cX0_count 0 = .ok (.iconst 0, 1) := by decide +kernel
theorem dX0_count_1 : decode cX0_count 1 = .ok (.istore_n 1, 1) := by decide +kernel
theorem dX0_count_2 : decode cX0_count 2 = .ok (.iconst 0, 1) := by decide +kernel
theorem dX0_count_3 : decode cX0_count 3 = .ok (.istore_n 2, 1) := by decide +kernel
theorem dX0_count_4 : decode cX0_count 4 = .ok (.iload_n 2, 1) := by decide +kernel
theorem dX0_count_5 : decode cX0_count 5 = .ok (.aload_n 0, 1) := by decide +kernel
theorem dX0_count_6 : decode cX0_count 6 = .ok (.getfield 79, 3) := by decide +kernel
theorem dX0_count_9 : decode cX0_count 9 = .ok (.if_icmp .ge 28, 3) := by decide +kernel
theorem dX0_count_12 : decode cX0_count 12 = .ok (.iload_n 1, 1) := by decide +kernel
theorem dX0_count_13 : decode cX0_count 13 = .ok (.aload_n 0, 1) := by decide +kernel
theorem dX0_count_14 : decode cX0_count 14 = .ok (.iload_n 2, 1) := by decide +kernel
theorem dX0_count_15 : decode cX0_count 15 = .ok (.invokevirtual 124, 3) := by decide +kernel
theorem dX0_count_18 : decode cX0_count 18 = .ok (.invokestatic 127, 3) := by decide +kernel
theorem dX0_count_21 : decode cX0_count 21 = .ok (.iconst 1, 1) := by decide +kernel
theorem dX0_count_22 : decode cX0_count 22 = .ok (.isub, 1) := by decide +kernel
theorem dX0_count_23 : decode cX0_count 23 = .ok (.aload_n 0, 1) := by decide +kernel
theorem dX0_count_24 : decode cX0_count 24 = .ok (.iload_n 2, 1) := by decide +kernel
theorem dX0_count_25 : decode cX0_count 25 = .ok (.invokevirtual 130, 3) := by decide +kernel
theorem dX0_count_28 : decode cX0_count 28 = .ok (.imul, 1) := by decide +kernel
theorem dX0_count_29 : decode cX0_count 29 = .ok (.iadd, 1) := by decide +kernel
theorem dX0_count_30 : decode cX0_count 30 = .ok (.istore_n 1, 1) := by decide +kernel
theorem dX0_count_31 : decode cX0_count 31 = .ok (.iinc 2 1, 3) := by decide +kernel
theorem dX0_count_34 : decode cX0_count 34 = .ok (.goto (-30), 3) := by decide +kernel
theorem dX0_count_37 : decode cX0_count 37 = .ok (.iload_n 1, 1) := by decide +kernel
theorem dX0_count_38 : decode cX0_count 38 = .ok (.ireturn, 1) := by decide +kernel
def b_count_4b (a1 : Int32) (a2 : Int32) (m : M) : Option ((Int32 × Int32) ⊕ ((Int32))) :=
  (if (m 1 6) ≤ a2 then some (.inr a1) else Option.bind (b_leanOf a2 m) (fun v1 => Option.bind (k_side v1 m) (fun v2 => Option.bind (b_weightOf a2 m) (fun v3 => lt (a1 + ((v2 - (1 : Int32)) * v3)) (fun w4 : Int32 => lt (a2 + (1 : Int32)) (fun w5 : Int32 => some (.inl (w4, w5))))))))
set_option maxRecDepth 20000 in
theorem t_b_count_4b {G : GG} {x : Cx} {K : ((Int32 × Int32) ⊕ ((Int32))) → Option (Option Value × M)} (E : En G x cX0_count "WreckBoard$Board" 5 (some .int)) (hn : xn x = 3) (a1 : Int32) (a2 : Int32) (m : M) (hb : ∀ z : Int32 × Int32, Sm G x 4 [(0, .ref (G.2.1 1)), (1, .int z.1), (2, .int z.2)] [] m (some (.inl z)) K) (hx0 : ∀ z : Int32, Sm G x 37 [(1, .int z)] [] m (some (.inr z)) K) : Sm G x 4 [(0, .ref (G.2.1 1)), (1, .int a1), (2, .int a2)] [] m (b_count_4b a1 a2 m) K := by
  unfold b_count_4b
  refine s_iload_n 2 E dX0_count_4 rfl rfl ?_
  refine s_aload_n 0 E dX0_count_5 rfl rfl ?_
  refine s_geti (k := 6) (T := TX0) 1 E rfl rfl rfl inX0 (by decide) W236 dX0_count_6 ?_
  refine s_icmp_ge 37 E dX0_count_9 (by decide) ?_ ?_
  · refine s_sub (lv' := [(1, .int a1)]) [1] rfl ?_
    exact hx0 a1
  · refine s_iload_n 1 E dX0_count_12 rfl rfl ?_
    refine s_aload_n 0 E dX0_count_13 rfl rfl ?_
    refine s_iload_n 2 E dX0_count_14 rfl rfl ?_
    refine s_bd (fun v1 hz => ?_)
    refine s_cV (rest := [.int a1]) E (C_b_leanOf (xl x) G a2 m hz) mdX0_leanOf W503 W428 W429 W92 W430 rfl rfl rfl rfl (Nat.le_of_ble_eq_true rfl) ⟨by decide, by decide⟩ dX0_count_15 ?_
    refine s_bd (fun v2 hz => ?_)
    refine s_cSN (rest := [.int a1]) (host := "WreckBoard") E (C_k_side (xl x) G v1 m hz) mdX11_side (by decide) W462 W91 W463 rfl rfl (Nat.le_of_ble_eq_true rfl) ⟨by decide, by decide⟩ dX0_count_18 ?_
    refine s_iconst (v := (1 : Int32)) E dX0_count_21 (by decide) ?_
    refine s_isub E dX0_count_22 ?_
    refine s_aload_n 0 E dX0_count_23 rfl rfl ?_
    refine s_iload_n 2 E dX0_count_24 rfl rfl ?_
    refine s_bd (fun v3 hz => ?_)
    refine s_cV (rest := [.int (v2 - (1 : Int32)), .int a1]) E (C_b_weightOf (xl x) G a2 m hz) mdX0_weightOf W505 W465 W466 W92 W467 rfl rfl rfl rfl (Nat.le_of_ble_eq_true rfl) ⟨by decide, by decide⟩ dX0_count_25 ?_
    refine s_imul E dX0_count_28 ?_
    refine s_iadd E dX0_count_29 ?_
    refine s_lt (fun w4 => [(0, .ref (G.2.1 1)), (1, .int a1), (2, .int a2)]) (fun w4 => [.int w4]) rfl rfl (fun w4 => ?_)
    refine s_istore_n (lv' := [(0, .ref (G.2.1 1)), (1, .int w4), (2, .int a2)]) [1, 0, 2] E dX0_count_30 rfl (by rw [hn]; decide) rfl ?_
    refine s_iincL (v := (1 : Int32)) 2 [1, 2, 0] (fun w5 => [(0, .ref (G.2.1 1)), (1, .int w4), (2, .int w5)]) E dX0_count_31 rfl (by decide) (by rw [hn]; decide) (fun _ => rfl) (fun w5 => ?_)
    refine s_goto 4 E dX0_count_34 (by decide) ?_
    exact hb (w4, w5)
def b_count_4 (a1 : Int32) (a2 : Int32) (m : M) : Option (Int32) :=
  Option.bind (iter (fun z => b_count_4b z.1 z.2 m) FU (a1, a2)) (fun r => some r)
set_option maxRecDepth 20000 in
theorem t_b_count_4 {G : GG} {x : Cx} (E : En G x cX0_count "WreckBoard$Board" 5 (some .int)) (hn : xn x = 3) (a1 : Int32) (a2 : Int32) (m : M) : Sm G x 4 [(0, .ref (G.2.1 1)), (1, .int a1), (2, .int a2)] [] m (b_count_4 a1 a2 m) (KRi m) := by
  unfold b_count_4
  refine s_loop (fun z => [(0, .ref (G.2.1 1)), (1, .int z.1), (2, .int z.2)]) (fun z => m) (fun K2 hb2 hr2 z => ?_) FU (a1, a2)
  refine t_b_count_4b (K := K2) E hn z.1 z.2 m hb2 (fun r => s_out (hr2 r) ?_)
  · refine s_iload_n 0 E dX0_count_37 rfl rfl ?_
    exact s_iret E rfl dX0_count_38
def b_count  (m : M) : Option (Int32) :=
  b_count_4 (0 : Int32) (0 : Int32) m
set_option maxRecDepth 20000 in
theorem t_b_count {G : GG} {x : Cx} (E : En G x cX0_count "WreckBoard$Board" 5 (some .int)) (hn : xn x = 3)  (m : M) : Sm G x 0 [(0, .ref (G.2.1 1))] [] m (b_count m) (KRi m) := by
  unfold b_count
  refine s_iconst (v := (0 : Int32)) E dX0_count_0 (by decide) ?_
  refine s_istore_n (lv' := [(0, .ref (G.2.1 1)), (1, .int (0 : Int32))]) [1, 0] E dX0_count_1 rfl (by rw [hn]; decide) rfl ?_
  refine s_iconst (v := (0 : Int32)) E dX0_count_2 (by decide) ?_
  refine s_istore_n (lv' := [(0, .ref (G.2.1 1)), (1, .int (0 : Int32)), (2, .int (0 : Int32))]) [1, 2, 0] E dX0_count_3 rfl (by rw [hn]; decide) rfl ?_
  exact t_b_count_4 E hn (0 : Int32) (0 : Int32) m
set_option maxRecDepth 20000 in
theorem C_b_count (l : Launch) (G : GG)  (m : M) {z : Int32} (hz : b_count m = some z) : Ct l G yX0_count cX0_count 3 (some .int) 5 [.ref (G.2.1 1)] m (some (.int z)) m :=
  ct_of (K := (KRi m)) (by decide) (Nat.le_of_ble_eq_true rfl) (congrArg (fun q => Option.bind q _) hz) (fun x hl hn E => (t_b_count E hn  m))
theorem mdX0_count : mdq yX0_count 0 := ⟨by decide, by decide, by decide +kernel⟩
theorem dX11_isKindOrUnder_0 : decode cX11_isKindOrUnder 0 = .ok (.iload_n 0, 1) := by decide +kernel
theorem dX11_isKindOrUnder_1 : decode cX11_isKindOrUnder 1 = .ok (.iconst 0, 1) := by decide +kernel
theorem dX11_isKindOrUnder_2 : decode cX11_isKindOrUnder 2 = .ok (.iconst 5, 1) := by decide +kernel
theorem dX11_isKindOrUnder_3 : decode cX11_isKindOrUnder 3 = .ok (.invokestatic 61, 3) := by decide +kernel
theorem dX11_isKindOrUnder_6 : decode cX11_isKindOrUnder 6 = .ok (.ifCond .eq 19, 3) := by decide +kernel
theorem dX11_isKindOrUnder_9 : decode cX11_isKindOrUnder 9 = .ok (.getstatic 379, 3) := by decide +kernel
theorem dX11_isKindOrUnder_12 : decode cX11_isKindOrUnder 12 = .ok (.iload_n 0, 1) := by decide +kernel
theorem dX11_isKindOrUnder_13 : decode cX11_isKindOrUnder 13 = .ok (.iaload, 1) := by decide +kernel
theorem dX11_isKindOrUnder_14 : decode cX11_isKindOrUnder 14 = .ok (.iload_n 1, 1) := by decide +kernel
theorem dX11_isKindOrUnder_15 : decode cX11_isKindOrUnder 15 = .ok (.invokestatic 208, 3) := by decide +kernel
theorem dX11_isKindOrUnder_18 : decode cX11_isKindOrUnder 18 = .ok (.ifCond .eq 7, 3) := by decide +kernel
theorem dX11_isKindOrUnder_21 : decode cX11_isKindOrUnder 21 = .ok (.iconst 1, 1) := by decide +kernel
theorem dX11_isKindOrUnder_22 : decode cX11_isKindOrUnder 22 = .ok (.goto 4, 3) := by decide +kernel
theorem dX11_isKindOrUnder_25 : decode cX11_isKindOrUnder 25 = .ok (.iconst 0, 1) := by decide +kernel
theorem dX11_isKindOrUnder_26 : decode cX11_isKindOrUnder 26 = .ok (.ireturn, 1) := by decide +kernel
def k_isKindOrUnder (a0 : Int32) (a1 : Int32) (m : M) : Option (Int32) :=
  Option.bind (k_within a0 (0 : Int32) (5 : Int32) m) (fun v1 => (if v1 = 0 then some (0 : Int32) else Option.bind (rdK tabSelf a0) (fun v2 => Option.bind (k_isIn v2 a1 m) (fun v3 => (if v3 = 0 then some (0 : Int32) else some (1 : Int32))))))
set_option maxRecDepth 20000 in
theorem t_k_isKindOrUnder {G : GG} {x : Cx} (E : En G x cX11_isKindOrUnder "WreckBoard" 2 (some .boolean)) (hn : xn x = 2) (a0 : Int32) (a1 : Int32) (m : M) : Sm G x 0 [(0, .int a0), (1, .int a1)] [] m (k_isKindOrUnder a0 a1 m) (KRi m) := by
  unfold k_isKindOrUnder
  refine s_iload_n 0 E dX11_isKindOrUnder_0 rfl rfl ?_
  refine s_iconst (v := (0 : Int32)) E dX11_isKindOrUnder_1 (by decide) ?_
  refine s_iconst (v := (5 : Int32)) E dX11_isKindOrUnder_2 (by decide) ?_
  refine s_bd (fun v1 hz => ?_)
  refine s_cS (rest := []) E (C_k_within (xl x) G a0 (0 : Int32) (5 : Int32) m hz) mdX11_within W404 W405 W91 W406 rfl rfl (Nat.le_of_ble_eq_true rfl) ⟨by decide, by decide⟩ dX11_isKindOrUnder_3 ?_
  refine s_if_eq 25 E dX11_isKindOrUnder_6 (by decide) ?_ ?_
  · refine s_iconst (v := (0 : Int32)) E dX11_isKindOrUnder_25 (by decide) ?_
    exact s_zret E (by decide) rfl dX11_isKindOrUnder_26
  · refine s_getsS E W518 dX11_isKindOrUnder_9 ?_
    refine s_iload_n 0 E dX11_isKindOrUnder_12 rfl rfl ?_
    refine s_staS E dX11_isKindOrUnder_13 (fun v2 => ?_)
    refine s_iload_n 1 E dX11_isKindOrUnder_14 rfl rfl ?_
    refine s_bd (fun v3 hz => ?_)
    refine s_cS (rest := []) E (C_k_isIn (xl x) G v2 a1 m hz) mdX11_isIn W520 W425 W91 W426 rfl rfl (Nat.le_of_ble_eq_true rfl) ⟨by decide, by decide⟩ dX11_isKindOrUnder_15 ?_
    refine s_if_eq 25 E dX11_isKindOrUnder_18 (by decide) ?_ ?_
    · refine s_iconst (v := (0 : Int32)) E dX11_isKindOrUnder_25 (by decide) ?_
      exact s_zret E (by decide) rfl dX11_isKindOrUnder_26
    · refine s_iconst (v := (1 : Int32)) E dX11_isKindOrUnder_21 (by decide) ?_
      refine s_goto 26 E dX11_isKindOrUnder_22 (by decide) ?_
      exact s_zret E (by decide) rfl dX11_isKindOrUnder_26
set_option maxRecDepth 20000 in
theorem C_k_isKindOrUnder (l : Launch) (G : GG) (a0 : Int32) (a1 : Int32) (m : M) {z : Int32} (hz : k_isKindOrUnder a0 a1 m = some z) : Ct l G yX11_isKindOrUnder cX11_isKindOrUnder 2 (some .boolean) 2 [.int a0, .int a1] m (some (.int z)) m :=
  ct_of (K := (KRi m)) (by decide) (Nat.le_of_ble_eq_true rfl) (congrArg (fun q => Option.bind q _) hz) (fun x hl hn E => (t_k_isKindOrUnder E hn a0 a1 m))
theorem mdX11_isKindOrUnder : mdq yX11_isKindOrUnder 2 := ⟨by decide, by decide, by decide +kernel⟩
theorem dX7_valueOf_0 : decode cX7_valueOf 0 = .ok (.iload_n 0, 1) := by decide +kernel
theorem dX7_valueOf_1 : decode cX7_valueOf 1 = .ok (.tableswitch 61 13 17 #[35, 40, 47, 54, 59], 35) := by decide +kernel
theorem dX7_valueOf_36 : decode cX7_valueOf 36 = .ok (.aload_n 1, 1) := by decide +kernel
theorem dX7_valueOf_37 : decode cX7_valueOf 37 = .ok (.getfield 41, 3) := by decide +kernel
theorem dX7_valueOf_40 : decode cX7_valueOf 40 = .ok (.ireturn, 1) := by decide +kernel
theorem dX7_valueOf_41 : decode cX7_valueOf 41 = .ok (.aload_n 1, 1) := by decide +kernel
theorem dX7_valueOf_42 : decode cX7_valueOf 42 = .ok (.getfield 46, 3) := by decide +kernel
theorem dX7_valueOf_45 : decode cX7_valueOf 45 = .ok (.iload_n 2, 1) := by decide +kernel
theorem dX7_valueOf_46 : decode cX7_valueOf 46 = .ok (.iaload, 1) := by decide +kernel
theorem dX7_valueOf_47 : decode cX7_valueOf 47 = .ok (.ireturn, 1) := by decide +kernel
theorem dX7_valueOf_48 : decode cX7_valueOf 48 = .ok (.aload_n 1, 1) := by decide +kernel
theorem dX7_valueOf_49 : decode cX7_valueOf 49 = .ok (.getfield 49, 3) := by decide +kernel
theorem dX7_valueOf_52 : decode cX7_valueOf 52 = .ok (.iload_n 2, 1) := by decide +kernel
theorem dX7_valueOf_53 : decode cX7_valueOf 53 = .ok (.iaload, 1) := by decide +kernel
theorem dX7_valueOf_54 : decode cX7_valueOf 54 = .ok (.ireturn, 1) := by decide +kernel
theorem dX7_valueOf_55 : decode cX7_valueOf 55 = .ok (.aload_n 1, 1) := by decide +kernel
theorem dX7_valueOf_56 : decode cX7_valueOf 56 = .ok (.getfield 52, 3) := by decide +kernel
theorem dX7_valueOf_59 : decode cX7_valueOf 59 = .ok (.ireturn, 1) := by decide +kernel
theorem dX7_valueOf_60 : decode cX7_valueOf 60 = .ok (.iload_n 2, 1) := by decide +kernel
theorem dX7_valueOf_61 : decode cX7_valueOf 61 = .ok (.ireturn, 1) := by decide +kernel
theorem dX7_valueOf_62 : decode cX7_valueOf 62 = .ok (.iload_n 0, 1) := by decide +kernel
theorem dX7_valueOf_63 : decode cX7_valueOf 63 = .ok (.bipush 18, 2) := by decide +kernel
theorem dX7_valueOf_65 : decode cX7_valueOf 65 = .ok (.isub, 1) := by decide +kernel
theorem dX7_valueOf_66 : decode cX7_valueOf 66 = .ok (.ireturn, 1) := by decide +kernel
def u_valueOf (a0 : Int32) (a2 : Int32) (m : M) : Option (Int32) :=
  (if a0 = (13 : Int32) then some (m 1 0) else (if a0 = (14 : Int32) then Option.bind (rdI m 12 a2) (fun v1 => some v1) else (if a0 = (15 : Int32) then Option.bind (rdI m 11 a2) (fun v2 => some v2) else (if a0 = (16 : Int32) then some (m 1 2) else (if a0 = (17 : Int32) then some a2 else some (a0 - (18 : Int32)))))))
set_option maxRecDepth 20000 in
theorem t_u_valueOf {G : GG} {x : Cx} (E : En G x cX7_valueOf "WreckBoard$Rules" 1 (some .int)) (hn : xn x = 3) (a0 : Int32) (a2 : Int32) (m : M) : Sm G x 0 [(0, .int a0), (1, .ref (G.2.1 1)), (2, .int a2)] [] m (u_valueOf a0 a2 m) (KRi m) := by
  unfold u_valueOf
  refine s_iload_n 0 E dX7_valueOf_0 rfl rfl ?_
  refine s_case (fun h1_0 => ?_) (fun h1_0 => ?_)
  · refine s_tabIn 36 E dX7_valueOf_1 h1_0 (by decide) (by decide) rfl (by decide) ?_
    refine s_aload_n 1 E dX7_valueOf_36 rfl rfl ?_
    refine s_geti (k := 0) (T := TX0) 1 E rfl rfl rfl inX0 (by decide) W223 dX7_valueOf_37 ?_
    exact s_iret E rfl dX7_valueOf_40
  · refine s_case (fun h1_1 => ?_) (fun h1_1 => ?_)
    · refine s_tabIn 41 E dX7_valueOf_1 h1_1 (by decide) (by decide) rfl (by decide) ?_
      refine s_aload_n 1 E dX7_valueOf_41 rfl rfl ?_
      refine s_getr (k := 11) (T := TX0) 1 E rfl rfl rfl inX0 (by decide) W249 dX7_valueOf_42 ?_
      refine s_iload_n 2 E dX7_valueOf_45 rfl rfl ?_
      refine s_iald E dX7_valueOf_46 (fun v1 => ?_)
      exact s_iret E rfl dX7_valueOf_47
    · refine s_case (fun h1_2 => ?_) (fun h1_2 => ?_)
      · refine s_tabIn 48 E dX7_valueOf_1 h1_2 (by decide) (by decide) rfl (by decide) ?_
        refine s_aload_n 1 E dX7_valueOf_48 rfl rfl ?_
        refine s_getr (k := 10) (T := TX0) 1 E rfl rfl rfl inX0 (by decide) W246 dX7_valueOf_49 ?_
        refine s_iload_n 2 E dX7_valueOf_52 rfl rfl ?_
        refine s_iald E dX7_valueOf_53 (fun v2 => ?_)
        exact s_iret E rfl dX7_valueOf_54
      · refine s_case (fun h1_3 => ?_) (fun h1_3 => ?_)
        · refine s_tabIn 55 E dX7_valueOf_1 h1_3 (by decide) (by decide) rfl (by decide) ?_
          refine s_aload_n 1 E dX7_valueOf_55 rfl rfl ?_
          refine s_geti (k := 2) (T := TX0) 1 E rfl rfl rfl inX0 (by decide) W228 dX7_valueOf_56 ?_
          exact s_iret E rfl dX7_valueOf_59
        · refine s_case (fun h1_4 => ?_) (fun h1_4 => ?_)
          · refine s_tabIn 60 E dX7_valueOf_1 h1_4 (by decide) (by decide) rfl (by decide) ?_
            refine s_iload_n 2 E dX7_valueOf_60 rfl rfl ?_
            exact s_iret E rfl dX7_valueOf_61
          · refine s_tabOut 62 E dX7_valueOf_1 (by have e0 := ne_toIntK h1_0 (k := 13) (by decide); have e1 := ne_toIntK h1_1 (k := 14) (by decide); have e2 := ne_toIntK h1_2 (k := 15) (by decide); have e3 := ne_toIntK h1_3 (k := 16) (by decide); have e4 := ne_toIntK h1_4 (k := 17) (by decide); omega) (by decide) ?_
            refine s_iload_n 0 E dX7_valueOf_62 rfl rfl ?_
            refine s_bipush (v := (18 : Int32)) E dX7_valueOf_63 (by decide) ?_
            refine s_isub E dX7_valueOf_65 ?_
            exact s_iret E rfl dX7_valueOf_66
set_option maxRecDepth 20000 in
theorem C_u_valueOf (l : Launch) (G : GG) (a0 : Int32) (a2 : Int32) (m : M) {z : Int32} (hz : u_valueOf a0 a2 m = some z) : Ct l G yX7_valueOf cX7_valueOf 3 (some .int) 1 [.int a0, .ref (G.2.1 1), .int a2] m (some (.int z)) m :=
  ct_of (K := (KRi m)) (by decide) (Nat.le_of_ble_eq_true rfl) (congrArg (fun q => Option.bind q _) hz) (fun x hl hn E => (t_u_valueOf E hn a0 a2 m))
theorem mdX7_valueOf : mdq yX7_valueOf 3 := ⟨by decide, by decide, by decide +kernel⟩
theorem dX7_isSo_0 : decode cX7_isSo 0 = .ok (.iload_n 1, 1) := by decide +kernel
theorem dX7_isSo_1 : decode cX7_isSo 1 = .ok (.lookupswitch 49 #[(10018, 27), (10019, 38)], 27) := by decide +kernel
theorem dX7_isSo_28 : decode cX7_isSo 28 = .ok (.iload_n 0, 1) := by decide +kernel
theorem dX7_isSo_29 : decode cX7_isSo 29 = .ok (.iload_n 2, 1) := by decide +kernel
theorem dX7_isSo_30 : decode cX7_isSo 30 = .ok (.if_icmp .ge 7, 3) := by decide +kernel
theorem dX7_isSo_33 : decode cX7_isSo 33 = .ok (.iconst 1, 1) := by decide +kernel
theorem dX7_isSo_34 : decode cX7_isSo 34 = .ok (.goto 4, 3) := by decide +kernel
theorem dX7_isSo_37 : decode cX7_isSo 37 = .ok (.iconst 0, 1) := by decide +kernel
theorem dX7_isSo_38 : decode cX7_isSo 38 = .ok (.ireturn, 1) := by decide +kernel
theorem dX7_isSo_39 : decode cX7_isSo 39 = .ok (.iload_n 0, 1) := by decide +kernel
theorem dX7_isSo_40 : decode cX7_isSo 40 = .ok (.iload_n 2, 1) := by decide +kernel
theorem dX7_isSo_41 : decode cX7_isSo 41 = .ok (.if_icmp .ne 7, 3) := by decide +kernel
theorem dX7_isSo_44 : decode cX7_isSo 44 = .ok (.iconst 1, 1) := by decide +kernel
theorem dX7_isSo_45 : decode cX7_isSo 45 = .ok (.goto 4, 3) := by decide +kernel
theorem dX7_isSo_48 : decode cX7_isSo 48 = .ok (.iconst 0, 1) := by decide +kernel
theorem dX7_isSo_49 : decode cX7_isSo 49 = .ok (.ireturn, 1) := by decide +kernel
theorem dX7_isSo_50 : decode cX7_isSo 50 = .ok (.iload_n 0, 1) := by decide +kernel
theorem dX7_isSo_51 : decode cX7_isSo 51 = .ok (.iload_n 2, 1) := by decide +kernel
theorem dX7_isSo_52 : decode cX7_isSo 52 = .ok (.if_icmp .le 7, 3) := by decide +kernel
theorem dX7_isSo_55 : decode cX7_isSo 55 = .ok (.iconst 1, 1) := by decide +kernel
theorem dX7_isSo_56 : decode cX7_isSo 56 = .ok (.goto 4, 3) := by decide +kernel
theorem dX7_isSo_59 : decode cX7_isSo 59 = .ok (.iconst 0, 1) := by decide +kernel
theorem dX7_isSo_60 : decode cX7_isSo 60 = .ok (.ireturn, 1) := by decide +kernel
def u_isSo (a0 : Int32) (a1 : Int32) (a2 : Int32) (m : M) : Option (Int32) :=
  (if a1 = (10018 : Int32) then (if a2 ≤ a0 then some (0 : Int32) else some (1 : Int32)) else (if a1 = (10019 : Int32) then (if a0 = a2 then some (1 : Int32) else some (0 : Int32)) else (if a0 ≤ a2 then some (0 : Int32) else some (1 : Int32))))
set_option maxRecDepth 20000 in
theorem t_u_isSo {G : GG} {x : Cx} (E : En G x cX7_isSo "WreckBoard$Rules" 1 (some .boolean)) (hn : xn x = 3) (a0 : Int32) (a1 : Int32) (a2 : Int32) (m : M) : Sm G x 0 [(0, .int a0), (1, .int a1), (2, .int a2)] [] m (u_isSo a0 a1 a2 m) (KRi m) := by
  unfold u_isSo
  refine s_iload_n 1 E dX7_isSo_0 rfl rfl ?_
  refine s_case (fun h1_0 => ?_) (fun h1_0 => ?_)
  · refine s_look (off := 27) 28 E dX7_isSo_1 (by decide) (by rw [h1_0]; decide) (by decide) ?_
    refine s_iload_n 0 E dX7_isSo_28 rfl rfl ?_
    refine s_iload_n 2 E dX7_isSo_29 rfl rfl ?_
    refine s_icmp_ge 37 E dX7_isSo_30 (by decide) ?_ ?_
    · refine s_iconst (v := (0 : Int32)) E dX7_isSo_37 (by decide) ?_
      exact s_zret E (by decide) rfl dX7_isSo_38
    · refine s_iconst (v := (1 : Int32)) E dX7_isSo_33 (by decide) ?_
      refine s_goto 38 E dX7_isSo_34 (by decide) ?_
      exact s_zret E (by decide) rfl dX7_isSo_38
  · refine s_case (fun h1_1 => ?_) (fun h1_1 => ?_)
    · refine s_look (off := 38) 39 E dX7_isSo_1 (by decide) (by rw [h1_1]; decide) (by decide) ?_
      refine s_iload_n 0 E dX7_isSo_39 rfl rfl ?_
      refine s_iload_n 2 E dX7_isSo_40 rfl rfl ?_
      refine s_icmp_ne 48 E dX7_isSo_41 (by decide) ?_ ?_
      · refine s_iconst (v := (0 : Int32)) E dX7_isSo_48 (by decide) ?_
        exact s_zret E (by decide) rfl dX7_isSo_49
      · refine s_iconst (v := (1 : Int32)) E dX7_isSo_44 (by decide) ?_
        refine s_goto 49 E dX7_isSo_45 (by decide) ?_
        exact s_zret E (by decide) rfl dX7_isSo_49
    · refine s_look (off := 49) 50 E dX7_isSo_1 (by decide) (by have e0 := ne_toIntK h1_0 (k := 10018) (by decide); have e1 := ne_toIntK h1_1 (k := 10019) (by decide); simp [Op.lookupswitch.offset, e0, Ne.symm e0, e1, Ne.symm e1]) (by decide) ?_
      refine s_iload_n 0 E dX7_isSo_50 rfl rfl ?_
      refine s_iload_n 2 E dX7_isSo_51 rfl rfl ?_
      refine s_icmp_le 59 E dX7_isSo_52 (by decide) ?_ ?_
      · refine s_iconst (v := (0 : Int32)) E dX7_isSo_59 (by decide) ?_
        exact s_zret E (by decide) rfl dX7_isSo_60
      · refine s_iconst (v := (1 : Int32)) E dX7_isSo_55 (by decide) ?_
        refine s_goto 60 E dX7_isSo_56 (by decide) ?_
        exact s_zret E (by decide) rfl dX7_isSo_60
set_option maxRecDepth 20000 in
theorem C_u_isSo (l : Launch) (G : GG) (a0 : Int32) (a1 : Int32) (a2 : Int32) (m : M) {z : Int32} (hz : u_isSo a0 a1 a2 m = some z) : Ct l G yX7_isSo cX7_isSo 3 (some .boolean) 1 [.int a0, .int a1, .int a2] m (some (.int z)) m :=
  ct_of (K := (KRi m)) (by decide) (Nat.le_of_ble_eq_true rfl) (congrArg (fun q => Option.bind q _) hz) (fun x hl hn E => (t_u_isSo E hn a0 a1 a2 m))
theorem mdX7_isSo : mdq yX7_isSo 3 := ⟨by decide, by decide, by decide +kernel⟩
theorem dX7_holds_0 : decode cX7_holds 0 = .ok (.iconst 1, 1) := by decide +kernel
theorem dX7_holds_1 : decode cX7_holds 1 = .ok (.istore 4, 2) := by decide +kernel
theorem dX7_holds_3 : decode cX7_holds 3 = .ok (.iload_n 1, 1) := by decide +kernel
theorem dX7_holds_4 : decode cX7_holds 4 = .ok (.ifCond .le 14, 3) := by decide +kernel
theorem dX7_holds_7 : decode cX7_holds 7 = .ok (.aload_n 0, 1) := by decide +kernel
theorem dX7_holds_8 : decode cX7_holds 8 = .ok (.getfield 18, 3) := by decide +kernel
theorem dX7_holds_11 : decode cX7_holds 11 = .ok (.iload_n 1, 1) := by decide +kernel
theorem dX7_holds_12 : decode cX7_holds 12 = .ok (.iconst 1, 1) := by decide +kernel
theorem dX7_holds_13 : decode cX7_holds 13 = .ok (.isub, 1) := by decide +kernel
theorem dX7_holds_14 : decode cX7_holds 14 = .ok (.iaload, 1) := by decide +kernel
theorem dX7_holds_15 : decode cX7_holds 15 = .ok (.goto 4, 3) := by decide +kernel
theorem dX7_holds_18 : decode cX7_holds 18 = .ok (.iconst 0, 1) := by decide +kernel
theorem dX7_holds_19 : decode cX7_holds 19 = .ok (.istore 5, 2) := by decide +kernel
theorem dX7_holds_21 : decode cX7_holds 21 = .ok (.iload 5, 2) := by decide +kernel
theorem dX7_holds_23 : decode cX7_holds 23 = .ok (.aload_n 0, 1) := by decide +kernel
theorem dX7_holds_24 : decode cX7_holds 24 = .ok (.getfield 18, 3) := by decide +kernel
theorem dX7_holds_27 : decode cX7_holds 27 = .ok (.iload_n 1, 1) := by decide +kernel
theorem dX7_holds_28 : decode cX7_holds 28 = .ok (.iaload, 1) := by decide +kernel
theorem dX7_holds_29 : decode cX7_holds 29 = .ok (.if_icmp .ge 147, 3) := by decide +kernel
theorem dX7_holds_32 : decode cX7_holds 32 = .ok (.aload_n 0, 1) := by decide +kernel
theorem dX7_holds_33 : decode cX7_holds 33 = .ok (.getfield 23, 3) := by decide +kernel
theorem dX7_holds_36 : decode cX7_holds 36 = .ok (.iload 5, 2) := by decide +kernel
theorem dX7_holds_38 : decode cX7_holds 38 = .ok (.iaload, 1) := by decide +kernel
theorem dX7_holds_39 : decode cX7_holds 39 = .ok (.istore 6, 2) := by decide +kernel
theorem dX7_holds_41 : decode cX7_holds 41 = .ok (.iload 4, 2) := by decide +kernel
theorem dX7_holds_43 : decode cX7_holds 43 = .ok (.iconst 1, 1) := by decide +kernel
theorem dX7_holds_44 : decode cX7_holds 44 = .ok (.iand, 1) := by decide +kernel
theorem dX7_holds_45 : decode cX7_holds 45 = .ok (.istore 7, 2) := by decide +kernel
theorem dX7_holds_47 : decode cX7_holds 47 = .ok (.iload 6, 2) := by decide +kernel
theorem dX7_holds_49 : decode cX7_holds 49 = .ok (.bipush 12, 2) := by decide +kernel
theorem dX7_holds_51 : decode cX7_holds 51 = .ok (.if_icmp .ne 12, 3) := by decide +kernel
theorem dX7_holds_54 : decode cX7_holds 54 = .ok (.iload 4, 2) := by decide +kernel
theorem dX7_holds_56 : decode cX7_holds 56 = .ok (.iconst 1, 1) := by decide +kernel
theorem dX7_holds_57 : decode cX7_holds 57 = .ok (.ixor, 1) := by decide +kernel
theorem dX7_holds_58 : decode cX7_holds 58 = .ok (.istore 4, 2) := by decide +kernel
theorem dX7_holds_60 : decode cX7_holds 60 = .ok (.goto 110, 3) := by decide +kernel
theorem dX7_holds_63 : decode cX7_holds 63 = .ok (.iload 6, 2) := by decide +kernel
theorem dX7_holds_65 : decode cX7_holds 65 = .ok (.bipush 11, 2) := by decide +kernel
theorem dX7_holds_67 : decode cX7_holds 67 = .ok (.if_icmp .ne 17, 3) := by decide +kernel
theorem dX7_holds_70 : decode cX7_holds 70 = .ok (.iload 4, 2) := by decide +kernel
theorem dX7_holds_72 : decode cX7_holds 72 = .ok (.iconst 1, 1) := by decide +kernel
theorem dX7_holds_73 : decode cX7_holds 73 = .ok (.ishr, 1) := by decide +kernel
theorem dX7_holds_74 : decode cX7_holds 74 = .ok (.iload 7, 2) := by decide +kernel
theorem dX7_holds_76 : decode cX7_holds 76 = .ok (.iconst 2, 1) := by decide +kernel
theorem dX7_holds_77 : decode cX7_holds 77 = .ok (.isub, 1) := by decide +kernel
theorem dX7_holds_78 : decode cX7_holds 78 = .ok (.iand, 1) := by decide +kernel
theorem dX7_holds_79 : decode cX7_holds 79 = .ok (.istore 4, 2) := by decide +kernel
theorem dX7_holds_81 : decode cX7_holds 81 = .ok (.goto 89, 3) := by decide +kernel
theorem dX7_holds_84 : decode cX7_holds 84 = .ok (.iload 6, 2) := by decide +kernel
theorem dX7_holds_86 : decode cX7_holds 86 = .ok (.bipush 10, 2) := by decide +kernel
theorem dX7_holds_88 : decode cX7_holds 88 = .ok (.if_icmp .ne 15, 3) := by decide +kernel
theorem dX7_holds_91 : decode cX7_holds 91 = .ok (.iload 4, 2) := by decide +kernel
theorem dX7_holds_93 : decode cX7_holds 93 = .ok (.iconst 1, 1) := by decide +kernel
theorem dX7_holds_94 : decode cX7_holds 94 = .ok (.ishr, 1) := by decide +kernel
theorem dX7_holds_95 : decode cX7_holds 95 = .ok (.iload 7, 2) := by decide +kernel
theorem dX7_holds_97 : decode cX7_holds 97 = .ok (.ior, 1) := by decide +kernel
theorem dX7_holds_98 : decode cX7_holds 98 = .ok (.istore 4, 2) := by decide +kernel
theorem dX7_holds_100 : decode cX7_holds 100 = .ok (.goto 70, 3) := by decide +kernel
theorem dX7_holds_103 : decode cX7_holds 103 = .ok (.iload 5, 2) := by decide +kernel
theorem dX7_holds_105 : decode cX7_holds 105 = .ok (.iconst 2, 1) := by decide +kernel
theorem dX7_holds_106 : decode cX7_holds 106 = .ok (.iadd, 1) := by decide +kernel
theorem dX7_holds_107 : decode cX7_holds 107 = .ok (.aload_n 0, 1) := by decide +kernel
theorem dX7_holds_108 : decode cX7_holds 108 = .ok (.getfield 23, 3) := by decide +kernel
theorem dX7_holds_111 : decode cX7_holds 111 = .ok (.arraylength, 1) := by decide +kernel
theorem dX7_holds_112 : decode cX7_holds 112 = .ok (.if_icmp .ge 58, 3) := by decide +kernel
theorem dX7_holds_115 : decode cX7_holds 115 = .ok (.aload_n 0, 1) := by decide +kernel
theorem dX7_holds_116 : decode cX7_holds 116 = .ok (.getfield 23, 3) := by decide +kernel
theorem dX7_holds_119 : decode cX7_holds 119 = .ok (.iload 5, 2) := by decide +kernel
theorem dX7_holds_121 : decode cX7_holds 121 = .ok (.iconst 1, 1) := by decide +kernel
theorem dX7_holds_122 : decode cX7_holds 122 = .ok (.iadd, 1) := by decide +kernel
theorem dX7_holds_123 : decode cX7_holds 123 = .ok (.iaload, 1) := by decide +kernel
theorem dX7_holds_124 : decode cX7_holds 124 = .ok (.aload_n 2, 1) := by decide +kernel
theorem dX7_holds_125 : decode cX7_holds 125 = .ok (.iload_n 3, 1) := by decide +kernel
theorem dX7_holds_126 : decode cX7_holds 126 = .ok (.invokestatic 33, 3) := by decide +kernel
theorem dX7_holds_129 : decode cX7_holds 129 = .ok (.iload 6, 2) := by decide +kernel
theorem dX7_holds_131 : decode cX7_holds 131 = .ok (.aload_n 0, 1) := by decide +kernel
theorem dX7_holds_132 : decode cX7_holds 132 = .ok (.getfield 23, 3) := by decide +kernel
theorem dX7_holds_135 : decode cX7_holds 135 = .ok (.iload 5, 2) := by decide +kernel
theorem dX7_holds_137 : decode cX7_holds 137 = .ok (.iconst 2, 1) := by decide +kernel
theorem dX7_holds_138 : decode cX7_holds 138 = .ok (.iadd, 1) := by decide +kernel
theorem dX7_holds_139 : decode cX7_holds 139 = .ok (.iaload, 1) := by decide +kernel
theorem dX7_holds_140 : decode cX7_holds 140 = .ok (.aload_n 2, 1) := by decide +kernel
theorem dX7_holds_141 : decode cX7_holds 141 = .ok (.iload_n 3, 1) := by decide +kernel
theorem dX7_holds_142 : decode cX7_holds 142 = .ok (.invokestatic 33, 3) := by decide +kernel
theorem dX7_holds_145 : decode cX7_holds 145 = .ok (.invokestatic 37, 3) := by decide +kernel
theorem dX7_holds_148 : decode cX7_holds 148 = .ok (.istore 8, 2) := by decide +kernel
theorem dX7_holds_150 : decode cX7_holds 150 = .ok (.iload 4, 2) := by decide +kernel
theorem dX7_holds_152 : decode cX7_holds 152 = .ok (.iconst 1, 1) := by decide +kernel
theorem dX7_holds_153 : decode cX7_holds 153 = .ok (.ishl, 1) := by decide +kernel
theorem dX7_holds_154 : decode cX7_holds 154 = .ok (.iload 8, 2) := by decide +kernel
theorem dX7_holds_156 : decode cX7_holds 156 = .ok (.ifCond .eq 7, 3) := by decide +kernel
theorem dX7_holds_159 : decode cX7_holds 159 = .ok (.iconst 1, 1) := by decide +kernel
theorem dX7_holds_160 : decode cX7_holds 160 = .ok (.goto 4, 3) := by decide +kernel
theorem dX7_holds_163 : decode cX7_holds 163 = .ok (.iconst 0, 1) := by decide +kernel
theorem dX7_holds_164 : decode cX7_holds 164 = .ok (.ior, 1) := by decide +kernel
theorem dX7_holds_165 : decode cX7_holds 165 = .ok (.istore 4, 2) := by decide +kernel
theorem dX7_holds_167 : decode cX7_holds 167 = .ok (.iinc 5 2, 3) := by decide +kernel
theorem dX7_holds_170 : decode cX7_holds 170 = .ok (.iinc 5 1, 3) := by decide +kernel
theorem dX7_holds_173 : decode cX7_holds 173 = .ok (.goto (-152), 3) := by decide +kernel
theorem dX7_holds_176 : decode cX7_holds 176 = .ok (.iload 4, 2) := by decide +kernel
theorem dX7_holds_178 : decode cX7_holds 178 = .ok (.iconst 1, 1) := by decide +kernel
theorem dX7_holds_179 : decode cX7_holds 179 = .ok (.iand, 1) := by decide +kernel
theorem dX7_holds_180 : decode cX7_holds 180 = .ok (.iconst 1, 1) := by decide +kernel
theorem dX7_holds_181 : decode cX7_holds 181 = .ok (.if_icmp .ne 7, 3) := by decide +kernel
theorem dX7_holds_184 : decode cX7_holds 184 = .ok (.iconst 1, 1) := by decide +kernel
theorem dX7_holds_185 : decode cX7_holds 185 = .ok (.goto 4, 3) := by decide +kernel
theorem dX7_holds_188 : decode cX7_holds 188 = .ok (.iconst 0, 1) := by decide +kernel
theorem dX7_holds_189 : decode cX7_holds 189 = .ok (.ireturn, 1) := by decide +kernel
def u_holds_170 (a1 : Int32) (a3 : Int32) (a4 : Int32) (a5 : Int32) (m : M) : Option ((Int32 × Int32) ⊕ ((Int32))) :=
  lt (a5 + (1 : Int32)) (fun w1 : Int32 => some (.inl (a4, w1)))
set_option maxRecDepth 20000 in
theorem t_u_holds_170 {G : GG} {x : Cx} {K : ((Int32 × Int32) ⊕ ((Int32))) → Option (Option Value × M)} (E : En G x cX7_holds "WreckBoard$Rules" 2 (some .boolean)) (hn : xn x = 9) (a1 : Int32) (a3 : Int32) (a4 : Int32) (a5 : Int32) (m : M) (hb : ∀ z : Int32 × Int32, Sm G x 21 [(0, .ref (G.2.1 3)), (1, .int a1), (2, .ref (G.2.1 1)), (3, .int a3), (4, .int z.1), (5, .int z.2)] [] m (some (.inl z)) K) (hx0 : ∀ z : Int32, Sm G x 176 [(4, .int z)] [] m (some (.inr z)) K) : Sm G x 170 [(0, .ref (G.2.1 3)), (1, .int a1), (2, .ref (G.2.1 1)), (3, .int a3), (4, .int a4), (5, .int a5)] [] m (u_holds_170 a1 a3 a4 a5 m) K := by
  unfold u_holds_170
  refine s_iincL (v := (1 : Int32)) 5 [1, 2, 3, 4, 5, 0] (fun w1 => [(0, .ref (G.2.1 3)), (1, .int a1), (2, .ref (G.2.1 1)), (3, .int a3), (4, .int a4), (5, .int w1)]) E dX7_holds_170 rfl (by decide) (by rw [hn]; decide) (fun _ => rfl) (fun w1 => ?_)
  refine s_goto 21 E dX7_holds_173 (by decide) ?_
  exact hb (a4, w1)
def u_holds_164 (a1 : Int32) (a3 : Int32) (a5 : Int32) (s0 : Int32) (s1 : Int32) (m : M) : Option ((Int32 × Int32) ⊕ ((Int32))) :=
  lt (s0 ||| s1) (fun w1 : Int32 => lt (a5 + (2 : Int32)) (fun w2 : Int32 => u_holds_170 a1 a3 w1 w2 m))
set_option maxRecDepth 20000 in
theorem t_u_holds_164 {G : GG} {x : Cx} {K : ((Int32 × Int32) ⊕ ((Int32))) → Option (Option Value × M)} (E : En G x cX7_holds "WreckBoard$Rules" 2 (some .boolean)) (hn : xn x = 9) (a1 : Int32) (a3 : Int32) (a5 : Int32) (s0 : Int32) (s1 : Int32) (m : M) (hb : ∀ z : Int32 × Int32, Sm G x 21 [(0, .ref (G.2.1 3)), (1, .int a1), (2, .ref (G.2.1 1)), (3, .int a3), (4, .int z.1), (5, .int z.2)] [] m (some (.inl z)) K) (hx0 : ∀ z : Int32, Sm G x 176 [(4, .int z)] [] m (some (.inr z)) K) : Sm G x 164 [(0, .ref (G.2.1 3)), (1, .int a1), (2, .ref (G.2.1 1)), (3, .int a3), (5, .int a5)] [.int s1, .int s0] m (u_holds_164 a1 a3 a5 s0 s1 m) K := by
  unfold u_holds_164
  refine s_ior E dX7_holds_164 ?_
  refine s_lt (fun w1 => [(0, .ref (G.2.1 3)), (1, .int a1), (2, .ref (G.2.1 1)), (3, .int a3), (5, .int a5)]) (fun w1 => [.int w1]) rfl rfl (fun w1 => ?_)
  refine s_istore (lv' := [(0, .ref (G.2.1 3)), (1, .int a1), (2, .ref (G.2.1 1)), (3, .int a3), (4, .int w1), (5, .int a5)]) [1, 2, 3, 4, 0, 5] E dX7_holds_165 (by rw [hn]; decide) rfl ?_
  refine s_iincL (v := (2 : Int32)) 5 [1, 2, 3, 4, 5, 0] (fun w2 => [(0, .ref (G.2.1 3)), (1, .int a1), (2, .ref (G.2.1 1)), (3, .int a3), (4, .int w1), (5, .int w2)]) E dX7_holds_167 rfl (by decide) (by rw [hn]; decide) (fun _ => rfl) (fun w2 => ?_)
  exact t_u_holds_170 E hn a1 a3 w1 w2 m hb hx0
def u_holds_21b (a1 : Int32) (a3 : Int32) (a4 : Int32) (a5 : Int32) (m : M) : Option ((Int32 × Int32) ⊕ ((Int32))) :=
  Option.bind (rdI m 28 a1) (fun v1 => (if v1 ≤ a5 then some (.inr a4) else Option.bind (rdI m 29 a5) (fun v2 => lt (a4 &&& (1 : Int32)) (fun w3 : Int32 => (if v2 = (12 : Int32) then lt (a4 ^^^ (1 : Int32)) (fun w11 : Int32 => u_holds_170 a1 a3 w11 a5 m) else (if v2 = (11 : Int32) then lt ((a4 >>> ((1 : Int32) &&& 31)) &&& (w3 - (2 : Int32))) (fun w10 : Int32 => u_holds_170 a1 a3 w10 a5 m) else (if v2 = (10 : Int32) then lt ((a4 >>> ((1 : Int32) &&& 31)) ||| w3) (fun w9 : Int32 => u_holds_170 a1 a3 w9 a5 m) else (if (200 : Int32) ≤ (a5 + (2 : Int32)) then u_holds_170 a1 a3 a4 a5 m else Option.bind (rdI m 29 (a5 + (1 : Int32))) (fun v4 => Option.bind (u_valueOf v4 a3 m) (fun v5 => Option.bind (rdI m 29 (a5 + (2 : Int32))) (fun v6 => Option.bind (u_valueOf v6 a3 m) (fun v7 => Option.bind (u_isSo v5 v2 v7 m) (fun v8 => (if v8 = 0 then u_holds_164 a1 a3 a5 (a4 <<< ((1 : Int32) &&& 31)) (0 : Int32) m else u_holds_164 a1 a3 a5 (a4 <<< ((1 : Int32) &&& 31)) (1 : Int32) m))))))))))))))
set_option maxRecDepth 20000 in
theorem t_u_holds_21b {G : GG} {x : Cx} {K : ((Int32 × Int32) ⊕ ((Int32))) → Option (Option Value × M)} (E : En G x cX7_holds "WreckBoard$Rules" 2 (some .boolean)) (hn : xn x = 9) (a1 : Int32) (a3 : Int32) (a4 : Int32) (a5 : Int32) (m : M) (hb : ∀ z : Int32 × Int32, Sm G x 21 [(0, .ref (G.2.1 3)), (1, .int a1), (2, .ref (G.2.1 1)), (3, .int a3), (4, .int z.1), (5, .int z.2)] [] m (some (.inl z)) K) (hx0 : ∀ z : Int32, Sm G x 176 [(4, .int z)] [] m (some (.inr z)) K) : Sm G x 21 [(0, .ref (G.2.1 3)), (1, .int a1), (2, .ref (G.2.1 1)), (3, .int a3), (4, .int a4), (5, .int a5)] [] m (u_holds_21b a1 a3 a4 a5 m) K := by
  unfold u_holds_21b
  refine s_iload 5 E dX7_holds_21 rfl ?_
  refine s_aload_n 0 E dX7_holds_23 rfl rfl ?_
  refine s_getr (k := 3) (T := TX7) 3 E rfl rfl rfl inX7 (by decide) W139 dX7_holds_24 ?_
  refine s_iload_n 1 E dX7_holds_27 rfl rfl ?_
  refine s_iald E dX7_holds_28 (fun v1 => ?_)
  refine s_icmp_ge 176 E dX7_holds_29 (by decide) ?_ ?_
  · refine s_sub (lv' := [(4, .int a4)]) [4] rfl ?_
    exact hx0 a4
  · refine s_aload_n 0 E dX7_holds_32 rfl rfl ?_
    refine s_getr (k := 4) (T := TX7) 3 E rfl rfl rfl inX7 (by decide) W140 dX7_holds_33 ?_
    refine s_iload 5 E dX7_holds_36 rfl ?_
    refine s_iald E dX7_holds_38 (fun v2 => ?_)
    refine s_istore (lv' := [(0, .ref (G.2.1 3)), (1, .int a1), (2, .ref (G.2.1 1)), (3, .int a3), (4, .int a4), (5, .int a5), (6, .int v2)]) [1, 2, 3, 4, 5, 6, 0] E dX7_holds_39 (by rw [hn]; decide) rfl ?_
    refine s_iload 4 E dX7_holds_41 rfl ?_
    refine s_iconst (v := (1 : Int32)) E dX7_holds_43 (by decide) ?_
    refine s_iand E dX7_holds_44 ?_
    refine s_lt (fun w3 => [(0, .ref (G.2.1 3)), (1, .int a1), (2, .ref (G.2.1 1)), (3, .int a3), (4, .int a4), (5, .int a5), (6, .int v2)]) (fun w3 => [.int w3]) rfl rfl (fun w3 => ?_)
    refine s_istore (lv' := [(0, .ref (G.2.1 3)), (1, .int a1), (2, .ref (G.2.1 1)), (3, .int a3), (4, .int a4), (5, .int a5), (6, .int v2), (7, .int w3)]) [1, 2, 3, 4, 5, 6, 7, 0] E dX7_holds_45 (by rw [hn]; decide) rfl ?_
    refine s_iload 6 E dX7_holds_47 rfl ?_
    refine s_bipush (v := (12 : Int32)) E dX7_holds_49 (by decide) ?_
    refine s_icmp_ne 63 E dX7_holds_51 (by decide) ?_ ?_
    · refine s_iload 6 E dX7_holds_63 rfl ?_
      refine s_bipush (v := (11 : Int32)) E dX7_holds_65 (by decide) ?_
      refine s_icmp_ne 84 E dX7_holds_67 (by decide) ?_ ?_
      · refine s_iload 6 E dX7_holds_84 rfl ?_
        refine s_bipush (v := (10 : Int32)) E dX7_holds_86 (by decide) ?_
        refine s_icmp_ne 103 E dX7_holds_88 (by decide) ?_ ?_
        · refine s_iload 5 E dX7_holds_103 rfl ?_
          refine s_iconst (v := (2 : Int32)) E dX7_holds_105 (by decide) ?_
          refine s_iadd E dX7_holds_106 ?_
          refine s_aload_n 0 E dX7_holds_107 rfl rfl ?_
          refine s_getr (k := 4) (T := TX7) 3 E rfl rfl rfl inX7 (by decide) W140 dX7_holds_108 ?_
          refine s_alen (n := 200) (v := (200 : Int32)) E rfl (by decide) (by decide) dX7_holds_111 ?_
          refine s_icmp_ge 170 E dX7_holds_112 (by decide) ?_ ?_
          · refine s_sub (lv' := [(0, .ref (G.2.1 3)), (1, .int a1), (2, .ref (G.2.1 1)), (3, .int a3), (4, .int a4), (5, .int a5)]) [0, 1, 2, 3, 4, 5] rfl ?_
            exact t_u_holds_170 E hn a1 a3 a4 a5 m hb hx0
          · refine s_aload_n 0 E dX7_holds_115 rfl rfl ?_
            refine s_getr (k := 4) (T := TX7) 3 E rfl rfl rfl inX7 (by decide) W140 dX7_holds_116 ?_
            refine s_iload 5 E dX7_holds_119 rfl ?_
            refine s_iconst (v := (1 : Int32)) E dX7_holds_121 (by decide) ?_
            refine s_iadd E dX7_holds_122 ?_
            refine s_iald E dX7_holds_123 (fun v4 => ?_)
            refine s_aload_n 2 E dX7_holds_124 rfl rfl ?_
            refine s_iload_n 3 E dX7_holds_125 rfl rfl ?_
            refine s_bd (fun v5 hz => ?_)
            refine s_cS (rest := []) E (C_u_valueOf (xl x) G v4 a3 m hz) mdX7_valueOf W525 W526 W93 W527 rfl rfl (Nat.le_of_ble_eq_true rfl) ⟨by decide, by decide⟩ dX7_holds_126 ?_
            refine s_iload 6 E dX7_holds_129 rfl ?_
            refine s_aload_n 0 E dX7_holds_131 rfl rfl ?_
            refine s_getr (k := 4) (T := TX7) 3 E rfl rfl rfl inX7 (by decide) W140 dX7_holds_132 ?_
            refine s_iload 5 E dX7_holds_135 rfl ?_
            refine s_iconst (v := (2 : Int32)) E dX7_holds_137 (by decide) ?_
            refine s_iadd E dX7_holds_138 ?_
            refine s_iald E dX7_holds_139 (fun v6 => ?_)
            refine s_aload_n 2 E dX7_holds_140 rfl rfl ?_
            refine s_iload_n 3 E dX7_holds_141 rfl rfl ?_
            refine s_bd (fun v7 hz => ?_)
            refine s_cS (rest := [.int v2, .int v5]) E (C_u_valueOf (xl x) G v6 a3 m hz) mdX7_valueOf W525 W526 W93 W527 rfl rfl (Nat.le_of_ble_eq_true rfl) ⟨by decide, by decide⟩ dX7_holds_142 ?_
            refine s_bd (fun v8 hz => ?_)
            refine s_cS (rest := []) E (C_u_isSo (xl x) G v5 v2 v7 m hz) mdX7_isSo W528 W529 W93 W530 rfl rfl (Nat.le_of_ble_eq_true rfl) ⟨by decide, by decide⟩ dX7_holds_145 ?_
            refine s_istore (lv' := [(0, .ref (G.2.1 3)), (1, .int a1), (2, .ref (G.2.1 1)), (3, .int a3), (4, .int a4), (5, .int a5), (8, .int v8)]) [1, 2, 3, 4, 5, 6, 0] E dX7_holds_148 (by rw [hn]; decide) rfl ?_
            refine s_iload 4 E dX7_holds_150 rfl ?_
            refine s_iconst (v := (1 : Int32)) E dX7_holds_152 (by decide) ?_
            refine s_ishl E dX7_holds_153 ?_
            refine s_iload 6 E dX7_holds_154 rfl ?_
            refine s_if_eq 163 E dX7_holds_156 (by decide) ?_ ?_
            · refine s_iconst (v := (0 : Int32)) E dX7_holds_163 (by decide) ?_
              refine s_sub (lv' := [(0, .ref (G.2.1 3)), (1, .int a1), (2, .ref (G.2.1 1)), (3, .int a3), (5, .int a5)]) [0, 1, 2, 3, 5] rfl ?_
              exact t_u_holds_164 E hn a1 a3 a5 (a4 <<< ((1 : Int32) &&& 31)) (0 : Int32) m hb hx0
            · refine s_iconst (v := (1 : Int32)) E dX7_holds_159 (by decide) ?_
              refine s_goto 164 E dX7_holds_160 (by decide) ?_
              refine s_sub (lv' := [(0, .ref (G.2.1 3)), (1, .int a1), (2, .ref (G.2.1 1)), (3, .int a3), (5, .int a5)]) [0, 1, 2, 3, 5] rfl ?_
              exact t_u_holds_164 E hn a1 a3 a5 (a4 <<< ((1 : Int32) &&& 31)) (1 : Int32) m hb hx0
        · refine s_iload 4 E dX7_holds_91 rfl ?_
          refine s_iconst (v := (1 : Int32)) E dX7_holds_93 (by decide) ?_
          refine s_ishr E dX7_holds_94 ?_
          refine s_iload 7 E dX7_holds_95 rfl ?_
          refine s_ior E dX7_holds_97 ?_
          refine s_lt (fun w9 => [(0, .ref (G.2.1 3)), (1, .int a1), (2, .ref (G.2.1 1)), (3, .int a3), (4, .int a4), (5, .int a5), (6, .int v2), (7, .int w3)]) (fun w9 => [.int w9]) rfl rfl (fun w9 => ?_)
          refine s_istore (lv' := [(0, .ref (G.2.1 3)), (1, .int a1), (2, .ref (G.2.1 1)), (3, .int a3), (4, .int w9), (5, .int a5)]) [1, 2, 3, 4, 0, 5] E dX7_holds_98 (by rw [hn]; decide) rfl ?_
          refine s_goto 170 E dX7_holds_100 (by decide) ?_
          exact t_u_holds_170 E hn a1 a3 w9 a5 m hb hx0
      · refine s_iload 4 E dX7_holds_70 rfl ?_
        refine s_iconst (v := (1 : Int32)) E dX7_holds_72 (by decide) ?_
        refine s_ishr E dX7_holds_73 ?_
        refine s_iload 7 E dX7_holds_74 rfl ?_
        refine s_iconst (v := (2 : Int32)) E dX7_holds_76 (by decide) ?_
        refine s_isub E dX7_holds_77 ?_
        refine s_iand E dX7_holds_78 ?_
        refine s_lt (fun w10 => [(0, .ref (G.2.1 3)), (1, .int a1), (2, .ref (G.2.1 1)), (3, .int a3), (4, .int a4), (5, .int a5), (6, .int v2), (7, .int w3)]) (fun w10 => [.int w10]) rfl rfl (fun w10 => ?_)
        refine s_istore (lv' := [(0, .ref (G.2.1 3)), (1, .int a1), (2, .ref (G.2.1 1)), (3, .int a3), (4, .int w10), (5, .int a5)]) [1, 2, 3, 4, 0, 5] E dX7_holds_79 (by rw [hn]; decide) rfl ?_
        refine s_goto 170 E dX7_holds_81 (by decide) ?_
        exact t_u_holds_170 E hn a1 a3 w10 a5 m hb hx0
    · refine s_iload 4 E dX7_holds_54 rfl ?_
      refine s_iconst (v := (1 : Int32)) E dX7_holds_56 (by decide) ?_
      refine s_ixor E dX7_holds_57 ?_
      refine s_lt (fun w11 => [(0, .ref (G.2.1 3)), (1, .int a1), (2, .ref (G.2.1 1)), (3, .int a3), (4, .int a4), (5, .int a5), (6, .int v2), (7, .int w3)]) (fun w11 => [.int w11]) rfl rfl (fun w11 => ?_)
      refine s_istore (lv' := [(0, .ref (G.2.1 3)), (1, .int a1), (2, .ref (G.2.1 1)), (3, .int a3), (4, .int w11), (5, .int a5)]) [1, 2, 3, 4, 0, 5] E dX7_holds_58 (by rw [hn]; decide) rfl ?_
      refine s_goto 170 E dX7_holds_60 (by decide) ?_
      exact t_u_holds_170 E hn a1 a3 w11 a5 m hb hx0
def u_holds_21 (a1 : Int32) (a3 : Int32) (a4 : Int32) (a5 : Int32) (m : M) : Option (Int32) :=
  Option.bind (iter (fun z => u_holds_21b a1 a3 z.1 z.2 m) FU (a4, a5)) (fun r => (if (r &&& (1 : Int32)) = (1 : Int32) then some (1 : Int32) else some (0 : Int32)))
set_option maxRecDepth 20000 in
theorem t_u_holds_21 {G : GG} {x : Cx} (E : En G x cX7_holds "WreckBoard$Rules" 2 (some .boolean)) (hn : xn x = 9) (a1 : Int32) (a3 : Int32) (a4 : Int32) (a5 : Int32) (m : M) : Sm G x 21 [(0, .ref (G.2.1 3)), (1, .int a1), (2, .ref (G.2.1 1)), (3, .int a3), (4, .int a4), (5, .int a5)] [] m (u_holds_21 a1 a3 a4 a5 m) (KRi m) := by
  unfold u_holds_21
  refine s_loop (fun z => [(0, .ref (G.2.1 3)), (1, .int a1), (2, .ref (G.2.1 1)), (3, .int a3), (4, .int z.1), (5, .int z.2)]) (fun z => m) (fun K2 hb2 hr2 z => ?_) FU (a4, a5)
  refine t_u_holds_21b (K := K2) E hn a1 a3 z.1 z.2 m hb2 (fun r => s_out (hr2 r) ?_)
  · refine s_iload 0 E dX7_holds_176 rfl ?_
    refine s_iconst (v := (1 : Int32)) E dX7_holds_178 (by decide) ?_
    refine s_iand E dX7_holds_179 ?_
    refine s_iconst (v := (1 : Int32)) E dX7_holds_180 (by decide) ?_
    refine s_icmp_ne 188 E dX7_holds_181 (by decide) ?_ ?_
    · refine s_iconst (v := (0 : Int32)) E dX7_holds_188 (by decide) ?_
      exact s_zret E (by decide) rfl dX7_holds_189
    · refine s_iconst (v := (1 : Int32)) E dX7_holds_184 (by decide) ?_
      refine s_goto 189 E dX7_holds_185 (by decide) ?_
      exact s_zret E (by decide) rfl dX7_holds_189
def u_holds_19 (a1 : Int32) (a3 : Int32) (s0 : Int32) (m : M) : Option (Int32) :=
  u_holds_21 a1 a3 (1 : Int32) s0 m
set_option maxRecDepth 20000 in
theorem t_u_holds_19 {G : GG} {x : Cx} (E : En G x cX7_holds "WreckBoard$Rules" 2 (some .boolean)) (hn : xn x = 9) (a1 : Int32) (a3 : Int32) (s0 : Int32) (m : M) : Sm G x 19 [(0, .ref (G.2.1 3)), (1, .int a1), (2, .ref (G.2.1 1)), (3, .int a3), (4, .int (1 : Int32))] [.int s0] m (u_holds_19 a1 a3 s0 m) (KRi m) := by
  unfold u_holds_19
  refine s_istore (lv' := [(0, .ref (G.2.1 3)), (1, .int a1), (2, .ref (G.2.1 1)), (3, .int a3), (4, .int (1 : Int32)), (5, .int s0)]) [1, 2, 3, 4, 5, 0] E dX7_holds_19 (by rw [hn]; decide) rfl ?_
  exact t_u_holds_21 E hn a1 a3 (1 : Int32) s0 m
def u_holds (a1 : Int32) (a3 : Int32) (m : M) : Option (Int32) :=
  (if a1 ≤ 0 then u_holds_19 a1 a3 (0 : Int32) m else Option.bind (rdI m 28 (a1 - (1 : Int32))) (fun v1 => u_holds_19 a1 a3 v1 m))
set_option maxRecDepth 20000 in
theorem t_u_holds {G : GG} {x : Cx} (E : En G x cX7_holds "WreckBoard$Rules" 2 (some .boolean)) (hn : xn x = 9) (a1 : Int32) (a3 : Int32) (m : M) : Sm G x 0 [(0, .ref (G.2.1 3)), (1, .int a1), (2, .ref (G.2.1 1)), (3, .int a3)] [] m (u_holds a1 a3 m) (KRi m) := by
  unfold u_holds
  refine s_iconst (v := (1 : Int32)) E dX7_holds_0 (by decide) ?_
  refine s_istore (lv' := [(0, .ref (G.2.1 3)), (1, .int a1), (2, .ref (G.2.1 1)), (3, .int a3), (4, .int (1 : Int32))]) [1, 2, 3, 4, 0] E dX7_holds_1 (by rw [hn]; decide) rfl ?_
  refine s_iload_n 1 E dX7_holds_3 rfl rfl ?_
  refine s_if_le 18 E dX7_holds_4 (by decide) ?_ ?_
  · refine s_iconst (v := (0 : Int32)) E dX7_holds_18 (by decide) ?_
    exact t_u_holds_19 E hn a1 a3 (0 : Int32) m
  · refine s_aload_n 0 E dX7_holds_7 rfl rfl ?_
    refine s_getr (k := 3) (T := TX7) 3 E rfl rfl rfl inX7 (by decide) W139 dX7_holds_8 ?_
    refine s_iload_n 1 E dX7_holds_11 rfl rfl ?_
    refine s_iconst (v := (1 : Int32)) E dX7_holds_12 (by decide) ?_
    refine s_isub E dX7_holds_13 ?_
    refine s_iald E dX7_holds_14 (fun v1 => ?_)
    refine s_goto 19 E dX7_holds_15 (by decide) ?_
    exact t_u_holds_19 E hn a1 a3 v1 m
set_option maxRecDepth 20000 in
theorem C_u_holds (l : Launch) (G : GG) (a1 : Int32) (a3 : Int32) (m : M) {z : Int32} (hz : u_holds a1 a3 m = some z) : Ct l G yX7_holds cX7_holds 9 (some .boolean) 2 [.ref (G.2.1 3), .int a1, .ref (G.2.1 1), .int a3] m (some (.int z)) m :=
  ct_of (K := (KRi m)) (by decide) (Nat.le_of_ble_eq_true rfl) (congrArg (fun q => Option.bind q _) hz) (fun x hl hn E => (t_u_holds E hn a1 a3 m))
theorem mdX7_holds : mdq yX7_holds 3 := ⟨by decide, by decide, by decide +kernel⟩
theorem dX0_willOf_0 : decode cX0_willOf 0 = .ok (.iconst 0, 1) := by decide +kernel
theorem dX0_willOf_1 : decode cX0_willOf 1 = .ok (.istore_n 2, 1) := by decide +kernel
theorem dX0_willOf_2 : decode cX0_willOf 2 = .ok (.iload_n 2, 1) := by decide +kernel
theorem dX0_willOf_3 : decode cX0_willOf 3 = .ok (.aload_n 0, 1) := by decide +kernel
theorem dX0_willOf_4 : decode cX0_willOf 4 = .ok (.getfield 46, 3) := by decide +kernel
theorem dX0_willOf_7 : decode cX0_willOf 7 = .ok (.getfield 133, 3) := by decide +kernel
theorem dX0_willOf_10 : decode cX0_willOf 10 = .ok (.if_icmp .ge 53, 3) := by decide +kernel
theorem dX0_willOf_13 : decode cX0_willOf 13 = .ok (.aload_n 0, 1) := by decide +kernel
theorem dX0_willOf_14 : decode cX0_willOf 14 = .ok (.getfield 21, 3) := by decide +kernel
theorem dX0_willOf_17 : decode cX0_willOf 17 = .ok (.iload_n 1, 1) := by decide +kernel
theorem dX0_willOf_18 : decode cX0_willOf 18 = .ok (.iaload, 1) := by decide +kernel
theorem dX0_willOf_19 : decode cX0_willOf 19 = .ok (.aload_n 0, 1) := by decide +kernel
theorem dX0_willOf_20 : decode cX0_willOf 20 = .ok (.getfield 46, 3) := by decide +kernel
theorem dX0_willOf_23 : decode cX0_willOf 23 = .ok (.getfield 134, 3) := by decide +kernel
theorem dX0_willOf_26 : decode cX0_willOf 26 = .ok (.iload_n 2, 1) := by decide +kernel
theorem dX0_willOf_27 : decode cX0_willOf 27 = .ok (.iaload, 1) := by decide +kernel
theorem dX0_willOf_28 : decode cX0_willOf 28 = .ok (.invokestatic 135, 3) := by decide +kernel
theorem dX0_willOf_31 : decode cX0_willOf 31 = .ok (.ifCond .eq 26, 3) := by decide +kernel
theorem dX0_willOf_34 : decode cX0_willOf 34 = .ok (.aload_n 0, 1) := by decide +kernel
theorem dX0_willOf_35 : decode cX0_willOf 35 = .ok (.getfield 46, 3) := by decide +kernel
theorem dX0_willOf_38 : decode cX0_willOf 38 = .ok (.iload_n 2, 1) := by decide +kernel
theorem dX0_willOf_39 : decode cX0_willOf 39 = .ok (.aload_n 0, 1) := by decide +kernel
theorem dX0_willOf_40 : decode cX0_willOf 40 = .ok (.iload_n 1, 1) := by decide +kernel
theorem dX0_willOf_41 : decode cX0_willOf 41 = .ok (.invokevirtual 138, 3) := by decide +kernel
theorem dX0_willOf_44 : decode cX0_willOf 44 = .ok (.ifCond .eq 13, 3) := by decide +kernel
theorem dX0_willOf_47 : decode cX0_willOf 47 = .ok (.aload_n 0, 1) := by decide +kernel
theorem dX0_willOf_48 : decode cX0_willOf 48 = .ok (.getfield 46, 3) := by decide +kernel
theorem dX0_willOf_51 : decode cX0_willOf 51 = .ok (.getfield 142, 3) := by decide +kernel
theorem dX0_willOf_54 : decode cX0_willOf 54 = .ok (.iload_n 2, 1) := by decide +kernel
theorem dX0_willOf_55 : decode cX0_willOf 55 = .ok (.iaload, 1) := by decide +kernel
theorem dX0_willOf_56 : decode cX0_willOf 56 = .ok (.ireturn, 1) := by decide +kernel
theorem dX0_willOf_57 : decode cX0_willOf 57 = .ok (.iinc 2 1, 3) := by decide +kernel
theorem dX0_willOf_60 : decode cX0_willOf 60 = .ok (.goto (-58), 3) := by decide +kernel
theorem dX0_willOf_63 : decode cX0_willOf 63 = .ok (.iconst 0, 1) := by decide +kernel
theorem dX0_willOf_64 : decode cX0_willOf 64 = .ok (.ireturn, 1) := by decide +kernel
def b_willOf_57 (a1 : Int32) (a2 : Int32) (m : M) : Option ((Int32) ⊕ ((Unit) ⊕ ((Int32)))) :=
  lt (a2 + (1 : Int32)) (fun w1 : Int32 => some (.inl w1))
set_option maxRecDepth 20000 in
theorem t_b_willOf_57 {G : GG} {x : Cx} {K : ((Int32) ⊕ ((Unit) ⊕ ((Int32)))) → Option (Option Value × M)} (E : En G x cX0_willOf "WreckBoard$Board" 3 (some .int)) (hn : xn x = 3) (a1 : Int32) (a2 : Int32) (m : M) (hb : ∀ z : Int32, Sm G x 2 [(0, .ref (G.2.1 1)), (1, .int a1), (2, .int z)] [] m (some (.inl z)) K) (hx0 : ∀ z : Unit, Sm G x 63 [] [] m (some (.inr (.inl z))) K) (hx1 : ∀ z : Int32, Sm G x 47 [(0, .ref (G.2.1 1)), (2, .int z)] [] m (some (.inr (.inr z))) K) : Sm G x 57 [(0, .ref (G.2.1 1)), (1, .int a1), (2, .int a2)] [] m (b_willOf_57 a1 a2 m) K := by
  unfold b_willOf_57
  refine s_iincL (v := (1 : Int32)) 2 [1, 2, 0] (fun w1 => [(0, .ref (G.2.1 1)), (1, .int a1), (2, .int w1)]) E dX0_willOf_57 rfl (by decide) (by rw [hn]; decide) (fun _ => rfl) (fun w1 => ?_)
  refine s_goto 2 E dX0_willOf_60 (by decide) ?_
  exact hb w1
def b_willOf_2b (a1 : Int32) (a2 : Int32) (m : M) : Option ((Int32) ⊕ ((Unit) ⊕ ((Int32)))) :=
  (if (m 3 0) ≤ a2 then some (.inr (.inl ())) else Option.bind (rdI m 10 a1) (fun v1 => Option.bind (rdI m 26 a2) (fun v2 => Option.bind (k_isKindOrUnder v1 v2 m) (fun v3 => (if v3 = 0 then b_willOf_57 a1 a2 m else Option.bind (u_holds a2 a1 m) (fun v4 => (if v4 = 0 then b_willOf_57 a1 a2 m else some (.inr (.inr a2)))))))))
set_option maxRecDepth 20000 in
theorem t_b_willOf_2b {G : GG} {x : Cx} {K : ((Int32) ⊕ ((Unit) ⊕ ((Int32)))) → Option (Option Value × M)} (E : En G x cX0_willOf "WreckBoard$Board" 3 (some .int)) (hn : xn x = 3) (a1 : Int32) (a2 : Int32) (m : M) (hb : ∀ z : Int32, Sm G x 2 [(0, .ref (G.2.1 1)), (1, .int a1), (2, .int z)] [] m (some (.inl z)) K) (hx0 : ∀ z : Unit, Sm G x 63 [] [] m (some (.inr (.inl z))) K) (hx1 : ∀ z : Int32, Sm G x 47 [(0, .ref (G.2.1 1)), (2, .int z)] [] m (some (.inr (.inr z))) K) : Sm G x 2 [(0, .ref (G.2.1 1)), (1, .int a1), (2, .int a2)] [] m (b_willOf_2b a1 a2 m) K := by
  unfold b_willOf_2b
  refine s_iload_n 2 E dX0_willOf_2 rfl rfl ?_
  refine s_aload_n 0 E dX0_willOf_3 rfl rfl ?_
  refine s_getr (k := 16) (T := TX0) 1 E rfl rfl rfl inX0 (by decide) W258 dX0_willOf_4 ?_
  refine s_geti (k := 0) (T := TX7) 3 E rfl rfl rfl inX7 (by decide) W133 dX0_willOf_7 ?_
  refine s_icmp_ge 63 E dX0_willOf_10 (by decide) ?_ ?_
  · refine s_sub (lv' := []) [] rfl ?_
    exact hx0 ()
  · refine s_aload_n 0 E dX0_willOf_13 rfl rfl ?_
    refine s_getr (k := 9) (T := TX0) 1 E rfl rfl rfl inX0 (by decide) W242 dX0_willOf_14 ?_
    refine s_iload_n 1 E dX0_willOf_17 rfl rfl ?_
    refine s_iald E dX0_willOf_18 (fun v1 => ?_)
    refine s_aload_n 0 E dX0_willOf_19 rfl rfl ?_
    refine s_getr (k := 16) (T := TX0) 1 E rfl rfl rfl inX0 (by decide) W258 dX0_willOf_20 ?_
    refine s_getr (k := 1) (T := TX7) 3 E rfl rfl rfl inX7 (by decide) W136 dX0_willOf_23 ?_
    refine s_iload_n 2 E dX0_willOf_26 rfl rfl ?_
    refine s_iald E dX0_willOf_27 (fun v2 => ?_)
    refine s_bd (fun v3 hz => ?_)
    refine s_cSN (rest := []) (host := "WreckBoard") E (C_k_isKindOrUnder (xl x) G v1 v2 m hz) mdX11_isKindOrUnder (by decide) W516 W91 W517 rfl rfl (Nat.le_of_ble_eq_true rfl) ⟨by decide, by decide⟩ dX0_willOf_28 ?_
    refine s_if_eq 57 E dX0_willOf_31 (by decide) ?_ ?_
    · exact t_b_willOf_57 E hn a1 a2 m hb hx0 hx1
    · refine s_aload_n 0 E dX0_willOf_34 rfl rfl ?_
      refine s_getr (k := 16) (T := TX0) 1 E rfl rfl rfl inX0 (by decide) W258 dX0_willOf_35 ?_
      refine s_iload_n 2 E dX0_willOf_38 rfl rfl ?_
      refine s_aload_n 0 E dX0_willOf_39 rfl rfl ?_
      refine s_iload_n 1 E dX0_willOf_40 rfl rfl ?_
      refine s_bd (fun v4 hz => ?_)
      refine s_cV (rest := []) E (C_u_holds (xl x) G a2 a1 m hz) mdX7_holds W521 W522 W523 W93 W524 rfl rfl rfl rfl (Nat.le_of_ble_eq_true rfl) ⟨by decide, by decide⟩ dX0_willOf_41 ?_
      refine s_if_eq 57 E dX0_willOf_44 (by decide) ?_ ?_
      · exact t_b_willOf_57 E hn a1 a2 m hb hx0 hx1
      · refine s_sub (lv' := [(0, .ref (G.2.1 1)), (2, .int a2)]) [0, 2] rfl ?_
        exact hx1 a2
def b_willOf_2 (a1 : Int32) (a2 : Int32) (m : M) : Option (Int32) :=
  Option.bind (iter (fun z => b_willOf_2b a1 z m) FU a2) (fun r => (match r with
  | .inl r => some (0 : Int32)
  | .inr r => Option.bind (rdI m 27 r) (fun v5 => some v5)))
set_option maxRecDepth 20000 in
theorem t_b_willOf_2 {G : GG} {x : Cx} (E : En G x cX0_willOf "WreckBoard$Board" 3 (some .int)) (hn : xn x = 3) (a1 : Int32) (a2 : Int32) (m : M) : Sm G x 2 [(0, .ref (G.2.1 1)), (1, .int a1), (2, .int a2)] [] m (b_willOf_2 a1 a2 m) (KRi m) := by
  unfold b_willOf_2
  refine s_loop (fun z => [(0, .ref (G.2.1 1)), (1, .int a1), (2, .int z)]) (fun z => m) (fun K2 hb2 hr2 z => ?_) FU a2
  refine t_b_willOf_2b (K := K2) E hn a1 z m hb2 (fun r => s_out (hr2 (.inl r)) ?_) (fun r => s_out (hr2 (.inr r)) ?_)
  · refine s_iconst (v := (0 : Int32)) E dX0_willOf_63 (by decide) ?_
    exact s_iret E rfl dX0_willOf_64
  · refine s_aload_n 0 E dX0_willOf_47 rfl rfl ?_
    refine s_getr (k := 16) (T := TX0) 1 E rfl rfl rfl inX0 (by decide) W258 dX0_willOf_48 ?_
    refine s_getr (k := 2) (T := TX7) 3 E rfl rfl rfl inX7 (by decide) W138 dX0_willOf_51 ?_
    refine s_iload_n 1 E dX0_willOf_54 rfl rfl ?_
    refine s_iald E dX0_willOf_55 (fun v5 => ?_)
    exact s_iret E rfl dX0_willOf_56
def b_willOf (a1 : Int32) (m : M) : Option (Int32) :=
  b_willOf_2 a1 (0 : Int32) m
set_option maxRecDepth 20000 in
theorem t_b_willOf {G : GG} {x : Cx} (E : En G x cX0_willOf "WreckBoard$Board" 3 (some .int)) (hn : xn x = 3) (a1 : Int32) (m : M) : Sm G x 0 [(0, .ref (G.2.1 1)), (1, .int a1)] [] m (b_willOf a1 m) (KRi m) := by
  unfold b_willOf
  refine s_iconst (v := (0 : Int32)) E dX0_willOf_0 (by decide) ?_
  refine s_istore_n (lv' := [(0, .ref (G.2.1 1)), (1, .int a1), (2, .int (0 : Int32))]) [1, 2, 0] E dX0_willOf_1 rfl (by rw [hn]; decide) rfl ?_
  exact t_b_willOf_2 E hn a1 (0 : Int32) m
set_option maxRecDepth 20000 in
theorem C_b_willOf (l : Launch) (G : GG) (a1 : Int32) (m : M) {z : Int32} (hz : b_willOf a1 m = some z) : Ct l G yX0_willOf cX0_willOf 3 (some .int) 3 [.ref (G.2.1 1), .int a1] m (some (.int z)) m :=
  ct_of (K := (KRi m)) (by decide) (Nat.le_of_ble_eq_true rfl) (congrArg (fun q => Option.bind q _) hz) (fun x hl hn E => (t_b_willOf E hn a1 m))
theorem mdX0_willOf : mdq yX0_willOf 1 := ⟨by decide, by decide, by decide +kernel⟩
theorem dX0_isCarried_0 : decode cX0_isCarried 0 = .ok (.iload_n 0, 1) := by decide +kernel
theorem dX0_isCarried_1 : decode cX0_isCarried 1 = .ok (.ifCond .ne 7, 3) := by decide +kernel
theorem dX0_isCarried_4 : decode cX0_isCarried 4 = .ok (.iload_n 1, 1) := by decide +kernel
theorem dX0_isCarried_5 : decode cX0_isCarried 5 = .ok (.ifCond .gt 12, 3) := by decide +kernel
theorem dX0_isCarried_8 : decode cX0_isCarried 8 = .ok (.iload_n 0, 1) := by decide +kernel
theorem dX0_isCarried_9 : decode cX0_isCarried 9 = .ok (.iconst 2, 1) := by decide +kernel
theorem dX0_isCarried_10 : decode cX0_isCarried 10 = .ok (.if_icmp .ne 11, 3) := by decide +kernel
theorem dX0_isCarried_13 : decode cX0_isCarried 13 = .ok (.iload_n 1, 1) := by decide +kernel
theorem dX0_isCarried_14 : decode cX0_isCarried 14 = .ok (.ifCond .ge 7, 3) := by decide +kernel
theorem dX0_isCarried_17 : decode cX0_isCarried 17 = .ok (.iconst 1, 1) := by decide +kernel
theorem dX0_isCarried_18 : decode cX0_isCarried 18 = .ok (.goto 4, 3) := by decide +kernel
theorem dX0_isCarried_21 : decode cX0_isCarried 21 = .ok (.iconst 0, 1) := by decide +kernel
theorem dX0_isCarried_22 : decode cX0_isCarried 22 = .ok (.ireturn, 1) := by decide +kernel
def b_isCarried_8 (a0 : Int32) (a1 : Int32) (m : M) : Option (Int32) :=
  (if a0 = (2 : Int32) then (if 0 ≤ a1 then some (0 : Int32) else some (1 : Int32)) else some (0 : Int32))
set_option maxRecDepth 20000 in
theorem t_b_isCarried_8 {G : GG} {x : Cx} (E : En G x cX0_isCarried "WreckBoard$Board" 1 (some .boolean)) (hn : xn x = 2) (a0 : Int32) (a1 : Int32) (m : M) : Sm G x 8 [(0, .int a0), (1, .int a1)] [] m (b_isCarried_8 a0 a1 m) (KRi m) := by
  unfold b_isCarried_8
  refine s_iload_n 0 E dX0_isCarried_8 rfl rfl ?_
  refine s_iconst (v := (2 : Int32)) E dX0_isCarried_9 (by decide) ?_
  refine s_icmp_ne 21 E dX0_isCarried_10 (by decide) ?_ ?_
  · refine s_iconst (v := (0 : Int32)) E dX0_isCarried_21 (by decide) ?_
    exact s_zret E (by decide) rfl dX0_isCarried_22
  · refine s_iload_n 1 E dX0_isCarried_13 rfl rfl ?_
    refine s_if_ge 21 E dX0_isCarried_14 (by decide) ?_ ?_
    · refine s_iconst (v := (0 : Int32)) E dX0_isCarried_21 (by decide) ?_
      exact s_zret E (by decide) rfl dX0_isCarried_22
    · refine s_iconst (v := (1 : Int32)) E dX0_isCarried_17 (by decide) ?_
      refine s_goto 22 E dX0_isCarried_18 (by decide) ?_
      exact s_zret E (by decide) rfl dX0_isCarried_22
def b_isCarried (a0 : Int32) (a1 : Int32) (m : M) : Option (Int32) :=
  (if a0 = 0 then (if 0 < a1 then some (1 : Int32) else b_isCarried_8 a0 a1 m) else b_isCarried_8 a0 a1 m)
set_option maxRecDepth 20000 in
theorem t_b_isCarried {G : GG} {x : Cx} (E : En G x cX0_isCarried "WreckBoard$Board" 1 (some .boolean)) (hn : xn x = 2) (a0 : Int32) (a1 : Int32) (m : M) : Sm G x 0 [(0, .int a0), (1, .int a1)] [] m (b_isCarried a0 a1 m) (KRi m) := by
  unfold b_isCarried
  refine s_iload_n 0 E dX0_isCarried_0 rfl rfl ?_
  refine s_if_ne 8 E dX0_isCarried_1 (by decide) ?_ ?_
  · exact t_b_isCarried_8 E hn a0 a1 m
  · refine s_iload_n 1 E dX0_isCarried_4 rfl rfl ?_
    refine s_if_gt 17 E dX0_isCarried_5 (by decide) ?_ ?_
    · refine s_iconst (v := (1 : Int32)) E dX0_isCarried_17 (by decide) ?_
      refine s_goto 22 E dX0_isCarried_18 (by decide) ?_
      exact s_zret E (by decide) rfl dX0_isCarried_22
    · exact t_b_isCarried_8 E hn a0 a1 m
set_option maxRecDepth 20000 in
theorem C_b_isCarried (l : Launch) (G : GG) (a0 : Int32) (a1 : Int32) (m : M) {z : Int32} (hz : b_isCarried a0 a1 m = some z) : Ct l G yX0_isCarried cX0_isCarried 2 (some .boolean) 1 [.int a0, .int a1] m (some (.int z)) m :=
  ct_of (K := (KRi m)) (by decide) (Nat.le_of_ble_eq_true rfl) (congrArg (fun q => Option.bind q _) hz) (fun x hl hn E => (t_b_isCarried E hn a0 a1 m))
theorem mdX0_isCarried : mdq yX0_isCarried 2 := ⟨by decide, by decide, by decide +kernel⟩
theorem dX0_wouldCarry_0 : decode cX0_wouldCarry 0 = .ok (.aload_n 0, 1) := by decide +kernel
theorem dX0_wouldCarry_1 : decode cX0_wouldCarry 1 = .ok (.iload_n 1, 1) := by decide +kernel
theorem dX0_wouldCarry_2 : decode cX0_wouldCarry 2 = .ok (.invokevirtual 102, 3) := by decide +kernel
theorem dX0_wouldCarry_5 : decode cX0_wouldCarry 5 = .ok (.ifCond .ne 19, 3) := by decide +kernel
theorem dX0_wouldCarry_8 : decode cX0_wouldCarry 8 = .ok (.aload_n 0, 1) := by decide +kernel
theorem dX0_wouldCarry_9 : decode cX0_wouldCarry 9 = .ok (.iload_n 1, 1) := by decide +kernel
theorem dX0_wouldCarry_10 : decode cX0_wouldCarry 10 = .ok (.invokevirtual 145, 3) := by decide +kernel
theorem dX0_wouldCarry_13 : decode cX0_wouldCarry 13 = .ok (.iload_n 2, 1) := by decide +kernel
theorem dX0_wouldCarry_14 : decode cX0_wouldCarry 14 = .ok (.invokestatic 148, 3) := by decide +kernel
theorem dX0_wouldCarry_17 : decode cX0_wouldCarry 17 = .ok (.ifCond .eq 7, 3) := by decide +kernel
theorem dX0_wouldCarry_20 : decode cX0_wouldCarry 20 = .ok (.iconst 1, 1) := by decide +kernel
theorem dX0_wouldCarry_21 : decode cX0_wouldCarry 21 = .ok (.goto 4, 3) := by decide +kernel
theorem dX0_wouldCarry_24 : decode cX0_wouldCarry 24 = .ok (.iconst 0, 1) := by decide +kernel
theorem dX0_wouldCarry_25 : decode cX0_wouldCarry 25 = .ok (.ireturn, 1) := by decide +kernel
def b_wouldCarry (a1 : Int32) (a2 : Int32) (m : M) : Option (Int32) :=
  Option.bind (b_isHeard a1 m) (fun v1 => (if v1 = 0 then Option.bind (b_willOf a1 m) (fun v2 => Option.bind (b_isCarried v2 a2 m) (fun v3 => (if v3 = 0 then some (0 : Int32) else some (1 : Int32)))) else some (0 : Int32)))
set_option maxRecDepth 20000 in
theorem t_b_wouldCarry {G : GG} {x : Cx} (E : En G x cX0_wouldCarry "WreckBoard$Board" 4 (some .boolean)) (hn : xn x = 3) (a1 : Int32) (a2 : Int32) (m : M) : Sm G x 0 [(0, .ref (G.2.1 1)), (1, .int a1), (2, .int a2)] [] m (b_wouldCarry a1 a2 m) (KRi m) := by
  unfold b_wouldCarry
  refine s_aload_n 0 E dX0_wouldCarry_0 rfl rfl ?_
  refine s_iload_n 1 E dX0_wouldCarry_1 rfl rfl ?_
  refine s_bd (fun v1 hz => ?_)
  refine s_cV (rest := []) E (C_b_isHeard (xl x) G a1 m hz) mdX0_isHeard W510 W421 W422 W92 W423 rfl rfl rfl rfl (Nat.le_of_ble_eq_true rfl) ⟨by decide, by decide⟩ dX0_wouldCarry_2 ?_
  refine s_if_ne 24 E dX0_wouldCarry_5 (by decide) ?_ ?_
  · refine s_iconst (v := (0 : Int32)) E dX0_wouldCarry_24 (by decide) ?_
    exact s_zret E (by decide) rfl dX0_wouldCarry_25
  · refine s_aload_n 0 E dX0_wouldCarry_8 rfl rfl ?_
    refine s_iload_n 1 E dX0_wouldCarry_9 rfl rfl ?_
    refine s_bd (fun v2 hz => ?_)
    refine s_cV (rest := []) E (C_b_willOf (xl x) G a1 m hz) mdX0_willOf W511 W512 W513 W92 W514 rfl rfl rfl rfl (Nat.le_of_ble_eq_true rfl) ⟨by decide, by decide⟩ dX0_wouldCarry_10 ?_
    refine s_iload_n 2 E dX0_wouldCarry_13 rfl rfl ?_
    refine s_bd (fun v3 hz => ?_)
    refine s_cS (rest := []) E (C_b_isCarried (xl x) G v2 a2 m hz) mdX0_isCarried W531 W532 W92 W533 rfl rfl (Nat.le_of_ble_eq_true rfl) ⟨by decide, by decide⟩ dX0_wouldCarry_14 ?_
    refine s_if_eq 24 E dX0_wouldCarry_17 (by decide) ?_ ?_
    · refine s_iconst (v := (0 : Int32)) E dX0_wouldCarry_24 (by decide) ?_
      exact s_zret E (by decide) rfl dX0_wouldCarry_25
    · refine s_iconst (v := (1 : Int32)) E dX0_wouldCarry_20 (by decide) ?_
      refine s_goto 25 E dX0_wouldCarry_21 (by decide) ?_
      exact s_zret E (by decide) rfl dX0_wouldCarry_25
set_option maxRecDepth 20000 in
theorem C_b_wouldCarry (l : Launch) (G : GG) (a1 : Int32) (a2 : Int32) (m : M) {z : Int32} (hz : b_wouldCarry a1 a2 m = some z) : Ct l G yX0_wouldCarry cX0_wouldCarry 3 (some .boolean) 4 [.ref (G.2.1 1), .int a1, .int a2] m (some (.int z)) m :=
  ct_of (K := (KRi m)) (by decide) (Nat.le_of_ble_eq_true rfl) (congrArg (fun q => Option.bind q _) hz) (fun x hl hn E => (t_b_wouldCarry E hn a1 a2 m))
theorem mdX0_wouldCarry : mdq yX0_wouldCarry 2 := ⟨by decide, by decide, by decide +kernel⟩
theorem dX11_memberOf_0 : decode cX11_memberOf 0 = .ok (.aload_n 0, 1) := by decide +kernel
theorem dX11_memberOf_1 : decode cX11_memberOf 1 = .ok (.getfield 12, 3) := by decide +kernel
theorem dX11_memberOf_4 : decode cX11_memberOf 4 = .ok (.iload_n 1, 1) := by decide +kernel
theorem dX11_memberOf_5 : decode cX11_memberOf 5 = .ok (.invokevirtual 73, 3) := by decide +kernel
theorem dX11_memberOf_8 : decode cX11_memberOf 8 = .ok (.ifCond .ne 5, 3) := by decide +kernel
theorem dX11_memberOf_11 : decode cX11_memberOf 11 = .ok (.iconst (-1), 1) := by decide +kernel
theorem dX11_memberOf_12 : decode cX11_memberOf 12 = .ok (.ireturn, 1) := by decide +kernel
theorem dX11_memberOf_13 : decode cX11_memberOf 13 = .ok (.iload_n 2, 1) := by decide +kernel
theorem dX11_memberOf_14 : decode cX11_memberOf 14 = .ok (.tableswitch 161 0 8 #[50, 60, 70, 80, 90, 107, 119, 128, 152], 50) := by decide +kernel
theorem dX11_memberOf_64 : decode cX11_memberOf 64 = .ok (.aload_n 0, 1) := by decide +kernel
theorem dX11_memberOf_65 : decode cX11_memberOf 65 = .ok (.getfield 12, 3) := by decide +kernel
theorem dX11_memberOf_68 : decode cX11_memberOf 68 = .ok (.getfield 77, 3) := by decide +kernel
theorem dX11_memberOf_71 : decode cX11_memberOf 71 = .ok (.iload_n 1, 1) := by decide +kernel
theorem dX11_memberOf_72 : decode cX11_memberOf 72 = .ok (.iaload, 1) := by decide +kernel
theorem dX11_memberOf_73 : decode cX11_memberOf 73 = .ok (.ireturn, 1) := by decide +kernel
theorem dX11_memberOf_74 : decode cX11_memberOf 74 = .ok (.aload_n 0, 1) := by decide +kernel
theorem dX11_memberOf_75 : decode cX11_memberOf 75 = .ok (.getfield 12, 3) := by decide +kernel
theorem dX11_memberOf_78 : decode cX11_memberOf 78 = .ok (.getfield 80, 3) := by decide +kernel
theorem dX11_memberOf_81 : decode cX11_memberOf 81 = .ok (.iload_n 1, 1) := by decide +kernel
theorem dX11_memberOf_82 : decode cX11_memberOf 82 = .ok (.iaload, 1) := by decide +kernel
theorem dX11_memberOf_83 : decode cX11_memberOf 83 = .ok (.ireturn, 1) := by decide +kernel
theorem dX11_memberOf_84 : decode cX11_memberOf 84 = .ok (.aload_n 0, 1) := by decide +kernel
theorem dX11_memberOf_85 : decode cX11_memberOf 85 = .ok (.getfield 12, 3) := by decide +kernel
theorem dX11_memberOf_88 : decode cX11_memberOf 88 = .ok (.getfield 83, 3) := by decide +kernel
theorem dX11_memberOf_91 : decode cX11_memberOf 91 = .ok (.iload_n 1, 1) := by decide +kernel
theorem dX11_memberOf_92 : decode cX11_memberOf 92 = .ok (.iaload, 1) := by decide +kernel
theorem dX11_memberOf_93 : decode cX11_memberOf 93 = .ok (.ireturn, 1) := by decide +kernel
theorem dX11_memberOf_94 : decode cX11_memberOf 94 = .ok (.aload_n 0, 1) := by decide +kernel
theorem dX11_memberOf_95 : decode cX11_memberOf 95 = .ok (.getfield 12, 3) := by decide +kernel
theorem dX11_memberOf_98 : decode cX11_memberOf 98 = .ok (.getfield 86, 3) := by decide +kernel
theorem dX11_memberOf_101 : decode cX11_memberOf 101 = .ok (.iload_n 1, 1) := by decide +kernel
theorem dX11_memberOf_102 : decode cX11_memberOf 102 = .ok (.iaload, 1) := by decide +kernel
theorem dX11_memberOf_103 : decode cX11_memberOf 103 = .ok (.ireturn, 1) := by decide +kernel
theorem dX11_memberOf_104 : decode cX11_memberOf 104 = .ok (.aload_n 0, 1) := by decide +kernel
theorem dX11_memberOf_105 : decode cX11_memberOf 105 = .ok (.getfield 12, 3) := by decide +kernel
theorem dX11_memberOf_108 : decode cX11_memberOf 108 = .ok (.iload_n 1, 1) := by decide +kernel
theorem dX11_memberOf_109 : decode cX11_memberOf 109 = .ok (.invokevirtual 89, 3) := by decide +kernel
theorem dX11_memberOf_112 : decode cX11_memberOf 112 = .ok (.ifCond .eq 7, 3) := by decide +kernel
theorem dX11_memberOf_115 : decode cX11_memberOf 115 = .ok (.iconst 1, 1) := by decide +kernel
theorem dX11_memberOf_116 : decode cX11_memberOf 116 = .ok (.goto 4, 3) := by decide +kernel
theorem dX11_memberOf_119 : decode cX11_memberOf 119 = .ok (.iconst 0, 1) := by decide +kernel
theorem dX11_memberOf_120 : decode cX11_memberOf 120 = .ok (.ireturn, 1) := by decide +kernel
theorem dX11_memberOf_121 : decode cX11_memberOf 121 = .ok (.aload_n 0, 1) := by decide +kernel
theorem dX11_memberOf_122 : decode cX11_memberOf 122 = .ok (.getfield 12, 3) := by decide +kernel
theorem dX11_memberOf_125 : decode cX11_memberOf 125 = .ok (.iload_n 1, 1) := by decide +kernel
theorem dX11_memberOf_126 : decode cX11_memberOf 126 = .ok (.invokevirtual 92, 3) := by decide +kernel
theorem dX11_memberOf_129 : decode cX11_memberOf 129 = .ok (.invokestatic 96, 3) := by decide +kernel
theorem dX11_memberOf_132 : decode cX11_memberOf 132 = .ok (.ireturn, 1) := by decide +kernel
theorem dX11_memberOf_133 : decode cX11_memberOf 133 = .ok (.aload_n 0, 1) := by decide +kernel
theorem dX11_memberOf_134 : decode cX11_memberOf 134 = .ok (.getfield 12, 3) := by decide +kernel
theorem dX11_memberOf_137 : decode cX11_memberOf 137 = .ok (.iload_n 1, 1) := by decide +kernel
theorem dX11_memberOf_138 : decode cX11_memberOf 138 = .ok (.invokevirtual 99, 3) := by decide +kernel
theorem dX11_memberOf_141 : decode cX11_memberOf 141 = .ok (.ireturn, 1) := by decide +kernel
theorem dX11_memberOf_142 : decode cX11_memberOf 142 = .ok (.aload_n 0, 1) := by decide +kernel
theorem dX11_memberOf_143 : decode cX11_memberOf 143 = .ok (.getfield 12, 3) := by decide +kernel
theorem dX11_memberOf_146 : decode cX11_memberOf 146 = .ok (.iload_n 1, 1) := by decide +kernel
theorem dX11_memberOf_147 : decode cX11_memberOf 147 = .ok (.aload_n 0, 1) := by decide +kernel
theorem dX11_memberOf_148 : decode cX11_memberOf 148 = .ok (.getfield 12, 3) := by decide +kernel
theorem dX11_memberOf_151 : decode cX11_memberOf 151 = .ok (.invokevirtual 102, 3) := by decide +kernel
theorem dX11_memberOf_154 : decode cX11_memberOf 154 = .ok (.invokevirtual 106, 3) := by decide +kernel
theorem dX11_memberOf_157 : decode cX11_memberOf 157 = .ok (.ifCond .eq 7, 3) := by decide +kernel
theorem dX11_memberOf_160 : decode cX11_memberOf 160 = .ok (.iconst 1, 1) := by decide +kernel
theorem dX11_memberOf_161 : decode cX11_memberOf 161 = .ok (.goto 4, 3) := by decide +kernel
theorem dX11_memberOf_164 : decode cX11_memberOf 164 = .ok (.iconst 0, 1) := by decide +kernel
theorem dX11_memberOf_165 : decode cX11_memberOf 165 = .ok (.ireturn, 1) := by decide +kernel
theorem dX11_memberOf_166 : decode cX11_memberOf 166 = .ok (.aload_n 0, 1) := by decide +kernel
theorem dX11_memberOf_167 : decode cX11_memberOf 167 = .ok (.getfield 12, 3) := by decide +kernel
theorem dX11_memberOf_170 : decode cX11_memberOf 170 = .ok (.iload_n 1, 1) := by decide +kernel
theorem dX11_memberOf_171 : decode cX11_memberOf 171 = .ok (.invokevirtual 110, 3) := by decide +kernel
theorem dX11_memberOf_174 : decode cX11_memberOf 174 = .ok (.ireturn, 1) := by decide +kernel
theorem dX11_memberOf_175 : decode cX11_memberOf 175 = .ok (.iconst (-1), 1) := by decide +kernel
theorem dX11_memberOf_176 : decode cX11_memberOf 176 = .ok (.ireturn, 1) := by decide +kernel
def k_memberOf (a1 : Int32) (a2 : Int32) (m : M) : Option (Int32) :=
  Option.bind (b_isMember a1 m) (fun v1 => (if v1 = 0 then some (-1 : Int32) else (if a2 = (0 : Int32) then Option.bind (rdI m 10 a1) (fun v2 => some v2) else (if a2 = (1 : Int32) then Option.bind (rdI m 11 a1) (fun v3 => some v3) else (if a2 = (2 : Int32) then Option.bind (rdI m 12 a1) (fun v4 => some v4) else (if a2 = (3 : Int32) then Option.bind (rdI m 13 a1) (fun v5 => some v5) else (if a2 = (4 : Int32) then Option.bind (b_isHeard a1 m) (fun v6 => (if v6 = 0 then some (0 : Int32) else some (1 : Int32))) else (if a2 = (5 : Int32) then Option.bind (b_leanOf a1 m) (fun v7 => Option.bind (k_side v7 m) (fun v8 => some v8)) else (if a2 = (6 : Int32) then Option.bind (b_weightOf a1 m) (fun v9 => some v9) else (if a2 = (7 : Int32) then Option.bind (b_count m) (fun v10 => Option.bind (b_wouldCarry a1 v10 m) (fun v11 => (if v11 = 0 then some (0 : Int32) else some (1 : Int32)))) else (if a2 = (8 : Int32) then Option.bind (b_willOf a1 m) (fun v12 => some v12) else some (-1 : Int32))))))))))))
set_option maxRecDepth 20000 in
theorem t_k_memberOf {G : GG} {x : Cx} (E : En G x cX11_memberOf "WreckBoard" 6 (some .int)) (hn : xn x = 3) (a1 : Int32) (a2 : Int32) (m : M) : Sm G x 0 [(0, .ref (G.2.1 0)), (1, .int a1), (2, .int a2)] [] m (k_memberOf a1 a2 m) (KRi m) := by
  unfold k_memberOf
  refine s_aload_n 0 E dX11_memberOf_0 rfl rfl ?_
  refine s_getr (k := 0) (T := TX11) 0 E rfl rfl rfl inX11 (by decide) W360 dX11_memberOf_1 ?_
  refine s_iload_n 1 E dX11_memberOf_4 rfl rfl ?_
  refine s_bd (fun v1 hz => ?_)
  refine s_cV (rest := []) E (C_b_isMember (xl x) G a1 m hz) mdX0_isMember W415 W416 W417 W92 W418 rfl rfl rfl rfl (Nat.le_of_ble_eq_true rfl) ⟨by decide, by decide⟩ dX11_memberOf_5 ?_
  refine s_if_ne 13 E dX11_memberOf_8 (by decide) ?_ ?_
  · refine s_iload_n 2 E dX11_memberOf_13 rfl rfl ?_
    refine s_case (fun h14_0 => ?_) (fun h14_0 => ?_)
    · refine s_tabIn 64 E dX11_memberOf_14 h14_0 (by decide) (by decide) rfl (by decide) ?_
      refine s_aload_n 0 E dX11_memberOf_64 rfl rfl ?_
      refine s_getr (k := 0) (T := TX11) 0 E rfl rfl rfl inX11 (by decide) W360 dX11_memberOf_65 ?_
      refine s_getr (k := 9) (T := TX0) 1 E rfl rfl rfl inX0 (by decide) W243 dX11_memberOf_68 ?_
      refine s_iload_n 1 E dX11_memberOf_71 rfl rfl ?_
      refine s_iald E dX11_memberOf_72 (fun v2 => ?_)
      exact s_iret E rfl dX11_memberOf_73
    · refine s_case (fun h14_1 => ?_) (fun h14_1 => ?_)
      · refine s_tabIn 74 E dX11_memberOf_14 h14_1 (by decide) (by decide) rfl (by decide) ?_
        refine s_aload_n 0 E dX11_memberOf_74 rfl rfl ?_
        refine s_getr (k := 0) (T := TX11) 0 E rfl rfl rfl inX11 (by decide) W360 dX11_memberOf_75 ?_
        refine s_getr (k := 10) (T := TX0) 1 E rfl rfl rfl inX0 (by decide) W245 dX11_memberOf_78 ?_
        refine s_iload_n 1 E dX11_memberOf_81 rfl rfl ?_
        refine s_iald E dX11_memberOf_82 (fun v3 => ?_)
        exact s_iret E rfl dX11_memberOf_83
      · refine s_case (fun h14_2 => ?_) (fun h14_2 => ?_)
        · refine s_tabIn 84 E dX11_memberOf_14 h14_2 (by decide) (by decide) rfl (by decide) ?_
          refine s_aload_n 0 E dX11_memberOf_84 rfl rfl ?_
          refine s_getr (k := 0) (T := TX11) 0 E rfl rfl rfl inX11 (by decide) W360 dX11_memberOf_85 ?_
          refine s_getr (k := 11) (T := TX0) 1 E rfl rfl rfl inX0 (by decide) W248 dX11_memberOf_88 ?_
          refine s_iload_n 1 E dX11_memberOf_91 rfl rfl ?_
          refine s_iald E dX11_memberOf_92 (fun v4 => ?_)
          exact s_iret E rfl dX11_memberOf_93
        · refine s_case (fun h14_3 => ?_) (fun h14_3 => ?_)
          · refine s_tabIn 94 E dX11_memberOf_14 h14_3 (by decide) (by decide) rfl (by decide) ?_
            refine s_aload_n 0 E dX11_memberOf_94 rfl rfl ?_
            refine s_getr (k := 0) (T := TX11) 0 E rfl rfl rfl inX11 (by decide) W360 dX11_memberOf_95 ?_
            refine s_getr (k := 12) (T := TX0) 1 E rfl rfl rfl inX0 (by decide) W251 dX11_memberOf_98 ?_
            refine s_iload_n 1 E dX11_memberOf_101 rfl rfl ?_
            refine s_iald E dX11_memberOf_102 (fun v5 => ?_)
            exact s_iret E rfl dX11_memberOf_103
          · refine s_case (fun h14_4 => ?_) (fun h14_4 => ?_)
            · refine s_tabIn 104 E dX11_memberOf_14 h14_4 (by decide) (by decide) rfl (by decide) ?_
              refine s_aload_n 0 E dX11_memberOf_104 rfl rfl ?_
              refine s_getr (k := 0) (T := TX11) 0 E rfl rfl rfl inX11 (by decide) W360 dX11_memberOf_105 ?_
              refine s_iload_n 1 E dX11_memberOf_108 rfl rfl ?_
              refine s_bd (fun v6 hz => ?_)
              refine s_cV (rest := []) E (C_b_isHeard (xl x) G a1 m hz) mdX0_isHeard W420 W421 W422 W92 W423 rfl rfl rfl rfl (Nat.le_of_ble_eq_true rfl) ⟨by decide, by decide⟩ dX11_memberOf_109 ?_
              refine s_if_eq 119 E dX11_memberOf_112 (by decide) ?_ ?_
              · refine s_iconst (v := (0 : Int32)) E dX11_memberOf_119 (by decide) ?_
                exact s_iret E rfl dX11_memberOf_120
              · refine s_iconst (v := (1 : Int32)) E dX11_memberOf_115 (by decide) ?_
                refine s_goto 120 E dX11_memberOf_116 (by decide) ?_
                exact s_iret E rfl dX11_memberOf_120
            · refine s_case (fun h14_5 => ?_) (fun h14_5 => ?_)
              · refine s_tabIn 121 E dX11_memberOf_14 h14_5 (by decide) (by decide) rfl (by decide) ?_
                refine s_aload_n 0 E dX11_memberOf_121 rfl rfl ?_
                refine s_getr (k := 0) (T := TX11) 0 E rfl rfl rfl inX11 (by decide) W360 dX11_memberOf_122 ?_
                refine s_iload_n 1 E dX11_memberOf_125 rfl rfl ?_
                refine s_bd (fun v7 hz => ?_)
                refine s_cV (rest := []) E (C_b_leanOf (xl x) G a1 m hz) mdX0_leanOf W427 W428 W429 W92 W430 rfl rfl rfl rfl (Nat.le_of_ble_eq_true rfl) ⟨by decide, by decide⟩ dX11_memberOf_126 ?_
                refine s_bd (fun v8 hz => ?_)
                refine s_cS (rest := []) E (C_k_side (xl x) G v7 m hz) mdX11_side W461 W462 W91 W463 rfl rfl (Nat.le_of_ble_eq_true rfl) ⟨by decide, by decide⟩ dX11_memberOf_129 ?_
                exact s_iret E rfl dX11_memberOf_132
              · refine s_case (fun h14_6 => ?_) (fun h14_6 => ?_)
                · refine s_tabIn 133 E dX11_memberOf_14 h14_6 (by decide) (by decide) rfl (by decide) ?_
                  refine s_aload_n 0 E dX11_memberOf_133 rfl rfl ?_
                  refine s_getr (k := 0) (T := TX11) 0 E rfl rfl rfl inX11 (by decide) W360 dX11_memberOf_134 ?_
                  refine s_iload_n 1 E dX11_memberOf_137 rfl rfl ?_
                  refine s_bd (fun v9 hz => ?_)
                  refine s_cV (rest := []) E (C_b_weightOf (xl x) G a1 m hz) mdX0_weightOf W464 W465 W466 W92 W467 rfl rfl rfl rfl (Nat.le_of_ble_eq_true rfl) ⟨by decide, by decide⟩ dX11_memberOf_138 ?_
                  exact s_iret E rfl dX11_memberOf_141
                · refine s_case (fun h14_7 => ?_) (fun h14_7 => ?_)
                  · refine s_tabIn 142 E dX11_memberOf_14 h14_7 (by decide) (by decide) rfl (by decide) ?_
                    refine s_aload_n 0 E dX11_memberOf_142 rfl rfl ?_
                    refine s_getr (k := 0) (T := TX11) 0 E rfl rfl rfl inX11 (by decide) W360 dX11_memberOf_143 ?_
                    refine s_iload_n 1 E dX11_memberOf_146 rfl rfl ?_
                    refine s_aload_n 0 E dX11_memberOf_147 rfl rfl ?_
                    refine s_getr (k := 0) (T := TX11) 0 E rfl rfl rfl inX11 (by decide) W360 dX11_memberOf_148 ?_
                    refine s_bd (fun v10 hz => ?_)
                    refine s_cV (rest := [.int a1, .ref (G.2.1 1)]) E (C_b_count (xl x) G  m hz) mdX0_count W499 W500 W501 W92 W502 rfl rfl rfl rfl (Nat.le_of_ble_eq_true rfl) ⟨by decide, by decide⟩ dX11_memberOf_151 ?_
                    refine s_bd (fun v11 hz => ?_)
                    refine s_cV (rest := []) E (C_b_wouldCarry (xl x) G a1 v10 m hz) mdX0_wouldCarry W506 W507 W508 W92 W509 rfl rfl rfl rfl (Nat.le_of_ble_eq_true rfl) ⟨by decide, by decide⟩ dX11_memberOf_154 ?_
                    refine s_if_eq 164 E dX11_memberOf_157 (by decide) ?_ ?_
                    · refine s_iconst (v := (0 : Int32)) E dX11_memberOf_164 (by decide) ?_
                      exact s_iret E rfl dX11_memberOf_165
                    · refine s_iconst (v := (1 : Int32)) E dX11_memberOf_160 (by decide) ?_
                      refine s_goto 165 E dX11_memberOf_161 (by decide) ?_
                      exact s_iret E rfl dX11_memberOf_165
                  · refine s_case (fun h14_8 => ?_) (fun h14_8 => ?_)
                    · refine s_tabIn 166 E dX11_memberOf_14 h14_8 (by decide) (by decide) rfl (by decide) ?_
                      refine s_aload_n 0 E dX11_memberOf_166 rfl rfl ?_
                      refine s_getr (k := 0) (T := TX11) 0 E rfl rfl rfl inX11 (by decide) W360 dX11_memberOf_167 ?_
                      refine s_iload_n 1 E dX11_memberOf_170 rfl rfl ?_
                      refine s_bd (fun v12 hz => ?_)
                      refine s_cV (rest := []) E (C_b_willOf (xl x) G a1 m hz) mdX0_willOf W534 W512 W513 W92 W514 rfl rfl rfl rfl (Nat.le_of_ble_eq_true rfl) ⟨by decide, by decide⟩ dX11_memberOf_171 ?_
                      exact s_iret E rfl dX11_memberOf_174
                    · refine s_tabOut 175 E dX11_memberOf_14 (by have e0 := ne_toIntK h14_0 (k := 0) (by decide); have e1 := ne_toIntK h14_1 (k := 1) (by decide); have e2 := ne_toIntK h14_2 (k := 2) (by decide); have e3 := ne_toIntK h14_3 (k := 3) (by decide); have e4 := ne_toIntK h14_4 (k := 4) (by decide); have e5 := ne_toIntK h14_5 (k := 5) (by decide); have e6 := ne_toIntK h14_6 (k := 6) (by decide); have e7 := ne_toIntK h14_7 (k := 7) (by decide); have e8 := ne_toIntK h14_8 (k := 8) (by decide); omega) (by decide) ?_
                      refine s_iconst (v := (-1 : Int32)) E dX11_memberOf_175 (by decide) ?_
                      exact s_iret E rfl dX11_memberOf_176
  · refine s_iconst (v := (-1 : Int32)) E dX11_memberOf_11 (by decide) ?_
    exact s_iret E rfl dX11_memberOf_12
set_option maxRecDepth 20000 in
theorem C_k_memberOf (l : Launch) (G : GG) (a1 : Int32) (a2 : Int32) (m : M) {z : Int32} (hz : k_memberOf a1 a2 m = some z) : Ct l G yX11_memberOf cX11_memberOf 3 (some .int) 6 [.ref (G.2.1 0), .int a1, .int a2] m (some (.int z)) m :=
  ct_of (K := (KRi m)) (by decide) (Nat.le_of_ble_eq_true rfl) (congrArg (fun q => Option.bind q _) hz) (fun x hl hn E => (t_k_memberOf E hn a1 a2 m))
theorem dX11_exchanged_0 : decode cX11_exchanged 0 = .ok (.iload_n 1, 1) := by decide +kernel
theorem dX11_exchanged_1 : decode cX11_exchanged 1 = .ok (.iconst 0, 1) := by decide +kernel
theorem dX11_exchanged_2 : decode cX11_exchanged 2 = .ok (.aload_n 0, 1) := by decide +kernel
theorem dX11_exchanged_3 : decode cX11_exchanged 3 = .ok (.arraylength, 1) := by decide +kernel
theorem dX11_exchanged_4 : decode cX11_exchanged 4 = .ok (.iconst 1, 1) := by decide +kernel
theorem dX11_exchanged_5 : decode cX11_exchanged 5 = .ok (.isub, 1) := by decide +kernel
theorem dX11_exchanged_6 : decode cX11_exchanged 6 = .ok (.invokestatic 61, 3) := by decide +kernel
theorem dX11_exchanged_9 : decode cX11_exchanged 9 = .ok (.ifCond .eq 12, 3) := by decide +kernel
theorem dX11_exchanged_12 : decode cX11_exchanged 12 = .ok (.iload_n 2, 1) := by decide +kernel
theorem dX11_exchanged_13 : decode cX11_exchanged 13 = .ok (.iconst 0, 1) := by decide +kernel
theorem dX11_exchanged_14 : decode cX11_exchanged 14 = .ok (.iload_n 3, 1) := by decide +kernel
theorem dX11_exchanged_15 : decode cX11_exchanged 15 = .ok (.invokestatic 61, 3) := by decide +kernel
theorem dX11_exchanged_18 : decode cX11_exchanged 18 = .ok (.ifCond .ne 5, 3) := by decide +kernel
theorem dX11_exchanged_21 : decode cX11_exchanged 21 = .ok (.iconst (-1), 1) := by decide +kernel
theorem dX11_exchanged_22 : decode cX11_exchanged 22 = .ok (.ireturn, 1) := by decide +kernel
theorem dX11_exchanged_23 : decode cX11_exchanged 23 = .ok (.aload_n 0, 1) := by decide +kernel
theorem dX11_exchanged_24 : decode cX11_exchanged 24 = .ok (.iload_n 1, 1) := by decide +kernel
theorem dX11_exchanged_25 : decode cX11_exchanged 25 = .ok (.iaload, 1) := by decide +kernel
theorem dX11_exchanged_26 : decode cX11_exchanged 26 = .ok (.istore 4, 2) := by decide +kernel
theorem dX11_exchanged_28 : decode cX11_exchanged 28 = .ok (.aload_n 0, 1) := by decide +kernel
theorem dX11_exchanged_29 : decode cX11_exchanged 29 = .ok (.iload_n 1, 1) := by decide +kernel
theorem dX11_exchanged_30 : decode cX11_exchanged 30 = .ok (.iload_n 2, 1) := by decide +kernel
theorem dX11_exchanged_31 : decode cX11_exchanged 31 = .ok (.iastore, 1) := by decide +kernel
theorem dX11_exchanged_32 : decode cX11_exchanged 32 = .ok (.iload 4, 2) := by decide +kernel
theorem dX11_exchanged_34 : decode cX11_exchanged 34 = .ok (.ireturn, 1) := by decide +kernel
