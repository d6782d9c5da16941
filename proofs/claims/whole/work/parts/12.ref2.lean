set_option maxRecDepth 20000 in
theorem C_r_benchOf (l : Launch) (G : GG) (a1 : Int32) (a2 : Int32) (m : M) {z : Int32} (hz : r_benchOf a1 a2 m = some z) : Ct l G yX12_benchOf cX12_benchOf 3 (some .int) 3 [.ref (G.2.1 76), .int a1, .int a2] m (some (.int z)) m :=
  ct_of (K := (KRi m)) (by decide) (Nat.le_of_ble_eq_true rfl) (congrArg (fun q => Option.bind q _) hz) (fun x hl hn E => (t_r_benchOf E hn a1 a2 m))
theorem dX12_rock_0 : decode cX12_rock 0 = .ok (.iload_n 1, 1) := by decide +kernel
theorem dX12_rock_1 : decode cX12_rock 1 = .ok (.iconst 0, 1) := by decide +kernel
theorem dX12_rock_2 : decode cX12_rock 2 = .ok (.iconst 1, 1) := by decide +kernel
theorem dX12_rock_3 : decode cX12_rock 3 = .ok (.invokestatic 71, 3) := by decide +kernel
theorem dX12_rock_6 : decode cX12_rock 6 = .ok (.ifCond .eq 40, 3) := by decide +kernel
theorem dX12_rock_9 : decode cX12_rock 9 = .ok (.iload_n 2, 1) := by decide +kernel
theorem dX12_rock_10 : decode cX12_rock 10 = .ok (.iconst 0, 1) := by decide +kernel
theorem dX12_rock_11 : decode cX12_rock 11 = .ok (.iload_n 1, 1) := by decide +kernel
theorem dX12_rock_12 : decode cX12_rock 12 = .ok (.ifCond .ne 8, 3) := by decide +kernel
theorem dX12_rock_15 : decode cX12_rock 15 = .ok (.bipush 9, 2) := by decide +kernel
theorem dX12_rock_17 : decode cX12_rock 17 = .ok (.goto 6, 3) := by decide +kernel
theorem dX12_rock_20 : decode cX12_rock 20 = .ok (.sipush 999, 3) := by decide +kernel
theorem dX12_rock_23 : decode cX12_rock 23 = .ok (.invokestatic 71, 3) := by decide +kernel
theorem dX12_rock_26 : decode cX12_rock 26 = .ok (.ifCond .eq 20, 3) := by decide +kernel
theorem dX12_rock_29 : decode cX12_rock 29 = .ok (.aload_n 0, 1) := by decide +kernel
theorem dX12_rock_30 : decode cX12_rock 30 = .ok (.iload_n 1, 1) := by decide +kernel
theorem dX12_rock_31 : decode cX12_rock 31 = .ok (.ifCond .ne 7, 3) := by decide +kernel
theorem dX12_rock_34 : decode cX12_rock 34 = .ok (.iconst 3, 1) := by decide +kernel
theorem dX12_rock_35 : decode cX12_rock 35 = .ok (.goto 4, 3) := by decide +kernel
theorem dX12_rock_38 : decode cX12_rock 38 = .ok (.iconst 4, 1) := by decide +kernel
theorem dX12_rock_39 : decode cX12_rock 39 = .ok (.iload_n 2, 1) := by decide +kernel
theorem dX12_rock_40 : decode cX12_rock 40 = .ok (.invokevirtual 229, 3) := by decide +kernel
theorem dX12_rock_43 : decode cX12_rock 43 = .ok (.goto 4, 3) := by decide +kernel
theorem dX12_rock_46 : decode cX12_rock 46 = .ok (.iconst (-1), 1) := by decide +kernel
theorem dX12_rock_47 : decode cX12_rock 47 = .ok (.ireturn, 1) := by decide +kernel
def r_rock_39 (a2 : Int32) (s1 : Int32) (m : M) : Option (Int32 × M) :=
  Option.bind (r_becomes s1 a2 m) (fun z1 => some (z1.1, z1.2))
set_option maxRecDepth 20000 in
theorem t_r_rock_39 {G : GG} {x : Cx} (E : En G x cX12_rock "WreckBoardModel" 2 (some .int)) (hn : xn x = 3) (a2 : Int32) (s1 : Int32) (m : M) : Sm G x 39 [(2, .int a2)] [.int s1, .ref (G.2.1 76)] m (r_rock_39 a2 s1 m) KWi := by
  unfold r_rock_39
  refine s_iload_n 0 E dX12_rock_39 rfl rfl ?_
  refine s_bd (fun z1 hz => ?_)
  refine s_cV (rest := []) E (C_r_becomes (xl x) G s1 a2 m hz) mdX12_becomes W1509 W1511 W56 W103 W1512 rfl rfl rfl rfl (Nat.le_of_ble_eq_true rfl) ⟨by decide, by decide⟩ dX12_rock_40 ?_
  refine s_goto 47 E dX12_rock_43 (by decide) ?_
  exact s_iret E rfl dX12_rock_47
def r_rock_23 (a1 : Int32) (a2 : Int32) (s0 : Int32) (s2 : Int32) (m : M) : Option (Int32 × M) :=
  Option.bind (r_in1 s0 (0 : Int32) s2 m) (fun v1 => (if v1 = 0 then some ((-1 : Int32), m) else (if a1 = 0 then r_rock_39 a2 (3 : Int32) m else r_rock_39 a2 (4 : Int32) m)))
set_option maxRecDepth 20000 in
theorem t_r_rock_23 {G : GG} {x : Cx} (E : En G x cX12_rock "WreckBoardModel" 2 (some .int)) (hn : xn x = 3) (a1 : Int32) (a2 : Int32) (s0 : Int32) (s2 : Int32) (m : M) : Sm G x 23 [(0, .ref (G.2.1 76)), (1, .int a1), (2, .int a2)] [.int s2, .int (0 : Int32), .int s0] m (r_rock_23 a1 a2 s0 s2 m) KWi := by
  unfold r_rock_23
  refine s_bd (fun v1 hz => ?_)
  refine s_cS (rest := []) E (C_r_in1 (xl x) G s0 (0 : Int32) s2 m hz) mdX12_in1 W1359 W1360 W103 W1361 rfl rfl (Nat.le_of_ble_eq_true rfl) ⟨by decide, by decide⟩ dX12_rock_23 ?_
  refine s_if_eq 46 E dX12_rock_26 (by decide) ?_ ?_
  · refine s_iconst (v := (-1 : Int32)) E dX12_rock_46 (by decide) ?_
    exact s_iret E rfl dX12_rock_47
  · refine s_aload_n 0 E dX12_rock_29 rfl rfl ?_
    refine s_iload_n 1 E dX12_rock_30 rfl rfl ?_
    refine s_if_ne 38 E dX12_rock_31 (by decide) ?_ ?_
    · refine s_iconst (v := (4 : Int32)) E dX12_rock_38 (by decide) ?_
      refine s_sub (lv' := [(2, .int a2)]) [2] rfl ?_
      exact t_r_rock_39 E hn a2 (4 : Int32) m
    · refine s_iconst (v := (3 : Int32)) E dX12_rock_34 (by decide) ?_
      refine s_goto 39 E dX12_rock_35 (by decide) ?_
      refine s_sub (lv' := [(2, .int a2)]) [2] rfl ?_
      exact t_r_rock_39 E hn a2 (3 : Int32) m
def r_rock (a1 : Int32) (a2 : Int32) (m : M) : Option (Int32 × M) :=
  Option.bind (r_in1 a1 (0 : Int32) (1 : Int32) m) (fun v1 => (if v1 = 0 then some ((-1 : Int32), m) else (if a1 = 0 then r_rock_23 a1 a2 a2 (9 : Int32) m else r_rock_23 a1 a2 a2 (999 : Int32) m)))
set_option maxRecDepth 20000 in
theorem t_r_rock {G : GG} {x : Cx} (E : En G x cX12_rock "WreckBoardModel" 2 (some .int)) (hn : xn x = 3) (a1 : Int32) (a2 : Int32) (m : M) : Sm G x 0 [(0, .ref (G.2.1 76)), (1, .int a1), (2, .int a2)] [] m (r_rock a1 a2 m) KWi := by
  unfold r_rock
  refine s_iload_n 1 E dX12_rock_0 rfl rfl ?_
  refine s_iconst (v := (0 : Int32)) E dX12_rock_1 (by decide) ?_
  refine s_iconst (v := (1 : Int32)) E dX12_rock_2 (by decide) ?_
  refine s_bd (fun v1 hz => ?_)
  refine s_cS (rest := []) E (C_r_in1 (xl x) G a1 (0 : Int32) (1 : Int32) m hz) mdX12_in1 W1359 W1360 W103 W1361 rfl rfl (Nat.le_of_ble_eq_true rfl) ⟨by decide, by decide⟩ dX12_rock_3 ?_
  refine s_if_eq 46 E dX12_rock_6 (by decide) ?_ ?_
  · refine s_iconst (v := (-1 : Int32)) E dX12_rock_46 (by decide) ?_
    exact s_iret E rfl dX12_rock_47
  · refine s_iload_n 2 E dX12_rock_9 rfl rfl ?_
    refine s_iconst (v := (0 : Int32)) E dX12_rock_10 (by decide) ?_
    refine s_iload_n 1 E dX12_rock_11 rfl rfl ?_
    refine s_if_ne 20 E dX12_rock_12 (by decide) ?_ ?_
    · refine s_sipush (v := (999 : Int32)) E dX12_rock_20 (by decide) ?_
      exact t_r_rock_23 E hn a1 a2 a2 (999 : Int32) m
    · refine s_bipush (v := (9 : Int32)) E dX12_rock_15 (by decide) ?_
      refine s_goto 23 E dX12_rock_17 (by decide) ?_
      exact t_r_rock_23 E hn a1 a2 a2 (9 : Int32) m
set_option maxRecDepth 20000 in
theorem C_r_rock (l : Launch) (G : GG) (a1 : Int32) (a2 : Int32) (m : M) {z : Int32 × M} (hz : r_rock a1 a2 m = some z) : Ct l G yX12_rock cX12_rock 3 (some .int) 2 [.ref (G.2.1 76), .int a1, .int a2] m (some (.int z.1)) z.2 :=
  ct_of (K := KWi) (by decide) (Nat.le_of_ble_eq_true rfl) (congrArg (fun q => Option.bind q _) hz) (fun x hl hn E => (t_r_rock E hn a1 a2 m))
theorem dX12_ends_0 : decode cX12_ends 0 = .ok (.iload_n 1, 1) := by decide +kernel
theorem dX12_ends_1 : decode cX12_ends 1 = .ok (.iconst 1, 1) := by decide +kernel
theorem dX12_ends_2 : decode cX12_ends 2 = .ok (.bipush 16, 2) := by decide +kernel
theorem dX12_ends_4 : decode cX12_ends 4 = .ok (.invokestatic 71, 3) := by decide +kernel
theorem dX12_ends_7 : decode cX12_ends 7 = .ok (.ifCond .ne 7, 3) := by decide +kernel
theorem dX12_ends_10 : decode cX12_ends 10 = .ok (.iconst (-1), 1) := by decide +kernel
theorem dX12_ends_11 : decode cX12_ends 11 = .ok (.goto 24, 3) := by decide +kernel
theorem dX12_ends_14 : decode cX12_ends 14 = .ok (.iload_n 1, 1) := by decide +kernel
theorem dX12_ends_15 : decode cX12_ends 15 = .ok (.aload_n 0, 1) := by decide +kernel
theorem dX12_ends_16 : decode cX12_ends 16 = .ok (.getfield 9, 3) := by decide +kernel
theorem dX12_ends_19 : decode cX12_ends 19 = .ok (.iconst 0, 1) := by decide +kernel
theorem dX12_ends_20 : decode cX12_ends 20 = .ok (.iaload, 1) := by decide +kernel
theorem dX12_ends_21 : decode cX12_ends 21 = .ok (.if_icmp .ge 8, 3) := by decide +kernel
theorem dX12_ends_24 : decode cX12_ends 24 = .ok (.bipush (-4), 2) := by decide +kernel
theorem dX12_ends_26 : decode cX12_ends 26 = .ok (.goto 9, 3) := by decide +kernel
theorem dX12_ends_29 : decode cX12_ends 29 = .ok (.aload_n 0, 1) := by decide +kernel
theorem dX12_ends_30 : decode cX12_ends 30 = .ok (.iconst 1, 1) := by decide +kernel
theorem dX12_ends_31 : decode cX12_ends 31 = .ok (.iload_n 1, 1) := by decide +kernel
theorem dX12_ends_32 : decode cX12_ends 32 = .ok (.invokevirtual 229, 3) := by decide +kernel
theorem dX12_ends_35 : decode cX12_ends 35 = .ok (.ireturn, 1) := by decide +kernel
def r_ends (a1 : Int32) (m : M) : Option (Int32 × M) :=
  Option.bind (r_in1 a1 (1 : Int32) (16 : Int32) m) (fun v1 => (if v1 = 0 then some ((-1 : Int32), m) else Option.bind (rdI m 77 (0 : Int32)) (fun v2 => (if v2 ≤ a1 then Option.bind (r_becomes (1 : Int32) a1 m) (fun z3 => some (z3.1, z3.2)) else some ((-4 : Int32), m)))))
set_option maxRecDepth 20000 in
theorem t_r_ends {G : GG} {x : Cx} (E : En G x cX12_ends "WreckBoardModel" 2 (some .int)) (hn : xn x = 2) (a1 : Int32) (m : M) : Sm G x 0 [(0, .ref (G.2.1 76)), (1, .int a1)] [] m (r_ends a1 m) KWi := by
  unfold r_ends
  refine s_iload_n 1 E dX12_ends_0 rfl rfl ?_
  refine s_iconst (v := (1 : Int32)) E dX12_ends_1 (by decide) ?_
  refine s_bipush (v := (16 : Int32)) E dX12_ends_2 (by decide) ?_
  refine s_bd (fun v1 hz => ?_)
  refine s_cS (rest := []) E (C_r_in1 (xl x) G a1 (1 : Int32) (16 : Int32) m hz) mdX12_in1 W1359 W1360 W103 W1361 rfl rfl (Nat.le_of_ble_eq_true rfl) ⟨by decide, by decide⟩ dX12_ends_4 ?_
  refine s_if_ne 14 E dX12_ends_7 (by decide) ?_ ?_
  · refine s_iload_n 1 E dX12_ends_14 rfl rfl ?_
    refine s_aload_n 0 E dX12_ends_15 rfl rfl ?_
    refine s_getr (k := 0) (T := TX12) 76 E rfl rfl rfl inX12 (by decide) W1239 dX12_ends_16 ?_
    refine s_iconst (v := (0 : Int32)) E dX12_ends_19 (by decide) ?_
    refine s_iald E dX12_ends_20 (fun v2 => ?_)
    refine s_icmp_ge 29 E dX12_ends_21 (by decide) ?_ ?_
    · refine s_aload_n 0 E dX12_ends_29 rfl rfl ?_
      refine s_iconst (v := (1 : Int32)) E dX12_ends_30 (by decide) ?_
      refine s_iload_n 1 E dX12_ends_31 rfl rfl ?_
      refine s_bd (fun z3 hz => ?_)
      refine s_cV (rest := []) E (C_r_becomes (xl x) G (1 : Int32) a1 m hz) mdX12_becomes W1509 W1511 W56 W103 W1512 rfl rfl rfl rfl (Nat.le_of_ble_eq_true rfl) ⟨by decide, by decide⟩ dX12_ends_32 ?_
      exact s_iret E rfl dX12_ends_35
    · refine s_bipush (v := (-4 : Int32)) E dX12_ends_24 (by decide) ?_
      refine s_goto 35 E dX12_ends_26 (by decide) ?_
      exact s_iret E rfl dX12_ends_35
  · refine s_iconst (v := (-1 : Int32)) E dX12_ends_10 (by decide) ?_
    refine s_goto 35 E dX12_ends_11 (by decide) ?_
    exact s_iret E rfl dX12_ends_35
set_option maxRecDepth 20000 in
theorem C_r_ends (l : Launch) (G : GG) (a1 : Int32) (m : M) {z : Int32 × M} (hz : r_ends a1 m = some z) : Ct l G yX12_ends cX12_ends 2 (some .int) 2 [.ref (G.2.1 76), .int a1] m (some (.int z.1)) z.2 :=
  ct_of (K := KWi) (by decide) (Nat.le_of_ble_eq_true rfl) (congrArg (fun q => Option.bind q _) hz) (fun x hl hn E => (t_r_ends E hn a1 m))
theorem dX12_anew_0 : decode cX12_anew 0 = .ok (.aload_n 0, 1) := by decide +kernel
theorem dX12_anew_1 : decode cX12_anew 1 = .ok (.getfield 9, 3) := by decide +kernel
theorem dX12_anew_4 : decode cX12_anew 4 = .ok (.iconst 2, 1) := by decide +kernel
theorem dX12_anew_5 : decode cX12_anew 5 = .ok (.iconst 0, 1) := by decide +kernel
theorem dX12_anew_6 : decode cX12_anew 6 = .ok (.iastore, 1) := by decide +kernel
theorem dX12_anew_7 : decode cX12_anew 7 = .ok (.aload_n 0, 1) := by decide +kernel
theorem dX12_anew_8 : decode cX12_anew 8 = .ok (.getfield 9, 3) := by decide +kernel
theorem dX12_anew_11 : decode cX12_anew 11 = .ok (.iconst 3, 1) := by decide +kernel
theorem dX12_anew_12 : decode cX12_anew 12 = .ok (.iconst 5, 1) := by decide +kernel
theorem dX12_anew_13 : decode cX12_anew 13 = .ok (.iastore, 1) := by decide +kernel
theorem dX12_anew_14 : decode cX12_anew 14 = .ok (.aload_n 0, 1) := by decide +kernel
theorem dX12_anew_15 : decode cX12_anew 15 = .ok (.getfield 9, 3) := by decide +kernel
theorem dX12_anew_18 : decode cX12_anew 18 = .ok (.iconst 4, 1) := by decide +kernel
theorem dX12_anew_19 : decode cX12_anew 19 = .ok (.iconst 0, 1) := by decide +kernel
theorem dX12_anew_20 : decode cX12_anew 20 = .ok (.iastore, 1) := by decide +kernel
theorem dX12_anew_21 : decode cX12_anew 21 = .ok (.iconst 0, 1) := by decide +kernel
theorem dX12_anew_22 : decode cX12_anew 22 = .ok (.istore_n 1, 1) := by decide +kernel
theorem dX12_anew_23 : decode cX12_anew 23 = .ok (.iload_n 1, 1) := by decide +kernel
theorem dX12_anew_24 : decode cX12_anew 24 = .ok (.aload_n 0, 1) := by decide +kernel
theorem dX12_anew_25 : decode cX12_anew 25 = .ok (.getfield 9, 3) := by decide +kernel
theorem dX12_anew_28 : decode cX12_anew 28 = .ok (.bipush 6, 2) := by decide +kernel
theorem dX12_anew_30 : decode cX12_anew 30 = .ok (.iaload, 1) := by decide +kernel
theorem dX12_anew_31 : decode cX12_anew 31 = .ok (.if_icmp .ge 16, 3) := by decide +kernel
theorem dX12_anew_34 : decode cX12_anew 34 = .ok (.aload_n 0, 1) := by decide +kernel
theorem dX12_anew_35 : decode cX12_anew 35 = .ok (.iload_n 1, 1) := by decide +kernel
theorem dX12_anew_36 : decode cX12_anew 36 = .ok (.iconst 4, 1) := by decide +kernel
theorem dX12_anew_37 : decode cX12_anew 37 = .ok (.iconst 0, 1) := by decide +kernel
theorem dX12_anew_38 : decode cX12_anew 38 = .ok (.invokevirtual 198, 3) := by decide +kernel
theorem dX12_anew_41 : decode cX12_anew 41 = .ok (.iinc 1 1, 3) := by decide +kernel
theorem dX12_anew_44 : decode cX12_anew 44 = .ok (.goto (-21), 3) := by decide +kernel
theorem dX12_anew_47 : decode cX12_anew 47 = .ok (.aload_n 0, 1) := by decide +kernel
theorem dX12_anew_48 : decode cX12_anew 48 = .ok (.iconst 0, 1) := by decide +kernel
theorem dX12_anew_49 : decode cX12_anew 49 = .ok (.iconst 0, 1) := by decide +kernel
theorem dX12_anew_50 : decode cX12_anew 50 = .ok (.invokevirtual 229, 3) := by decide +kernel
theorem dX12_anew_53 : decode cX12_anew 53 = .ok (.ireturn, 1) := by decide +kernel
def r_anew_23b (a1 : Int32) (m : M) : Option ((Int32 × M) ⊕ ((M))) :=
  Option.bind (rdI m 77 (6 : Int32)) (fun v1 => (if v1 ≤ a1 then some (.inr m) else Option.bind (r_puts a1 (4 : Int32) (0 : Int32) m) (fun m2 => lt (a1 + (1 : Int32)) (fun w3 : Int32 => some (.inl (w3, m2))))))
set_option maxRecDepth 20000 in
theorem t_r_anew_23b {G : GG} {x : Cx} {K : ((Int32 × M) ⊕ ((M))) → Option (Option Value × M)} (E : En G x cX12_anew "WreckBoardModel" 2 (some .int)) (hn : xn x = 2) (a1 : Int32) (m : M) (hb : ∀ z : Int32 × M, Sm G x 23 [(0, .ref (G.2.1 76)), (1, .int z.1)] [] z.2 (some (.inl z)) K) (hx0 : ∀ z : M, Sm G x 47 [(0, .ref (G.2.1 76))] [] z (some (.inr z)) K) : Sm G x 23 [(0, .ref (G.2.1 76)), (1, .int a1)] [] m (r_anew_23b a1 m) K := by
  unfold r_anew_23b
  refine s_iload_n 1 E dX12_anew_23 rfl rfl ?_
  refine s_aload_n 0 E dX12_anew_24 rfl rfl ?_
  refine s_getr (k := 0) (T := TX12) 76 E rfl rfl rfl inX12 (by decide) W1239 dX12_anew_25 ?_
  refine s_bipush (v := (6 : Int32)) E dX12_anew_28 (by decide) ?_
  refine s_iald E dX12_anew_30 (fun v1 => ?_)
  refine s_icmp_ge 47 E dX12_anew_31 (by decide) ?_ ?_
  · refine s_sub (lv' := [(0, .ref (G.2.1 76))]) [0] rfl ?_
    exact hx0 m
  · refine s_aload_n 0 E dX12_anew_34 rfl rfl ?_
    refine s_iload_n 1 E dX12_anew_35 rfl rfl ?_
    refine s_iconst (v := (4 : Int32)) E dX12_anew_36 (by decide) ?_
    refine s_iconst (v := (0 : Int32)) E dX12_anew_37 (by decide) ?_
    refine s_bd (fun m2 hz => ?_)
    refine s_cV (rest := []) E (C_r_puts (xl x) G a1 (4 : Int32) (0 : Int32) m hz) mdX12_puts W1433 W1435 W42 W103 W1436 rfl rfl rfl rfl (Nat.le_of_ble_eq_true rfl) ⟨by decide, by decide⟩ dX12_anew_38 ?_
    refine s_iincL (v := (1 : Int32)) 1 [1, 0] (fun w3 => [(0, .ref (G.2.1 76)), (1, .int w3)]) E dX12_anew_41 rfl (by decide) (by rw [hn]; decide) (fun _ => rfl) (fun w3 => ?_)
    refine s_goto 23 E dX12_anew_44 (by decide) ?_
    exact hb (w3, m2)
def r_anew_23 (a1 : Int32) (m : M) : Option (Int32 × M) :=
  Option.bind (iter (fun z => r_anew_23b z.1 z.2) FU (a1, m)) (fun r => Option.bind (r_becomes (0 : Int32) (0 : Int32) r) (fun z4 => some (z4.1, z4.2)))
set_option maxRecDepth 20000 in
theorem t_r_anew_23 {G : GG} {x : Cx} (E : En G x cX12_anew "WreckBoardModel" 2 (some .int)) (hn : xn x = 2) (a1 : Int32) (m : M) : Sm G x 23 [(0, .ref (G.2.1 76)), (1, .int a1)] [] m (r_anew_23 a1 m) KWi := by
  unfold r_anew_23
  refine s_loop (fun z => [(0, .ref (G.2.1 76)), (1, .int z.1)]) (fun z => z.2) (fun K2 hb2 hr2 z => ?_) FU (a1, m)
  refine t_r_anew_23b (K := K2) E hn z.1 z.2 hb2 (fun r => s_out (hr2 r) ?_)
  · refine s_aload_n 0 E dX12_anew_47 rfl rfl ?_
    refine s_iconst (v := (0 : Int32)) E dX12_anew_48 (by decide) ?_
    refine s_iconst (v := (0 : Int32)) E dX12_anew_49 (by decide) ?_
    refine s_bd (fun z4 hz => ?_)
    refine s_cV (rest := []) E (C_r_becomes (xl x) G (0 : Int32) (0 : Int32) r hz) mdX12_becomes W1509 W1511 W56 W103 W1512 rfl rfl rfl rfl (Nat.le_of_ble_eq_true rfl) ⟨by decide, by decide⟩ dX12_anew_50 ?_
    exact s_iret E rfl dX12_anew_53
def r_anew  (m : M) : Option (Int32 × M) :=
  Option.bind (wrI m 77 (2 : Int32) (0 : Int32)) (fun m1 => Option.bind (wrI m1 77 (3 : Int32) (5 : Int32)) (fun m2 => Option.bind (wrI m2 77 (4 : Int32) (0 : Int32)) (fun m3 => r_anew_23 (0 : Int32) m3)))
set_option maxRecDepth 20000 in
theorem t_r_anew {G : GG} {x : Cx} (E : En G x cX12_anew "WreckBoardModel" 2 (some .int)) (hn : xn x = 2)  (m : M) : Sm G x 0 [(0, .ref (G.2.1 76))] [] m (r_anew m) KWi := by
  unfold r_anew
  refine s_aload_n 0 E dX12_anew_0 rfl rfl ?_
  refine s_getr (k := 0) (T := TX12) 76 E rfl rfl rfl inX12 (by decide) W1239 dX12_anew_1 ?_
  refine s_iconst (v := (2 : Int32)) E dX12_anew_4 (by decide) ?_
  refine s_iconst (v := (0 : Int32)) E dX12_anew_5 (by decide) ?_
  refine s_iast E dX12_anew_6 (fun m1 => ?_)
  refine s_aload_n 0 E dX12_anew_7 rfl rfl ?_
  refine s_getr (k := 0) (T := TX12) 76 E rfl rfl rfl inX12 (by decide) W1239 dX12_anew_8 ?_
  refine s_iconst (v := (3 : Int32)) E dX12_anew_11 (by decide) ?_
  refine s_iconst (v := (5 : Int32)) E dX12_anew_12 (by decide) ?_
  refine s_iast E dX12_anew_13 (fun m2 => ?_)
  refine s_aload_n 0 E dX12_anew_14 rfl rfl ?_
  refine s_getr (k := 0) (T := TX12) 76 E rfl rfl rfl inX12 (by decide) W1239 dX12_anew_15 ?_
  refine s_iconst (v := (4 : Int32)) E dX12_anew_18 (by decide) ?_
  refine s_iconst (v := (0 : Int32)) E dX12_anew_19 (by decide) ?_
  refine s_iast E dX12_anew_20 (fun m3 => ?_)
  refine s_iconst (v := (0 : Int32)) E dX12_anew_21 (by decide) ?_
  refine s_istore_n (lv' := [(0, .ref (G.2.1 76)), (1, .int (0 : Int32))]) [1, 0] E dX12_anew_22 rfl (by rw [hn]; decide) rfl ?_
  exact t_r_anew_23 E hn (0 : Int32) m3
set_option maxRecDepth 20000 in
theorem C_r_anew (l : Launch) (G : GG)  (m : M) {z : Int32 × M} (hz : r_anew m = some z) : Ct l G yX12_anew cX12_anew 2 (some .int) 2 [.ref (G.2.1 76)] m (some (.int z.1)) z.2 :=
  ct_of (K := KWi) (by decide) (Nat.le_of_ble_eq_true rfl) (congrArg (fun q => Option.bind q _) hz) (fun x hl hn E => (t_r_anew E hn  m))
theorem dX12_isOver_0 : decode cX12_isOver 0 = .ok (.aload_n 0, 1) := by decide +kernel
theorem dX12_isOver_1 : decode cX12_isOver 1 = .ok (.getfield 9, 3) := by decide +kernel
theorem dX12_isOver_4 : decode cX12_isOver 4 = .ok (.iconst 0, 1) := by decide +kernel
theorem dX12_isOver_5 : decode cX12_isOver 5 = .ok (.iaload, 1) := by decide +kernel
theorem dX12_isOver_6 : decode cX12_isOver 6 = .ok (.aload_n 0, 1) := by decide +kernel
theorem dX12_isOver_7 : decode cX12_isOver 7 = .ok (.getfield 9, 3) := by decide +kernel
theorem dX12_isOver_10 : decode cX12_isOver 10 = .ok (.iconst 1, 1) := by decide +kernel
theorem dX12_isOver_11 : decode cX12_isOver 11 = .ok (.iaload, 1) := by decide +kernel
theorem dX12_isOver_12 : decode cX12_isOver 12 = .ok (.if_icmp .lt 7, 3) := by decide +kernel
theorem dX12_isOver_15 : decode cX12_isOver 15 = .ok (.iconst 1, 1) := by decide +kernel
theorem dX12_isOver_16 : decode cX12_isOver 16 = .ok (.goto 4, 3) := by decide +kernel
theorem dX12_isOver_19 : decode cX12_isOver 19 = .ok (.iconst 0, 1) := by decide +kernel
theorem dX12_isOver_20 : decode cX12_isOver 20 = .ok (.ireturn, 1) := by decide +kernel
def r_isOver  (m : M) : Option (Int32) :=
  Option.bind (rdI m 77 (0 : Int32)) (fun v1 => Option.bind (rdI m 77 (1 : Int32)) (fun v2 => (if v1 < v2 then some (0 : Int32) else some (1 : Int32))))
set_option maxRecDepth 20000 in
theorem t_r_isOver {G : GG} {x : Cx} (E : En G x cX12_isOver "WreckBoardModel" 1 (some .boolean)) (hn : xn x = 1)  (m : M) : Sm G x 0 [(0, .ref (G.2.1 76))] [] m (r_isOver m) (KRi m) := by
  unfold r_isOver
  refine s_aload_n 0 E dX12_isOver_0 rfl rfl ?_
  refine s_getr (k := 0) (T := TX12) 76 E rfl rfl rfl inX12 (by decide) W1239 dX12_isOver_1 ?_
  refine s_iconst (v := (0 : Int32)) E dX12_isOver_4 (by decide) ?_
  refine s_iald E dX12_isOver_5 (fun v1 => ?_)
  refine s_aload_n 0 E dX12_isOver_6 rfl rfl ?_
  refine s_getr (k := 0) (T := TX12) 76 E rfl rfl rfl inX12 (by decide) W1239 dX12_isOver_7 ?_
  refine s_iconst (v := (1 : Int32)) E dX12_isOver_10 (by decide) ?_
  refine s_iald E dX12_isOver_11 (fun v2 => ?_)
  refine s_icmp_lt 19 E dX12_isOver_12 (by decide) ?_ ?_
  · refine s_iconst (v := (0 : Int32)) E dX12_isOver_19 (by decide) ?_
    exact s_zret E (by decide) rfl dX12_isOver_20
  · refine s_iconst (v := (1 : Int32)) E dX12_isOver_15 (by decide) ?_
    refine s_goto 20 E dX12_isOver_16 (by decide) ?_
    exact s_zret E (by decide) rfl dX12_isOver_20
set_option maxRecDepth 20000 in
theorem C_r_isOver (l : Launch) (G : GG)  (m : M) {z : Int32} (hz : r_isOver m = some z) : Ct l G yX12_isOver cX12_isOver 1 (some .boolean) 1 [.ref (G.2.1 76)] m (some (.int z)) m :=
  ct_of (K := (KRi m)) (by decide) (Nat.le_of_ble_eq_true rfl) (congrArg (fun q => Option.bind q _) hz) (fun x hl hn E => (t_r_isOver E hn  m))
theorem mdX12_isOver : mdq yX12_isOver 0 := ⟨by decide, by decide, by decide +kernel⟩
theorem dX12_those_0 : decode cX12_those 0 = .ok (.iconst 0, 1) := by decide +kernel
theorem dX12_those_1 : decode cX12_those 1 = .ok (.istore_n 2, 1) := by decide +kernel
theorem dX12_those_2 : decode cX12_those 2 = .ok (.iconst 0, 1) := by decide +kernel
theorem dX12_those_3 : decode cX12_those 3 = .ok (.istore_n 3, 1) := by decide +kernel
theorem dX12_those_4 : decode cX12_those 4 = .ok (.iload_n 3, 1) := by decide +kernel
theorem dX12_those_5 : decode cX12_those 5 = .ok (.aload_n 0, 1) := by decide +kernel
theorem dX12_those_6 : decode cX12_those 6 = .ok (.getfield 9, 3) := by decide +kernel
theorem dX12_those_9 : decode cX12_those 9 = .ok (.bipush 6, 2) := by decide +kernel
theorem dX12_those_11 : decode cX12_those 11 = .ok (.iaload, 1) := by decide +kernel
theorem dX12_those_12 : decode cX12_those 12 = .ok (.if_icmp .ge 28, 3) := by decide +kernel
theorem dX12_those_15 : decode cX12_those 15 = .ok (.iload_n 2, 1) := by decide +kernel
theorem dX12_those_16 : decode cX12_those 16 = .ok (.aload_n 0, 1) := by decide +kernel
theorem dX12_those_17 : decode cX12_those 17 = .ok (.iload_n 3, 1) := by decide +kernel
theorem dX12_those_18 : decode cX12_those 18 = .ok (.iload_n 1, 1) := by decide +kernel
theorem dX12_those_19 : decode cX12_those 19 = .ok (.invokevirtual 79, 3) := by decide +kernel
theorem dX12_those_22 : decode cX12_those 22 = .ok (.ifCond .le 9, 3) := by decide +kernel
theorem dX12_those_25 : decode cX12_those 25 = .ok (.iconst 1, 1) := by decide +kernel
theorem dX12_those_26 : decode cX12_those 26 = .ok (.iload_n 3, 1) := by decide +kernel
theorem dX12_those_27 : decode cX12_those 27 = .ok (.ishl, 1) := by decide +kernel
theorem dX12_those_28 : decode cX12_those 28 = .ok (.goto 4, 3) := by decide +kernel
theorem dX12_those_31 : decode cX12_those 31 = .ok (.iconst 0, 1) := by decide +kernel
theorem dX12_those_32 : decode cX12_those 32 = .ok (.ior, 1) := by decide +kernel
theorem dX12_those_33 : decode cX12_those 33 = .ok (.istore_n 2, 1) := by decide +kernel
theorem dX12_those_34 : decode cX12_those 34 = .ok (.iinc 3 1, 3) := by decide +kernel
theorem dX12_those_37 : decode cX12_those 37 = .ok (.goto (-33), 3) := by decide +kernel
theorem dX12_those_40 : decode cX12_those 40 = .ok (.iload_n 2, 1) := by decide +kernel
theorem dX12_those_41 : decode cX12_those 41 = .ok (.ireturn, 1) := by decide +kernel
def r_those_32 (a1 : Int32) (a3 : Int32) (s0 : Int32) (s1 : Int32) (m : M) : Option ((Int32 × Int32) ⊕ ((Int32))) :=
  lt (s0 ||| s1) (fun w1 : Int32 => lt (a3 + (1 : Int32)) (fun w2 : Int32 => some (.inl (w1, w2))))
set_option maxRecDepth 20000 in
theorem t_r_those_32 {G : GG} {x : Cx} {K : ((Int32 × Int32) ⊕ ((Int32))) → Option (Option Value × M)} (E : En G x cX12_those "WreckBoardModel" 2 (some .int)) (hn : xn x = 4) (a1 : Int32) (a3 : Int32) (s0 : Int32) (s1 : Int32) (m : M) (hb : ∀ z : Int32 × Int32, Sm G x 4 [(0, .ref (G.2.1 76)), (1, .int a1), (2, .int z.1), (3, .int z.2)] [] m (some (.inl z)) K) (hx0 : ∀ z : Int32, Sm G x 40 [(2, .int z)] [] m (some (.inr z)) K) : Sm G x 32 [(0, .ref (G.2.1 76)), (1, .int a1), (3, .int a3)] [.int s1, .int s0] m (r_those_32 a1 a3 s0 s1 m) K := by
  unfold r_those_32
  refine s_ior E dX12_those_32 ?_
  refine s_lt (fun w1 => [(0, .ref (G.2.1 76)), (1, .int a1), (3, .int a3)]) (fun w1 => [.int w1]) rfl rfl (fun w1 => ?_)
  refine s_istore_n (lv' := [(0, .ref (G.2.1 76)), (1, .int a1), (2, .int w1), (3, .int a3)]) [1, 2, 0, 3] E dX12_those_33 rfl (by rw [hn]; decide) rfl ?_
  refine s_iincL (v := (1 : Int32)) 3 [1, 2, 3, 0] (fun w2 => [(0, .ref (G.2.1 76)), (1, .int a1), (2, .int w1), (3, .int w2)]) E dX12_those_34 rfl (by decide) (by rw [hn]; decide) (fun _ => rfl) (fun w2 => ?_)
  refine s_goto 4 E dX12_those_37 (by decide) ?_
  exact hb (w1, w2)
def r_those_4b (a1 : Int32) (a2 : Int32) (a3 : Int32) (m : M) : Option ((Int32 × Int32) ⊕ ((Int32))) :=
  Option.bind (rdI m 77 (6 : Int32)) (fun v1 => (if v1 ≤ a3 then some (.inr a2) else Option.bind (r_get a3 a1 m) (fun v2 => (if v2 ≤ 0 then r_those_32 a1 a3 a2 (0 : Int32) m else r_those_32 a1 a3 a2 ((1 : Int32) <<< (a3 &&& 31)) m))))
set_option maxRecDepth 20000 in
theorem t_r_those_4b {G : GG} {x : Cx} {K : ((Int32 × Int32) ⊕ ((Int32))) → Option (Option Value × M)} (E : En G x cX12_those "WreckBoardModel" 2 (some .int)) (hn : xn x = 4) (a1 : Int32) (a2 : Int32) (a3 : Int32) (m : M) (hb : ∀ z : Int32 × Int32, Sm G x 4 [(0, .ref (G.2.1 76)), (1, .int a1), (2, .int z.1), (3, .int z.2)] [] m (some (.inl z)) K) (hx0 : ∀ z : Int32, Sm G x 40 [(2, .int z)] [] m (some (.inr z)) K) : Sm G x 4 [(0, .ref (G.2.1 76)), (1, .int a1), (2, .int a2), (3, .int a3)] [] m (r_those_4b a1 a2 a3 m) K := by
  unfold r_those_4b
  refine s_iload_n 3 E dX12_those_4 rfl rfl ?_
  refine s_aload_n 0 E dX12_those_5 rfl rfl ?_
  refine s_getr (k := 0) (T := TX12) 76 E rfl rfl rfl inX12 (by decide) W1239 dX12_those_6 ?_
  refine s_bipush (v := (6 : Int32)) E dX12_those_9 (by decide) ?_
  refine s_iald E dX12_those_11 (fun v1 => ?_)
  refine s_icmp_ge 40 E dX12_those_12 (by decide) ?_ ?_
  · refine s_sub (lv' := [(2, .int a2)]) [2] rfl ?_
    exact hx0 a2
  · refine s_iload_n 2 E dX12_those_15 rfl rfl ?_
    refine s_aload_n 0 E dX12_those_16 rfl rfl ?_
    refine s_iload_n 3 E dX12_those_17 rfl rfl ?_
    refine s_iload_n 1 E dX12_those_18 rfl rfl ?_
    refine s_bd (fun v2 hz => ?_)
    refine s_cV (rest := [.int a2]) E (C_r_get (xl x) G a3 a1 m hz) mdX12_get W1453 W1455 W46 W103 W1456 rfl rfl rfl rfl (Nat.le_of_ble_eq_true rfl) ⟨by decide, by decide⟩ dX12_those_19 ?_
    refine s_if_le 31 E dX12_those_22 (by decide) ?_ ?_
    · refine s_iconst (v := (0 : Int32)) E dX12_those_31 (by decide) ?_
      refine s_sub (lv' := [(0, .ref (G.2.1 76)), (1, .int a1), (3, .int a3)]) [0, 1, 3] rfl ?_
      exact t_r_those_32 E hn a1 a3 a2 (0 : Int32) m hb hx0
    · refine s_iconst (v := (1 : Int32)) E dX12_those_25 (by decide) ?_
      refine s_iload_n 3 E dX12_those_26 rfl rfl ?_
      refine s_ishl E dX12_those_27 ?_
      refine s_goto 32 E dX12_those_28 (by decide) ?_
      refine s_sub (lv' := [(0, .ref (G.2.1 76)), (1, .int a1), (3, .int a3)]) [0, 1, 3] rfl ?_
      exact t_r_those_32 E hn a1 a3 a2 ((1 : Int32) <<< (a3 &&& 31)) m hb hx0
def r_those_4 (a1 : Int32) (a2 : Int32) (a3 : Int32) (m : M) : Option (Int32) :=
  Option.bind (iter (fun z => r_those_4b a1 z.1 z.2 m) FU (a2, a3)) (fun r => some r)
set_option maxRecDepth 20000 in
theorem t_r_those_4 {G : GG} {x : Cx} (E : En G x cX12_those "WreckBoardModel" 2 (some .int)) (hn : xn x = 4) (a1 : Int32) (a2 : Int32) (a3 : Int32) (m : M) : Sm G x 4 [(0, .ref (G.2.1 76)), (1, .int a1), (2, .int a2), (3, .int a3)] [] m (r_those_4 a1 a2 a3 m) (KRi m) := by
  unfold r_those_4
  refine s_loop (fun z => [(0, .ref (G.2.1 76)), (1, .int a1), (2, .int z.1), (3, .int z.2)]) (fun z => m) (fun K2 hb2 hr2 z => ?_) FU (a2, a3)
  refine t_r_those_4b (K := K2) E hn a1 z.1 z.2 m hb2 (fun r => s_out (hr2 r) ?_)
  · refine s_iload_n 0 E dX12_those_40 rfl rfl ?_
    exact s_iret E rfl dX12_those_41
def r_those (a1 : Int32) (m : M) : Option (Int32) :=
  r_those_4 a1 (0 : Int32) (0 : Int32) m
set_option maxRecDepth 20000 in
theorem t_r_those {G : GG} {x : Cx} (E : En G x cX12_those "WreckBoardModel" 2 (some .int)) (hn : xn x = 4) (a1 : Int32) (m : M) : Sm G x 0 [(0, .ref (G.2.1 76)), (1, .int a1)] [] m (r_those a1 m) (KRi m) := by
  unfold r_those
  refine s_iconst (v := (0 : Int32)) E dX12_those_0 (by decide) ?_
  refine s_istore_n (lv' := [(0, .ref (G.2.1 76)), (1, .int a1), (2, .int (0 : Int32))]) [1, 2, 0] E dX12_those_1 rfl (by rw [hn]; decide) rfl ?_
  refine s_iconst (v := (0 : Int32)) E dX12_those_2 (by decide) ?_
  refine s_istore_n (lv' := [(0, .ref (G.2.1 76)), (1, .int a1), (2, .int (0 : Int32)), (3, .int (0 : Int32))]) [1, 2, 3, 0] E dX12_those_3 rfl (by rw [hn]; decide) rfl ?_
  exact t_r_those_4 E hn a1 (0 : Int32) (0 : Int32) m
set_option maxRecDepth 20000 in
theorem C_r_those (l : Launch) (G : GG) (a1 : Int32) (m : M) {z : Int32} (hz : r_those a1 m = some z) : Ct l G yX12_those cX12_those 4 (some .int) 2 [.ref (G.2.1 76), .int a1] m (some (.int z)) m :=
  ct_of (K := (KRi m)) (by decide) (Nat.le_of_ble_eq_true rfl) (congrArg (fun q => Option.bind q _) hz) (fun x hl hn E => (t_r_those E hn a1 m))
theorem mdX12_those : mdq yX12_those 1 := ⟨by decide, by decide, by decide +kernel⟩
theorem dX12_state_0 : decode cX12_state 0 = .ok (.iload_n 1, 1) := by decide +kernel
theorem dX12_state_1 : decode cX12_state 1 = .ok (.tableswitch 134 0 8 #[51, 58, 65, 72, 85, 91, 96, 103, 110], 51) := by decide +kernel
theorem dX12_state_52 : decode cX12_state 52 = .ok (.aload_n 0, 1) := by decide +kernel
theorem dX12_state_53 : decode cX12_state 53 = .ok (.getfield 9, 3) := by decide +kernel
theorem dX12_state_56 : decode cX12_state 56 = .ok (.iconst 0, 1) := by decide +kernel
theorem dX12_state_57 : decode cX12_state 57 = .ok (.iaload, 1) := by decide +kernel
theorem dX12_state_58 : decode cX12_state 58 = .ok (.ireturn, 1) := by decide +kernel
theorem dX12_state_59 : decode cX12_state 59 = .ok (.aload_n 0, 1) := by decide +kernel
theorem dX12_state_60 : decode cX12_state 60 = .ok (.getfield 9, 3) := by decide +kernel
theorem dX12_state_63 : decode cX12_state 63 = .ok (.iconst 1, 1) := by decide +kernel
theorem dX12_state_64 : decode cX12_state 64 = .ok (.iaload, 1) := by decide +kernel
theorem dX12_state_65 : decode cX12_state 65 = .ok (.ireturn, 1) := by decide +kernel
theorem dX12_state_66 : decode cX12_state 66 = .ok (.aload_n 0, 1) := by decide +kernel
theorem dX12_state_67 : decode cX12_state 67 = .ok (.getfield 9, 3) := by decide +kernel
theorem dX12_state_70 : decode cX12_state 70 = .ok (.iconst 2, 1) := by decide +kernel
theorem dX12_state_71 : decode cX12_state 71 = .ok (.iaload, 1) := by decide +kernel
theorem dX12_state_72 : decode cX12_state 72 = .ok (.ireturn, 1) := by decide +kernel
theorem dX12_state_73 : decode cX12_state 73 = .ok (.aload_n 0, 1) := by decide +kernel
theorem dX12_state_74 : decode cX12_state 74 = .ok (.invokevirtual 232, 3) := by decide +kernel
theorem dX12_state_77 : decode cX12_state 77 = .ok (.ifCond .eq 7, 3) := by decide +kernel
theorem dX12_state_80 : decode cX12_state 80 = .ok (.iconst 1, 1) := by decide +kernel
theorem dX12_state_81 : decode cX12_state 81 = .ok (.goto 4, 3) := by decide +kernel
theorem dX12_state_84 : decode cX12_state 84 = .ok (.iconst 0, 1) := by decide +kernel
theorem dX12_state_85 : decode cX12_state 85 = .ok (.ireturn, 1) := by decide +kernel
theorem dX12_state_86 : decode cX12_state 86 = .ok (.aload_n 0, 1) := by decide +kernel
theorem dX12_state_87 : decode cX12_state 87 = .ok (.iconst 4, 1) := by decide +kernel
theorem dX12_state_88 : decode cX12_state 88 = .ok (.invokevirtual 235, 3) := by decide +kernel
theorem dX12_state_91 : decode cX12_state 91 = .ok (.ireturn, 1) := by decide +kernel
theorem dX12_state_92 : decode cX12_state 92 = .ok (.aload_n 0, 1) := by decide +kernel
theorem dX12_state_93 : decode cX12_state 93 = .ok (.invokevirtual 83, 3) := by decide +kernel
theorem dX12_state_96 : decode cX12_state 96 = .ok (.ireturn, 1) := by decide +kernel
theorem dX12_state_97 : decode cX12_state 97 = .ok (.aload_n 0, 1) := by decide +kernel
theorem dX12_state_98 : decode cX12_state 98 = .ok (.getfield 9, 3) := by decide +kernel
theorem dX12_state_101 : decode cX12_state 101 = .ok (.iconst 3, 1) := by decide +kernel
theorem dX12_state_102 : decode cX12_state 102 = .ok (.iaload, 1) := by decide +kernel
theorem dX12_state_103 : decode cX12_state 103 = .ok (.ireturn, 1) := by decide +kernel
theorem dX12_state_104 : decode cX12_state 104 = .ok (.aload_n 0, 1) := by decide +kernel
theorem dX12_state_105 : decode cX12_state 105 = .ok (.getfield 9, 3) := by decide +kernel
theorem dX12_state_108 : decode cX12_state 108 = .ok (.iconst 4, 1) := by decide +kernel
theorem dX12_state_109 : decode cX12_state 109 = .ok (.iaload, 1) := by decide +kernel
theorem dX12_state_110 : decode cX12_state 110 = .ok (.ireturn, 1) := by decide +kernel
theorem dX12_state_111 : decode cX12_state 111 = .ok (.aload_n 0, 1) := by decide +kernel
theorem dX12_state_112 : decode cX12_state 112 = .ok (.invokevirtual 100, 3) := by decide +kernel
theorem dX12_state_115 : decode cX12_state 115 = .ok (.ifCond .le 7, 3) := by decide +kernel
theorem dX12_state_118 : decode cX12_state 118 = .ok (.iconst 2, 1) := by decide +kernel
theorem dX12_state_119 : decode cX12_state 119 = .ok (.goto 15, 3) := by decide +kernel
theorem dX12_state_122 : decode cX12_state 122 = .ok (.aload_n 0, 1) := by decide +kernel
theorem dX12_state_123 : decode cX12_state 123 = .ok (.invokevirtual 100, 3) := by decide +kernel
theorem dX12_state_126 : decode cX12_state 126 = .ok (.ifCond .ge 7, 3) := by decide +kernel
theorem dX12_state_129 : decode cX12_state 129 = .ok (.iconst 0, 1) := by decide +kernel
theorem dX12_state_130 : decode cX12_state 130 = .ok (.goto 4, 3) := by decide +kernel
theorem dX12_state_133 : decode cX12_state 133 = .ok (.iconst 1, 1) := by decide +kernel
theorem dX12_state_134 : decode cX12_state 134 = .ok (.ireturn, 1) := by decide +kernel
theorem dX12_state_135 : decode cX12_state 135 = .ok (.iconst (-1), 1) := by decide +kernel
theorem dX12_state_136 : decode cX12_state 136 = .ok (.ireturn, 1) := by decide +kernel
def r_state (a1 : Int32) (m : M) : Option (Int32) :=
  (if a1 = (0 : Int32) then Option.bind (rdI m 77 (0 : Int32)) (fun v1 => some v1) else (if a1 = (1 : Int32) then Option.bind (rdI m 77 (1 : Int32)) (fun v2 => some v2) else (if a1 = (2 : Int32) then Option.bind (rdI m 77 (2 : Int32)) (fun v3 => some v3) else (if a1 = (3 : Int32) then Option.bind (r_isOver m) (fun v4 => (if v4 = 0 then some (0 : Int32) else some (1 : Int32))) else (if a1 = (4 : Int32) then Option.bind (r_those (4 : Int32) m) (fun v5 => some v5) else (if a1 = (5 : Int32) then Option.bind (r_shipNow m) (fun v6 => some v6) else (if a1 = (6 : Int32) then Option.bind (rdI m 77 (3 : Int32)) (fun v7 => some v7) else (if a1 = (7 : Int32) then Option.bind (rdI m 77 (4 : Int32)) (fun v8 => some v8) else (if a1 = (8 : Int32) then Option.bind (r_theCount m) (fun v9 => (if v9 ≤ 0 then Option.bind (r_theCount m) (fun v10 => (if 0 ≤ v10 then some (1 : Int32) else some (0 : Int32))) else some (2 : Int32))) else some (-1 : Int32))))))))))
set_option maxRecDepth 20000 in
theorem t_r_state {G : GG} {x : Cx} (E : En G x cX12_state "WreckBoardModel" 5 (some .int)) (hn : xn x = 2) (a1 : Int32) (m : M) : Sm G x 0 [(0, .ref (G.2.1 76)), (1, .int a1)] [] m (r_state a1 m) (KRi m) := by
  unfold r_state
  refine s_iload_n 1 E dX12_state_0 rfl rfl ?_
  refine s_case (fun h1_0 => ?_) (fun h1_0 => ?_)
  · refine s_tabIn 52 E dX12_state_1 h1_0 (by decide) (by decide) rfl (by decide) ?_
    refine s_aload_n 0 E dX12_state_52 rfl rfl ?_
    refine s_getr (k := 0) (T := TX12) 76 E rfl rfl rfl inX12 (by decide) W1239 dX12_state_53 ?_
    refine s_iconst (v := (0 : Int32)) E dX12_state_56 (by decide) ?_
    refine s_iald E dX12_state_57 (fun v1 => ?_)
    exact s_iret E rfl dX12_state_58
  · refine s_case (fun h1_1 => ?_) (fun h1_1 => ?_)
    · refine s_tabIn 59 E dX12_state_1 h1_1 (by decide) (by decide) rfl (by decide) ?_
      refine s_aload_n 0 E dX12_state_59 rfl rfl ?_
      refine s_getr (k := 0) (T := TX12) 76 E rfl rfl rfl inX12 (by decide) W1239 dX12_state_60 ?_
      refine s_iconst (v := (1 : Int32)) E dX12_state_63 (by decide) ?_
      refine s_iald E dX12_state_64 (fun v2 => ?_)
      exact s_iret E rfl dX12_state_65
    · refine s_case (fun h1_2 => ?_) (fun h1_2 => ?_)
      · refine s_tabIn 66 E dX12_state_1 h1_2 (by decide) (by decide) rfl (by decide) ?_
        refine s_aload_n 0 E dX12_state_66 rfl rfl ?_
        refine s_getr (k := 0) (T := TX12) 76 E rfl rfl rfl inX12 (by decide) W1239 dX12_state_67 ?_
        refine s_iconst (v := (2 : Int32)) E dX12_state_70 (by decide) ?_
        refine s_iald E dX12_state_71 (fun v3 => ?_)
        exact s_iret E rfl dX12_state_72
      · refine s_case (fun h1_3 => ?_) (fun h1_3 => ?_)
        · refine s_tabIn 73 E dX12_state_1 h1_3 (by decide) (by decide) rfl (by decide) ?_
          refine s_aload_n 0 E dX12_state_73 rfl rfl ?_
          refine s_bd (fun v4 hz => ?_)
          refine s_cV (rest := []) E (C_r_isOver (xl x) G  m hz) mdX12_isOver W1545 W1547 W57 W103 W1548 rfl rfl rfl rfl (Nat.le_of_ble_eq_true rfl) ⟨by decide, by decide⟩ dX12_state_74 ?_
          refine s_if_eq 84 E dX12_state_77 (by decide) ?_ ?_
          · refine s_iconst (v := (0 : Int32)) E dX12_state_84 (by decide) ?_
            exact s_iret E rfl dX12_state_85
          · refine s_iconst (v := (1 : Int32)) E dX12_state_80 (by decide) ?_
            refine s_goto 85 E dX12_state_81 (by decide) ?_
            exact s_iret E rfl dX12_state_85
        · refine s_case (fun h1_4 => ?_) (fun h1_4 => ?_)
          · refine s_tabIn 86 E dX12_state_1 h1_4 (by decide) (by decide) rfl (by decide) ?_
            refine s_aload_n 0 E dX12_state_86 rfl rfl ?_
            refine s_iconst (v := (4 : Int32)) E dX12_state_87 (by decide) ?_
            refine s_bd (fun v5 hz => ?_)
            refine s_cV (rest := []) E (C_r_those (xl x) G (4 : Int32) m hz) mdX12_those W1549 W1551 W58 W103 W1552 rfl rfl rfl rfl (Nat.le_of_ble_eq_true rfl) ⟨by decide, by decide⟩ dX12_state_88 ?_
            exact s_iret E rfl dX12_state_91
          · refine s_case (fun h1_5 => ?_) (fun h1_5 => ?_)
            · refine s_tabIn 92 E dX12_state_1 h1_5 (by decide) (by decide) rfl (by decide) ?_
              refine s_aload_n 0 E dX12_state_92 rfl rfl ?_
              refine s_bd (fun v6 hz => ?_)
              refine s_cV (rest := []) E (C_r_shipNow (xl x) G  m hz) mdX12_shipNow W1457 W1459 W47 W103 W1460 rfl rfl rfl rfl (Nat.le_of_ble_eq_true rfl) ⟨by decide, by decide⟩ dX12_state_93 ?_
              exact s_iret E rfl dX12_state_96
            · refine s_case (fun h1_6 => ?_) (fun h1_6 => ?_)
              · refine s_tabIn 97 E dX12_state_1 h1_6 (by decide) (by decide) rfl (by decide) ?_
                refine s_aload_n 0 E dX12_state_97 rfl rfl ?_
                refine s_getr (k := 0) (T := TX12) 76 E rfl rfl rfl inX12 (by decide) W1239 dX12_state_98 ?_
                refine s_iconst (v := (3 : Int32)) E dX12_state_101 (by decide) ?_
                refine s_iald E dX12_state_102 (fun v7 => ?_)
                exact s_iret E rfl dX12_state_103
              · refine s_case (fun h1_7 => ?_) (fun h1_7 => ?_)
                · refine s_tabIn 104 E dX12_state_1 h1_7 (by decide) (by decide) rfl (by decide) ?_
                  refine s_aload_n 0 E dX12_state_104 rfl rfl ?_
                  refine s_getr (k := 0) (T := TX12) 76 E rfl rfl rfl inX12 (by decide) W1239 dX12_state_105 ?_
                  refine s_iconst (v := (4 : Int32)) E dX12_state_108 (by decide) ?_
                  refine s_iald E dX12_state_109 (fun v8 => ?_)
                  exact s_iret E rfl dX12_state_110
                · refine s_case (fun h1_8 => ?_) (fun h1_8 => ?_)
                  · refine s_tabIn 111 E dX12_state_1 h1_8 (by decide) (by decide) rfl (by decide) ?_
                    refine s_aload_n 0 E dX12_state_111 rfl rfl ?_
                    refine s_bd (fun v9 hz => ?_)
                    refine s_cV (rest := []) E (C_r_theCount (xl x) G  m hz) mdX12_theCount W1501 W1503 W55 W103 W1504 rfl rfl rfl rfl (Nat.le_of_ble_eq_true rfl) ⟨by decide, by decide⟩ dX12_state_112 ?_
                    refine s_if_le 122 E dX12_state_115 (by decide) ?_ ?_
                    · refine s_aload_n 0 E dX12_state_122 rfl rfl ?_
                      refine s_bd (fun v10 hz => ?_)
                      refine s_cV (rest := []) E (C_r_theCount (xl x) G  m hz) mdX12_theCount W1501 W1503 W55 W103 W1504 rfl rfl rfl rfl (Nat.le_of_ble_eq_true rfl) ⟨by decide, by decide⟩ dX12_state_123 ?_
                      refine s_if_ge 133 E dX12_state_126 (by decide) ?_ ?_
                      · refine s_iconst (v := (1 : Int32)) E dX12_state_133 (by decide) ?_
                        exact s_iret E rfl dX12_state_134
                      · refine s_iconst (v := (0 : Int32)) E dX12_state_129 (by decide) ?_
                        refine s_goto 134 E dX12_state_130 (by decide) ?_
                        exact s_iret E rfl dX12_state_134
                    · refine s_iconst (v := (2 : Int32)) E dX12_state_118 (by decide) ?_
                      refine s_goto 134 E dX12_state_119 (by decide) ?_
                      exact s_iret E rfl dX12_state_134
                  · refine s_tabOut 135 E dX12_state_1 (by have e0 := ne_toIntK h1_0 (k := 0) (by decide); have e1 := ne_toIntK h1_1 (k := 1) (by decide); have e2 := ne_toIntK h1_2 (k := 2) (by decide); have e3 := ne_toIntK h1_3 (k := 3) (by decide); have e4 := ne_toIntK h1_4 (k := 4) (by decide); have e5 := ne_toIntK h1_5 (k := 5) (by decide); have e6 := ne_toIntK h1_6 (k := 6) (by decide); have e7 := ne_toIntK h1_7 (k := 7) (by decide); have e8 := ne_toIntK h1_8 (k := 8) (by decide); omega) (by decide) ?_
                    refine s_iconst (v := (-1 : Int32)) E dX12_state_135 (by decide) ?_
                    exact s_iret E rfl dX12_state_136
set_option maxRecDepth 20000 in
theorem C_r_state (l : Launch) (G : GG) (a1 : Int32) (m : M) {z : Int32} (hz : r_state a1 m = some z) : Ct l G yX12_state cX12_state 2 (some .int) 5 [.ref (G.2.1 76), .int a1] m (some (.int z)) m :=
  ct_of (K := (KRi m)) (by decide) (Nat.le_of_ble_eq_true rfl) (congrArg (fun q => Option.bind q _) hz) (fun x hl hn E => (t_r_state E hn a1 m))
theorem dX12_isLost_0 : decode cX12_isLost 0 = .ok (.iload_n 0, 1) := by decide +kernel
theorem dX12_isLost_1 : decode cX12_isLost 1 = .ok (.iconst 4, 1) := by decide +kernel
theorem dX12_isLost_2 : decode cX12_isLost 2 = .ok (.idiv, 1) := by decide +kernel
theorem dX12_isLost_3 : decode cX12_isLost 3 = .ok (.ifCond .le 16, 3) := by decide +kernel
theorem dX12_isLost_6 : decode cX12_isLost 6 = .ok (.iload_n 1, 1) := by decide +kernel
theorem dX12_isLost_7 : decode cX12_isLost 7 = .ok (.iconst 3, 1) := by decide +kernel
theorem dX12_isLost_8 : decode cX12_isLost 8 = .ok (.iload_n 0, 1) := by decide +kernel
theorem dX12_isLost_9 : decode cX12_isLost 9 = .ok (.iconst 4, 1) := by decide +kernel
theorem dX12_isLost_10 : decode cX12_isLost 10 = .ok (.irem, 1) := by decide +kernel
theorem dX12_isLost_11 : decode cX12_isLost 11 = .ok (.imul, 1) := by decide +kernel
theorem dX12_isLost_12 : decode cX12_isLost 12 = .ok (.if_icmp .ge 7, 3) := by decide +kernel
theorem dX12_isLost_15 : decode cX12_isLost 15 = .ok (.iconst 1, 1) := by decide +kernel
theorem dX12_isLost_16 : decode cX12_isLost 16 = .ok (.goto 4, 3) := by decide +kernel
theorem dX12_isLost_19 : decode cX12_isLost 19 = .ok (.iconst 0, 1) := by decide +kernel
theorem dX12_isLost_20 : decode cX12_isLost 20 = .ok (.ireturn, 1) := by decide +kernel
def r_isLost (a0 : Int32) (a1 : Int32) (m : M) : Option (Int32) :=
  (if (a0 / (4 : Int32)) ≤ 0 then some (0 : Int32) else (if ((3 : Int32) * (a0 - a0 / (4 : Int32) * (4 : Int32))) ≤ a1 then some (0 : Int32) else some (1 : Int32)))
set_option maxRecDepth 20000 in
theorem t_r_isLost {G : GG} {x : Cx} (E : En G x cX12_isLost "WreckBoardModel" 1 (some .boolean)) (hn : xn x = 2) (a0 : Int32) (a1 : Int32) (m : M) : Sm G x 0 [(0, .int a0), (1, .int a1)] [] m (r_isLost a0 a1 m) (KRi m) := by
  unfold r_isLost
  refine s_iload_n 0 E dX12_isLost_0 rfl rfl ?_
  refine s_iconst (v := (4 : Int32)) E dX12_isLost_1 (by decide) ?_
  refine s_idivc E dX12_isLost_2 (by decide) ?_
  refine s_if_le 19 E dX12_isLost_3 (by decide) ?_ ?_
  · refine s_iconst (v := (0 : Int32)) E dX12_isLost_19 (by decide) ?_
    exact s_zret E (by decide) rfl dX12_isLost_20
  · refine s_iload_n 1 E dX12_isLost_6 rfl rfl ?_
    refine s_iconst (v := (3 : Int32)) E dX12_isLost_7 (by decide) ?_
    refine s_iload_n 0 E dX12_isLost_8 rfl rfl ?_
    refine s_iconst (v := (4 : Int32)) E dX12_isLost_9 (by decide) ?_
    refine s_iremc E dX12_isLost_10 (by decide) ?_
    refine s_imul E dX12_isLost_11 ?_
    refine s_icmp_ge 19 E dX12_isLost_12 (by decide) ?_ ?_
    · refine s_iconst (v := (0 : Int32)) E dX12_isLost_19 (by decide) ?_
      exact s_zret E (by decide) rfl dX12_isLost_20
    · refine s_iconst (v := (1 : Int32)) E dX12_isLost_15 (by decide) ?_
      refine s_goto 20 E dX12_isLost_16 (by decide) ?_
      exact s_zret E (by decide) rfl dX12_isLost_20
set_option maxRecDepth 20000 in
theorem C_r_isLost (l : Launch) (G : GG) (a0 : Int32) (a1 : Int32) (m : M) {z : Int32} (hz : r_isLost a0 a1 m = some z) : Ct l G yX12_isLost cX12_isLost 2 (some .boolean) 1 [.int a0, .int a1] m (some (.int z)) m :=
  ct_of (K := (KRi m)) (by decide) (Nat.le_of_ble_eq_true rfl) (congrArg (fun q => Option.bind q _) hz) (fun x hl hn E => (t_r_isLost E hn a0 a1 m))
theorem mdX12_isLost : mdq yX12_isLost 2 := ⟨by decide, by decide, by decide +kernel⟩
theorem dX12_held_0 : decode cX12_held 0 = .ok (.iload_n 0, 1) := by decide +kernel
theorem dX12_held_1 : decode cX12_held 1 = .ok (.ifCond .ge 7, 3) := by decide +kernel
theorem dX12_held_4 : decode cX12_held 4 = .ok (.iconst 0, 1) := by decide +kernel
theorem dX12_held_5 : decode cX12_held 5 = .ok (.goto 13, 3) := by decide +kernel
theorem dX12_held_8 : decode cX12_held 8 = .ok (.iload_n 0, 1) := by decide +kernel
theorem dX12_held_9 : decode cX12_held 9 = .ok (.iload_n 1, 1) := by decide +kernel
theorem dX12_held_10 : decode cX12_held 10 = .ok (.if_icmp .le 7, 3) := by decide +kernel
theorem dX12_held_13 : decode cX12_held 13 = .ok (.iload_n 1, 1) := by decide +kernel
theorem dX12_held_14 : decode cX12_held 14 = .ok (.goto 4, 3) := by decide +kernel
theorem dX12_held_17 : decode cX12_held 17 = .ok (.iload_n 0, 1) := by decide +kernel
theorem dX12_held_18 : decode cX12_held 18 = .ok (.ireturn, 1) := by decide +kernel
def r_held (a0 : Int32) (a1 : Int32) (m : M) : Option (Int32) :=
  (if 0 ≤ a0 then (if a0 ≤ a1 then some a0 else some a1) else some (0 : Int32))
set_option maxRecDepth 20000 in
theorem t_r_held {G : GG} {x : Cx} (E : En G x cX12_held "WreckBoardModel" 1 (some .int)) (hn : xn x = 2) (a0 : Int32) (a1 : Int32) (m : M) : Sm G x 0 [(0, .int a0), (1, .int a1)] [] m (r_held a0 a1 m) (KRi m) := by
  unfold r_held
  refine s_iload_n 0 E dX12_held_0 rfl rfl ?_
  refine s_if_ge 8 E dX12_held_1 (by decide) ?_ ?_
  · refine s_iload_n 0 E dX12_held_8 rfl rfl ?_
    refine s_iload_n 1 E dX12_held_9 rfl rfl ?_
    refine s_icmp_le 17 E dX12_held_10 (by decide) ?_ ?_
    · refine s_iload_n 0 E dX12_held_17 rfl rfl ?_
      exact s_iret E rfl dX12_held_18
    · refine s_iload_n 1 E dX12_held_13 rfl rfl ?_
      refine s_goto 18 E dX12_held_14 (by decide) ?_
      exact s_iret E rfl dX12_held_18
  · refine s_iconst (v := (0 : Int32)) E dX12_held_4 (by decide) ?_
    refine s_goto 18 E dX12_held_5 (by decide) ?_
    exact s_iret E rfl dX12_held_18
set_option maxRecDepth 20000 in
theorem C_r_held (l : Launch) (G : GG) (a0 : Int32) (a1 : Int32) (m : M) {z : Int32} (hz : r_held a0 a1 m = some z) : Ct l G yX12_held cX12_held 2 (some .int) 1 [.int a0, .int a1] m (some (.int z)) m :=
  ct_of (K := (KRi m)) (by decide) (Nat.le_of_ble_eq_true rfl) (congrArg (fun q => Option.bind q _) hz) (fun x hl hn E => (t_r_held E hn a0 a1 m))
theorem mdX12_held : mdq yX12_held 2 := ⟨by decide, by decide, by decide +kernel⟩
theorem dX12_nearer_0 : decode cX12_nearer 0 = .ok (.iload_n 0, 1) := by decide +kernel
theorem dX12_nearer_1 : decode cX12_nearer 1 = .ok (.iconst 5, 1) := by decide +kernel
theorem dX12_nearer_2 : decode cX12_nearer 2 = .ok (.if_icmp .ge 9, 3) := by decide +kernel
theorem dX12_nearer_5 : decode cX12_nearer 5 = .ok (.iload_n 0, 1) := by decide +kernel
theorem dX12_nearer_6 : decode cX12_nearer 6 = .ok (.iconst 1, 1) := by decide +kernel
theorem dX12_nearer_7 : decode cX12_nearer 7 = .ok (.iadd, 1) := by decide +kernel
theorem dX12_nearer_8 : decode cX12_nearer 8 = .ok (.goto 15, 3) := by decide +kernel
theorem dX12_nearer_11 : decode cX12_nearer 11 = .ok (.iload_n 0, 1) := by decide +kernel
theorem dX12_nearer_12 : decode cX12_nearer 12 = .ok (.iconst 5, 1) := by decide +kernel
theorem dX12_nearer_13 : decode cX12_nearer 13 = .ok (.if_icmp .le 9, 3) := by decide +kernel
theorem dX12_nearer_16 : decode cX12_nearer 16 = .ok (.iload_n 0, 1) := by decide +kernel
theorem dX12_nearer_17 : decode cX12_nearer 17 = .ok (.iconst 1, 1) := by decide +kernel
theorem dX12_nearer_18 : decode cX12_nearer 18 = .ok (.isub, 1) := by decide +kernel
theorem dX12_nearer_19 : decode cX12_nearer 19 = .ok (.goto 4, 3) := by decide +kernel
theorem dX12_nearer_22 : decode cX12_nearer 22 = .ok (.iconst 5, 1) := by decide +kernel
theorem dX12_nearer_23 : decode cX12_nearer 23 = .ok (.ireturn, 1) := by decide +kernel
def r_nearer (a0 : Int32) (m : M) : Option (Int32) :=
  (if (5 : Int32) ≤ a0 then (if a0 ≤ (5 : Int32) then some (5 : Int32) else some (a0 - (1 : Int32))) else some (a0 + (1 : Int32)))
set_option maxRecDepth 20000 in
theorem t_r_nearer {G : GG} {x : Cx} (E : En G x cX12_nearer "WreckBoardModel" 1 (some .int)) (hn : xn x = 1) (a0 : Int32) (m : M) : Sm G x 0 [(0, .int a0)] [] m (r_nearer a0 m) (KRi m) := by
  unfold r_nearer
  refine s_iload_n 0 E dX12_nearer_0 rfl rfl ?_
  refine s_iconst (v := (5 : Int32)) E dX12_nearer_1 (by decide) ?_
  refine s_icmp_ge 11 E dX12_nearer_2 (by decide) ?_ ?_
  · refine s_iload_n 0 E dX12_nearer_11 rfl rfl ?_
    refine s_iconst (v := (5 : Int32)) E dX12_nearer_12 (by decide) ?_
    refine s_icmp_le 22 E dX12_nearer_13 (by decide) ?_ ?_
    · refine s_iconst (v := (5 : Int32)) E dX12_nearer_22 (by decide) ?_
      exact s_iret E rfl dX12_nearer_23
    · refine s_iload_n 0 E dX12_nearer_16 rfl rfl ?_
      refine s_iconst (v := (1 : Int32)) E dX12_nearer_17 (by decide) ?_
      refine s_isub E dX12_nearer_18 ?_
      refine s_goto 23 E dX12_nearer_19 (by decide) ?_
      exact s_iret E rfl dX12_nearer_23
  · refine s_iload_n 0 E dX12_nearer_5 rfl rfl ?_
    refine s_iconst (v := (1 : Int32)) E dX12_nearer_6 (by decide) ?_
    refine s_iadd E dX12_nearer_7 ?_
    refine s_goto 23 E dX12_nearer_8 (by decide) ?_
    exact s_iret E rfl dX12_nearer_23
set_option maxRecDepth 20000 in
theorem C_r_nearer (l : Launch) (G : GG) (a0 : Int32) (m : M) {z : Int32} (hz : r_nearer a0 m = some z) : Ct l G yX12_nearer cX12_nearer 1 (some .int) 1 [.int a0] m (some (.int z)) m :=
  ct_of (K := (KRi m)) (by decide) (Nat.le_of_ble_eq_true rfl) (congrArg (fun q => Option.bind q _) hz) (fun x hl hn E => (t_r_nearer E hn a0 m))
theorem mdX12_nearer : mdq yX12_nearer 1 := ⟨by decide, by decide, by decide +kernel⟩
theorem dX12_movesFor_0 : decode cX12_movesFor 0 = .ok (.aload_n 0, 1) := by decide +kernel
theorem dX12_movesFor_1 : decode cX12_movesFor 1 = .ok (.iload_n 1, 1) := by decide +kernel
theorem dX12_movesFor_2 : decode cX12_movesFor 2 = .ok (.invokevirtual 103, 3) := by decide +kernel
theorem dX12_movesFor_5 : decode cX12_movesFor 5 = .ok (.istore_n 2, 1) := by decide +kernel
theorem dX12_movesFor_6 : decode cX12_movesFor 6 = .ok (.iload_n 2, 1) := by decide +kernel
theorem dX12_movesFor_7 : decode cX12_movesFor 7 = .ok (.iconst 1, 1) := by decide +kernel
theorem dX12_movesFor_8 : decode cX12_movesFor 8 = .ok (.if_icmp .ne 5, 3) := by decide +kernel
theorem dX12_movesFor_11 : decode cX12_movesFor 11 = .ok (.iconst 0, 1) := by decide +kernel
theorem dX12_movesFor_12 : decode cX12_movesFor 12 = .ok (.ireturn, 1) := by decide +kernel
theorem dX12_movesFor_13 : decode cX12_movesFor 13 = .ok (.aload_n 0, 1) := by decide +kernel
theorem dX12_movesFor_14 : decode cX12_movesFor 14 = .ok (.iload_n 2, 1) := by decide +kernel
theorem dX12_movesFor_15 : decode cX12_movesFor 15 = .ok (.invokevirtual 106, 3) := by decide +kernel
theorem dX12_movesFor_18 : decode cX12_movesFor 18 = .ok (.ifCond .ne 24, 3) := by decide +kernel
theorem dX12_movesFor_21 : decode cX12_movesFor 21 = .ok (.aload_n 0, 1) := by decide +kernel
theorem dX12_movesFor_22 : decode cX12_movesFor 22 = .ok (.iload_n 1, 1) := by decide +kernel
theorem dX12_movesFor_23 : decode cX12_movesFor 23 = .ok (.iconst 1, 1) := by decide +kernel
theorem dX12_movesFor_24 : decode cX12_movesFor 24 = .ok (.aload_n 0, 1) := by decide +kernel
theorem dX12_movesFor_25 : decode cX12_movesFor 25 = .ok (.iload_n 1, 1) := by decide +kernel
theorem dX12_movesFor_26 : decode cX12_movesFor 26 = .ok (.iconst 1, 1) := by decide +kernel
theorem dX12_movesFor_27 : decode cX12_movesFor 27 = .ok (.invokevirtual 79, 3) := by decide +kernel
theorem dX12_movesFor_30 : decode cX12_movesFor 30 = .ok (.iconst 1, 1) := by decide +kernel
theorem dX12_movesFor_31 : decode cX12_movesFor 31 = .ok (.isub, 1) := by decide +kernel
theorem dX12_movesFor_32 : decode cX12_movesFor 32 = .ok (.bipush 9, 2) := by decide +kernel
theorem dX12_movesFor_34 : decode cX12_movesFor 34 = .ok (.invokestatic 195, 3) := by decide +kernel
theorem dX12_movesFor_37 : decode cX12_movesFor 37 = .ok (.invokevirtual 198, 3) := by decide +kernel
theorem dX12_movesFor_40 : decode cX12_movesFor 40 = .ok (.iconst 0, 1) := by decide +kernel
theorem dX12_movesFor_41 : decode cX12_movesFor 41 = .ok (.ireturn, 1) := by decide +kernel
theorem dX12_movesFor_42 : decode cX12_movesFor 42 = .ok (.aload_n 0, 1) := by decide +kernel
theorem dX12_movesFor_43 : decode cX12_movesFor 43 = .ok (.getfield 9, 3) := by decide +kernel
theorem dX12_movesFor_46 : decode cX12_movesFor 46 = .ok (.iconst 3, 1) := by decide +kernel
theorem dX12_movesFor_47 : decode cX12_movesFor 47 = .ok (.iload_n 2, 1) := by decide +kernel
theorem dX12_movesFor_48 : decode cX12_movesFor 48 = .ok (.ifCond .ne 14, 3) := by decide +kernel
theorem dX12_movesFor_51 : decode cX12_movesFor 51 = .ok (.aload_n 0, 1) := by decide +kernel
theorem dX12_movesFor_52 : decode cX12_movesFor 52 = .ok (.getfield 9, 3) := by decide +kernel
theorem dX12_movesFor_55 : decode cX12_movesFor 55 = .ok (.iconst 3, 1) := by decide +kernel
theorem dX12_movesFor_56 : decode cX12_movesFor 56 = .ok (.iaload, 1) := by decide +kernel
theorem dX12_movesFor_57 : decode cX12_movesFor 57 = .ok (.iconst 2, 1) := by decide +kernel
theorem dX12_movesFor_58 : decode cX12_movesFor 58 = .ok (.isub, 1) := by decide +kernel
theorem dX12_movesFor_59 : decode cX12_movesFor 59 = .ok (.goto 11, 3) := by decide +kernel
theorem dX12_movesFor_62 : decode cX12_movesFor 62 = .ok (.aload_n 0, 1) := by decide +kernel
theorem dX12_movesFor_63 : decode cX12_movesFor 63 = .ok (.getfield 9, 3) := by decide +kernel
theorem dX12_movesFor_66 : decode cX12_movesFor 66 = .ok (.iconst 3, 1) := by decide +kernel
theorem dX12_movesFor_67 : decode cX12_movesFor 67 = .ok (.iaload, 1) := by decide +kernel
theorem dX12_movesFor_68 : decode cX12_movesFor 68 = .ok (.iconst 2, 1) := by decide +kernel
theorem dX12_movesFor_69 : decode cX12_movesFor 69 = .ok (.iadd, 1) := by decide +kernel
theorem dX12_movesFor_70 : decode cX12_movesFor 70 = .ok (.bipush 9, 2) := by decide +kernel
theorem dX12_movesFor_72 : decode cX12_movesFor 72 = .ok (.invokestatic 195, 3) := by decide +kernel
theorem dX12_movesFor_75 : decode cX12_movesFor 75 = .ok (.iastore, 1) := by decide +kernel
theorem dX12_movesFor_76 : decode cX12_movesFor 76 = .ok (.aload_n 0, 1) := by decide +kernel
theorem dX12_movesFor_77 : decode cX12_movesFor 77 = .ok (.iload_n 1, 1) := by decide +kernel
theorem dX12_movesFor_78 : decode cX12_movesFor 78 = .ok (.iconst 4, 1) := by decide +kernel
theorem dX12_movesFor_79 : decode cX12_movesFor 79 = .ok (.iconst 1, 1) := by decide +kernel
theorem dX12_movesFor_80 : decode cX12_movesFor 80 = .ok (.invokevirtual 198, 3) := by decide +kernel
theorem dX12_movesFor_83 : decode cX12_movesFor 83 = .ok (.iconst 2, 1) := by decide +kernel
theorem dX12_movesFor_84 : decode cX12_movesFor 84 = .ok (.ireturn, 1) := by decide +kernel
def r_movesFor_70 (a1 : Int32) (s2 : Int32) (m : M) : Option (Int32 × M) :=
  Option.bind (r_held s2 (9 : Int32) m) (fun v1 => Option.bind (wrI m 77 (3 : Int32) v1) (fun m2 => Option.bind (r_puts a1 (4 : Int32) (1 : Int32) m2) (fun m3 => some ((2 : Int32), m3))))
set_option maxRecDepth 20000 in
theorem t_r_movesFor_70 {G : GG} {x : Cx} (E : En G x cX12_movesFor "WreckBoardModel" 6 (some .int)) (hn : xn x = 3) (a1 : Int32) (s2 : Int32) (m : M) : Sm G x 70 [(0, .ref (G.2.1 76)), (1, .int a1)] [.int s2, .int (3 : Int32), .ref (G.2.1 77)] m (r_movesFor_70 a1 s2 m) KWi := by
  unfold r_movesFor_70
  refine s_bipush (v := (9 : Int32)) E dX12_movesFor_70 (by decide) ?_
  refine s_bd (fun v1 hz => ?_)
  refine s_cS (rest := [.int (3 : Int32), .ref (G.2.1 77)]) E (C_r_held (xl x) G s2 (9 : Int32) m hz) mdX12_held W1569 W1570 W103 W1571 rfl rfl (Nat.le_of_ble_eq_true rfl) ⟨by decide, by decide⟩ dX12_movesFor_72 ?_
  refine s_iast E dX12_movesFor_75 (fun m2 => ?_)
  refine s_aload_n 0 E dX12_movesFor_76 rfl rfl ?_
  refine s_iload_n 1 E dX12_movesFor_77 rfl rfl ?_
  refine s_iconst (v := (4 : Int32)) E dX12_movesFor_78 (by decide) ?_
  refine s_iconst (v := (1 : Int32)) E dX12_movesFor_79 (by decide) ?_
  refine s_bd (fun m3 hz => ?_)
  refine s_cV (rest := []) E (C_r_puts (xl x) G a1 (4 : Int32) (1 : Int32) m2 hz) mdX12_puts W1433 W1435 W42 W103 W1436 rfl rfl rfl rfl (Nat.le_of_ble_eq_true rfl) ⟨by decide, by decide⟩ dX12_movesFor_80 ?_
  refine s_iconst (v := (2 : Int32)) E dX12_movesFor_83 (by decide) ?_
  exact s_iret E rfl dX12_movesFor_84
def r_movesFor (a1 : Int32) (m : M) : Option (Int32 × M) :=
  Option.bind (r_willOf a1 m) (fun z1 => (if z1.1 = (1 : Int32) then some ((0 : Int32), z1.2) else Option.bind (r_isCarried z1.1 z1.2) (fun v2 => (if v2 = 0 then Option.bind (r_get a1 (1 : Int32) z1.2) (fun v5 => Option.bind (r_held (v5 - (1 : Int32)) (9 : Int32) z1.2) (fun v6 => Option.bind (r_puts a1 (1 : Int32) v6 z1.2) (fun m7 => some ((0 : Int32), m7)))) else (if z1.1 = 0 then Option.bind (rdI z1.2 77 (3 : Int32)) (fun v4 => r_movesFor_70 a1 (v4 - (2 : Int32)) z1.2) else Option.bind (rdI z1.2 77 (3 : Int32)) (fun v3 => r_movesFor_70 a1 (v3 + (2 : Int32)) z1.2))))))
set_option maxRecDepth 20000 in
theorem t_r_movesFor {G : GG} {x : Cx} (E : En G x cX12_movesFor "WreckBoardModel" 6 (some .int)) (hn : xn x = 3) (a1 : Int32) (m : M) : Sm G x 0 [(0, .ref (G.2.1 76)), (1, .int a1)] [] m (r_movesFor a1 m) KWi := by
  unfold r_movesFor
  refine s_aload_n 0 E dX12_movesFor_0 rfl rfl ?_
  refine s_iload_n 1 E dX12_movesFor_1 rfl rfl ?_
  refine s_bd (fun z1 hz => ?_)
  refine s_cV (rest := []) E (C_r_willOf (xl x) G a1 m hz) mdX12_willOf W1472 W1474 W50 W103 W1475 rfl rfl rfl rfl (Nat.le_of_ble_eq_true rfl) ⟨by decide, by decide⟩ dX12_movesFor_2 ?_
  refine s_istore_n (lv' := [(0, .ref (G.2.1 76)), (1, .int a1), (2, .int z1.1)]) [1, 2, 0] E dX12_movesFor_5 rfl (by rw [hn]; decide) rfl ?_
  refine s_iload_n 2 E dX12_movesFor_6 rfl rfl ?_
  refine s_iconst (v := (1 : Int32)) E dX12_movesFor_7 (by decide) ?_
  refine s_icmp_ne 13 E dX12_movesFor_8 (by decide) ?_ ?_
  · refine s_aload_n 0 E dX12_movesFor_13 rfl rfl ?_
    refine s_iload_n 2 E dX12_movesFor_14 rfl rfl ?_
    refine s_bd (fun v2 hz => ?_)
    refine s_cV (rest := []) E (C_r_isCarried (xl x) G z1.1 z1.2 hz) mdX12_isCarried W1497 W1499 W54 W103 W1500 rfl rfl rfl rfl (Nat.le_of_ble_eq_true rfl) ⟨by decide, by decide⟩ dX12_movesFor_15 ?_
    refine s_if_ne 42 E dX12_movesFor_18 (by decide) ?_ ?_
    · refine s_aload_n 0 E dX12_movesFor_42 rfl rfl ?_
      refine s_getr (k := 0) (T := TX12) 76 E rfl rfl rfl inX12 (by decide) W1239 dX12_movesFor_43 ?_
      refine s_iconst (v := (3 : Int32)) E dX12_movesFor_46 (by decide) ?_
      refine s_iload_n 2 E dX12_movesFor_47 rfl rfl ?_
      refine s_if_ne 62 E dX12_movesFor_48 (by decide) ?_ ?_
      · refine s_aload_n 0 E dX12_movesFor_62 rfl rfl ?_
        refine s_getr (k := 0) (T := TX12) 76 E rfl rfl rfl inX12 (by decide) W1239 dX12_movesFor_63 ?_
        refine s_iconst (v := (3 : Int32)) E dX12_movesFor_66 (by decide) ?_
        refine s_iald E dX12_movesFor_67 (fun v3 => ?_)
        refine s_iconst (v := (2 : Int32)) E dX12_movesFor_68 (by decide) ?_
        refine s_iadd E dX12_movesFor_69 ?_
        refine s_sub (lv' := [(0, .ref (G.2.1 76)), (1, .int a1)]) [0, 1] rfl ?_
        exact t_r_movesFor_70 E hn a1 (v3 + (2 : Int32)) z1.2
      · refine s_aload_n 0 E dX12_movesFor_51 rfl rfl ?_
        refine s_getr (k := 0) (T := TX12) 76 E rfl rfl rfl inX12 (by decide) W1239 dX12_movesFor_52 ?_
        refine s_iconst (v := (3 : Int32)) E dX12_movesFor_55 (by decide) ?_
        refine s_iald E dX12_movesFor_56 (fun v4 => ?_)
        refine s_iconst (v := (2 : Int32)) E dX12_movesFor_57 (by decide) ?_
        refine s_isub E dX12_movesFor_58 ?_
        refine s_goto 70 E dX12_movesFor_59 (by decide) ?_
        refine s_sub (lv' := [(0, .ref (G.2.1 76)), (1, .int a1)]) [0, 1] rfl ?_
        exact t_r_movesFor_70 E hn a1 (v4 - (2 : Int32)) z1.2
    · refine s_aload_n 0 E dX12_movesFor_21 rfl rfl ?_
      refine s_iload_n 1 E dX12_movesFor_22 rfl rfl ?_
      refine s_iconst (v := (1 : Int32)) E dX12_movesFor_23 (by decide) ?_
      refine s_aload_n 0 E dX12_movesFor_24 rfl rfl ?_
      refine s_iload_n 1 E dX12_movesFor_25 rfl rfl ?_
      refine s_iconst (v := (1 : Int32)) E dX12_movesFor_26 (by decide) ?_
      refine s_bd (fun v5 hz => ?_)
      refine s_cV (rest := [.int (1 : Int32), .int a1, .ref (G.2.1 76)]) E (C_r_get (xl x) G a1 (1 : Int32) z1.2 hz) mdX12_get W1453 W1455 W46 W103 W1456 rfl rfl rfl rfl (Nat.le_of_ble_eq_true rfl) ⟨by decide, by decide⟩ dX12_movesFor_27 ?_
      refine s_iconst (v := (1 : Int32)) E dX12_movesFor_30 (by decide) ?_
      refine s_isub E dX12_movesFor_31 ?_
      refine s_bipush (v := (9 : Int32)) E dX12_movesFor_32 (by decide) ?_
      refine s_bd (fun v6 hz => ?_)
      refine s_cS (rest := [.int (1 : Int32), .int a1, .ref (G.2.1 76)]) E (C_r_held (xl x) G (v5 - (1 : Int32)) (9 : Int32) z1.2 hz) mdX12_held W1569 W1570 W103 W1571 rfl rfl (Nat.le_of_ble_eq_true rfl) ⟨by decide, by decide⟩ dX12_movesFor_34 ?_
      refine s_bd (fun m7 hz => ?_)
      refine s_cV (rest := []) E (C_r_puts (xl x) G a1 (1 : Int32) v6 z1.2 hz) mdX12_puts W1433 W1435 W42 W103 W1436 rfl rfl rfl rfl (Nat.le_of_ble_eq_true rfl) ⟨by decide, by decide⟩ dX12_movesFor_37 ?_
      refine s_iconst (v := (0 : Int32)) E dX12_movesFor_40 (by decide) ?_
      exact s_iret E rfl dX12_movesFor_41
  · refine s_iconst (v := (0 : Int32)) E dX12_movesFor_11 (by decide) ?_
    exact s_iret E rfl dX12_movesFor_12
set_option maxRecDepth 20000 in
theorem C_r_movesFor (l : Launch) (G : GG) (a1 : Int32) (m : M) {z : Int32 × M} (hz : r_movesFor a1 m = some z) : Ct l G yX12_movesFor cX12_movesFor 3 (some .int) 6 [.ref (G.2.1 76), .int a1] m (some (.int z.1)) z.2 :=
  ct_of (K := KWi) (by decide) (Nat.le_of_ble_eq_true rfl) (congrArg (fun q => Option.bind q _) hz) (fun x hl hn E => (t_r_movesFor E hn a1 m))
theorem mdX12_movesFor : mdq yX12_movesFor 1 := ⟨by decide, by decide, by decide +kernel⟩
theorem dX12_restOne_0 : decode cX12_restOne 0 = .ok (.iconst 0, 1) := by decide +kernel
theorem dX12_restOne_1 : decode cX12_restOne 1 = .ok (.istore_n 1, 1) := by decide +kernel
theorem dX12_restOne_2 : decode cX12_restOne 2 = .ok (.iload_n 1, 1) := by decide +kernel
theorem dX12_restOne_3 : decode cX12_restOne 3 = .ok (.aload_n 0, 1) := by decide +kernel
theorem dX12_restOne_4 : decode cX12_restOne 4 = .ok (.getfield 9, 3) := by decide +kernel
theorem dX12_restOne_7 : decode cX12_restOne 7 = .ok (.bipush 6, 2) := by decide +kernel
theorem dX12_restOne_9 : decode cX12_restOne 9 = .ok (.iaload, 1) := by decide +kernel
theorem dX12_restOne_10 : decode cX12_restOne 10 = .ok (.if_icmp .ge 19, 3) := by decide +kernel
theorem dX12_restOne_13 : decode cX12_restOne 13 = .ok (.aload_n 0, 1) := by decide +kernel
theorem dX12_restOne_14 : decode cX12_restOne 14 = .ok (.iload_n 1, 1) := by decide +kernel
theorem dX12_restOne_15 : decode cX12_restOne 15 = .ok (.invokevirtual 202, 3) := by decide +kernel
theorem dX12_restOne_18 : decode cX12_restOne 18 = .ok (.ifCond .eq 5, 3) := by decide +kernel
theorem dX12_restOne_21 : decode cX12_restOne 21 = .ok (.iload_n 1, 1) := by decide +kernel
theorem dX12_restOne_22 : decode cX12_restOne 22 = .ok (.ireturn, 1) := by decide +kernel
theorem dX12_restOne_23 : decode cX12_restOne 23 = .ok (.iinc 1 1, 3) := by decide +kernel
theorem dX12_restOne_26 : decode cX12_restOne 26 = .ok (.goto (-24), 3) := by decide +kernel
theorem dX12_restOne_29 : decode cX12_restOne 29 = .ok (.iconst (-1), 1) := by decide +kernel
theorem dX12_restOne_30 : decode cX12_restOne 30 = .ok (.ireturn, 1) := by decide +kernel
def r_restOne_2b (a1 : Int32) (m : M) : Option ((Int32 × M) ⊕ ((M) ⊕ ((Int32 × M)))) :=
  Option.bind (rdI m 77 (6 : Int32)) (fun v1 => (if v1 ≤ a1 then some (.inr (.inl m)) else Option.bind (r_wouldCarry a1 m) (fun z2 => (if z2.1 = 0 then lt (a1 + (1 : Int32)) (fun w3 : Int32 => some (.inl (w3, z2.2))) else some (.inr (.inr (a1, z2.2)))))))
set_option maxRecDepth 20000 in
theorem t_r_restOne_2b {G : GG} {x : Cx} {K : ((Int32 × M) ⊕ ((M) ⊕ ((Int32 × M)))) → Option (Option Value × M)} (E : En G x cX12_restOne "WreckBoardModel" 7 (some .int)) (hn : xn x = 2) (a1 : Int32) (m : M) (hb : ∀ z : Int32 × M, Sm G x 2 [(0, .ref (G.2.1 76)), (1, .int z.1)] [] z.2 (some (.inl z)) K) (hx0 : ∀ z : M, Sm G x 29 [] [] z (some (.inr (.inl z))) K) (hx1 : ∀ z : Int32 × M, Sm G x 21 [(1, .int z.1)] [] z.2 (some (.inr (.inr z))) K) : Sm G x 2 [(0, .ref (G.2.1 76)), (1, .int a1)] [] m (r_restOne_2b a1 m) K := by
  unfold r_restOne_2b
  refine s_iload_n 1 E dX12_restOne_2 rfl rfl ?_
  refine s_aload_n 0 E dX12_restOne_3 rfl rfl ?_
  refine s_getr (k := 0) (T := TX12) 76 E rfl rfl rfl inX12 (by decide) W1239 dX12_restOne_4 ?_
  refine s_bipush (v := (6 : Int32)) E dX12_restOne_7 (by decide) ?_
  refine s_iald E dX12_restOne_9 (fun v1 => ?_)
  refine s_icmp_ge 29 E dX12_restOne_10 (by decide) ?_ ?_
  · refine s_sub (lv' := []) [] rfl ?_
    exact hx0 m
  · refine s_aload_n 0 E dX12_restOne_13 rfl rfl ?_
    refine s_iload_n 1 E dX12_restOne_14 rfl rfl ?_
    refine s_bd (fun z2 hz => ?_)
    refine s_cV (rest := []) E (C_r_wouldCarry (xl x) G a1 m hz) mdX12_wouldCarry W1468 W1470 W49 W103 W1471 rfl rfl rfl rfl (Nat.le_of_ble_eq_true rfl) ⟨by decide, by decide⟩ dX12_restOne_15 ?_
    refine s_if_eq 23 E dX12_restOne_18 (by decide) ?_ ?_
    · refine s_iincL (v := (1 : Int32)) 1 [1, 0] (fun w3 => [(0, .ref (G.2.1 76)), (1, .int w3)]) E dX12_restOne_23 rfl (by decide) (by rw [hn]; decide) (fun _ => rfl) (fun w3 => ?_)
      refine s_goto 2 E dX12_restOne_26 (by decide) ?_
      exact hb (w3, z2.2)
    · refine s_sub (lv' := [(1, .int a1)]) [1] rfl ?_
      exact hx1 (a1, z2.2)
def r_restOne_2 (a1 : Int32) (m : M) : Option (Int32 × M) :=
  Option.bind (iter (fun z => r_restOne_2b z.1 z.2) FU (a1, m)) (fun r => (match r with
  | .inl r => some ((-1 : Int32), r)
  | .inr r => some (r.1, r.2)))
set_option maxRecDepth 20000 in
theorem t_r_restOne_2 {G : GG} {x : Cx} (E : En G x cX12_restOne "WreckBoardModel" 7 (some .int)) (hn : xn x = 2) (a1 : Int32) (m : M) : Sm G x 2 [(0, .ref (G.2.1 76)), (1, .int a1)] [] m (r_restOne_2 a1 m) KWi := by
  unfold r_restOne_2
  refine s_loop (fun z => [(0, .ref (G.2.1 76)), (1, .int z.1)]) (fun z => z.2) (fun K2 hb2 hr2 z => ?_) FU (a1, m)
  refine t_r_restOne_2b (K := K2) E hn z.1 z.2 hb2 (fun r => s_out (hr2 (.inl r)) ?_) (fun r => s_out (hr2 (.inr r)) ?_)
  · refine s_iconst (v := (-1 : Int32)) E dX12_restOne_29 (by decide) ?_
    exact s_iret E rfl dX12_restOne_30
  · refine s_iload_n 0 E dX12_restOne_21 rfl rfl ?_
    exact s_iret E rfl dX12_restOne_22
def r_restOne  (m : M) : Option (Int32 × M) :=
  r_restOne_2 (0 : Int32) m
set_option maxRecDepth 20000 in
theorem t_r_restOne {G : GG} {x : Cx} (E : En G x cX12_restOne "WreckBoardModel" 7 (some .int)) (hn : xn x = 2)  (m : M) : Sm G x 0 [(0, .ref (G.2.1 76))] [] m (r_restOne m) KWi := by
  unfold r_restOne
  refine s_iconst (v := (0 : Int32)) E dX12_restOne_0 (by decide) ?_
  refine s_istore_n (lv' := [(0, .ref (G.2.1 76)), (1, .int (0 : Int32))]) [1, 0] E dX12_restOne_1 rfl (by rw [hn]; decide) rfl ?_
  exact t_r_restOne_2 E hn (0 : Int32) m
set_option maxRecDepth 20000 in
theorem C_r_restOne (l : Launch) (G : GG)  (m : M) {z : Int32 × M} (hz : r_restOne m = some z) : Ct l G yX12_restOne cX12_restOne 2 (some .int) 7 [.ref (G.2.1 76)] m (some (.int z.1)) z.2 :=
  ct_of (K := KWi) (by decide) (Nat.le_of_ble_eq_true rfl) (congrArg (fun q => Option.bind q _) hz) (fun x hl hn E => (t_r_restOne E hn  m))
theorem mdX12_restOne : mdq yX12_restOne 0 := ⟨by decide, by decide, by decide +kernel⟩
theorem dX12_goesBy_0 : decode cX12_goesBy 0 = .ok (.iload_n 1, 1) := by decide +kernel
theorem dX12_goesBy_1 : decode cX12_goesBy 1 = .ok (.ifCond .ge 10, 3) := by decide +kernel
theorem dX12_goesBy_4 : decode cX12_goesBy 4 = .ok (.aload_n 0, 1) := by decide +kernel
theorem dX12_goesBy_5 : decode cX12_goesBy 5 = .ok (.invokevirtual 205, 3) := by decide +kernel
theorem dX12_goesBy_8 : decode cX12_goesBy 8 = .ok (.goto 6, 3) := by decide +kernel
theorem dX12_goesBy_11 : decode cX12_goesBy 11 = .ok (.iload_n 1, 1) := by decide +kernel
theorem dX12_goesBy_12 : decode cX12_goesBy 12 = .ok (.iconst 1, 1) := by decide +kernel
theorem dX12_goesBy_13 : decode cX12_goesBy 13 = .ok (.isub, 1) := by decide +kernel
theorem dX12_goesBy_14 : decode cX12_goesBy 14 = .ok (.istore_n 2, 1) := by decide +kernel
theorem dX12_goesBy_15 : decode cX12_goesBy 15 = .ok (.iload_n 2, 1) := by decide +kernel
theorem dX12_goesBy_16 : decode cX12_goesBy 16 = .ok (.ifCond .lt 11, 3) := by decide +kernel
theorem dX12_goesBy_19 : decode cX12_goesBy 19 = .ok (.aload_n 0, 1) := by decide +kernel
theorem dX12_goesBy_20 : decode cX12_goesBy 20 = .ok (.iload_n 2, 1) := by decide +kernel
theorem dX12_goesBy_21 : decode cX12_goesBy 21 = .ok (.invokevirtual 208, 3) := by decide +kernel
theorem dX12_goesBy_24 : decode cX12_goesBy 24 = .ok (.goto 4, 3) := by decide +kernel
theorem dX12_goesBy_27 : decode cX12_goesBy 27 = .ok (.iconst 0, 1) := by decide +kernel
theorem dX12_goesBy_28 : decode cX12_goesBy 28 = .ok (.istore_n 3, 1) := by decide +kernel
theorem dX12_goesBy_29 : decode cX12_goesBy 29 = .ok (.aload_n 0, 1) := by decide +kernel
theorem dX12_goesBy_30 : decode cX12_goesBy 30 = .ok (.invokevirtual 83, 3) := by decide +kernel
theorem dX12_goesBy_33 : decode cX12_goesBy 33 = .ok (.iconst 4, 1) := by decide +kernel
theorem dX12_goesBy_34 : decode cX12_goesBy 34 = .ok (.idiv, 1) := by decide +kernel
theorem dX12_goesBy_35 : decode cX12_goesBy 35 = .ok (.istore 4, 2) := by decide +kernel
theorem dX12_goesBy_37 : decode cX12_goesBy 37 = .ok (.aload_n 0, 1) := by decide +kernel
theorem dX12_goesBy_38 : decode cX12_goesBy 38 = .ok (.invokevirtual 83, 3) := by decide +kernel
theorem dX12_goesBy_41 : decode cX12_goesBy 41 = .ok (.aload_n 0, 1) := by decide +kernel
theorem dX12_goesBy_42 : decode cX12_goesBy 42 = .ok (.getfield 9, 3) := by decide +kernel
theorem dX12_goesBy_45 : decode cX12_goesBy 45 = .ok (.iconst 3, 1) := by decide +kernel
theorem dX12_goesBy_46 : decode cX12_goesBy 46 = .ok (.iaload, 1) := by decide +kernel
theorem dX12_goesBy_47 : decode cX12_goesBy 47 = .ok (.invokestatic 211, 3) := by decide +kernel
theorem dX12_goesBy_50 : decode cX12_goesBy 50 = .ok (.istore 5, 2) := by decide +kernel
theorem dX12_goesBy_52 : decode cX12_goesBy 52 = .ok (.aload_n 0, 1) := by decide +kernel
theorem dX12_goesBy_53 : decode cX12_goesBy 53 = .ok (.dup, 1) := by decide +kernel
theorem dX12_goesBy_54 : decode cX12_goesBy 54 = .ok (.getfield 214, 3) := by decide +kernel
theorem dX12_goesBy_57 : decode cX12_goesBy 57 = .ok (.iload 5, 2) := by decide +kernel
theorem dX12_goesBy_59 : decode cX12_goesBy 59 = .ok (.ifCond .eq 7, 3) := by decide +kernel
theorem dX12_goesBy_62 : decode cX12_goesBy 62 = .ok (.iconst 1, 1) := by decide +kernel
theorem dX12_goesBy_63 : decode cX12_goesBy 63 = .ok (.goto 4, 3) := by decide +kernel
theorem dX12_goesBy_66 : decode cX12_goesBy 66 = .ok (.iconst 0, 1) := by decide +kernel
theorem dX12_goesBy_67 : decode cX12_goesBy 67 = .ok (.iadd, 1) := by decide +kernel
theorem dX12_goesBy_68 : decode cX12_goesBy 68 = .ok (.putfield 214, 3) := by decide +kernel
theorem dX12_goesBy_71 : decode cX12_goesBy 71 = .ok (.aload_n 0, 1) := by decide +kernel
theorem dX12_goesBy_72 : decode cX12_goesBy 72 = .ok (.getfield 9, 3) := by decide +kernel
theorem dX12_goesBy_75 : decode cX12_goesBy 75 = .ok (.iconst 4, 1) := by decide +kernel
theorem dX12_goesBy_76 : decode cX12_goesBy 76 = .ok (.aload_n 0, 1) := by decide +kernel
theorem dX12_goesBy_77 : decode cX12_goesBy 77 = .ok (.getfield 9, 3) := by decide +kernel
theorem dX12_goesBy_80 : decode cX12_goesBy 80 = .ok (.iconst 4, 1) := by decide +kernel
theorem dX12_goesBy_81 : decode cX12_goesBy 81 = .ok (.iaload, 1) := by decide +kernel
theorem dX12_goesBy_82 : decode cX12_goesBy 82 = .ok (.iload 5, 2) := by decide +kernel
theorem dX12_goesBy_84 : decode cX12_goesBy 84 = .ok (.ifCond .eq 10, 3) := by decide +kernel
theorem dX12_goesBy_87 : decode cX12_goesBy 87 = .ok (.iconst 5, 1) := by decide +kernel
theorem dX12_goesBy_88 : decode cX12_goesBy 88 = .ok (.iload 4, 2) := by decide +kernel
theorem dX12_goesBy_90 : decode cX12_goesBy 90 = .ok (.imul, 1) := by decide +kernel
theorem dX12_goesBy_91 : decode cX12_goesBy 91 = .ok (.goto 4, 3) := by decide +kernel
theorem dX12_goesBy_94 : decode cX12_goesBy 94 = .ok (.iconst 0, 1) := by decide +kernel
theorem dX12_goesBy_95 : decode cX12_goesBy 95 = .ok (.iadd, 1) := by decide +kernel
theorem dX12_goesBy_96 : decode cX12_goesBy 96 = .ok (.sipush 999, 3) := by decide +kernel
theorem dX12_goesBy_99 : decode cX12_goesBy 99 = .ok (.invokestatic 195, 3) := by decide +kernel
theorem dX12_goesBy_102 : decode cX12_goesBy 102 = .ok (.iastore, 1) := by decide +kernel
theorem dX12_goesBy_103 : decode cX12_goesBy 103 = .ok (.iload_n 3, 1) := by decide +kernel
theorem dX12_goesBy_104 : decode cX12_goesBy 104 = .ok (.iload 5, 2) := by decide +kernel
theorem dX12_goesBy_106 : decode cX12_goesBy 106 = .ok (.ifCond .eq 10, 3) := by decide +kernel
theorem dX12_goesBy_109 : decode cX12_goesBy 109 = .ok (.iconst 3, 1) := by decide +kernel
theorem dX12_goesBy_110 : decode cX12_goesBy 110 = .ok (.iload 4, 2) := by decide +kernel
theorem dX12_goesBy_112 : decode cX12_goesBy 112 = .ok (.imul, 1) := by decide +kernel
theorem dX12_goesBy_113 : decode cX12_goesBy 113 = .ok (.goto 13, 3) := by decide +kernel
theorem dX12_goesBy_116 : decode cX12_goesBy 116 = .ok (.iload 4, 2) := by decide +kernel
theorem dX12_goesBy_118 : decode cX12_goesBy 118 = .ok (.ifCond .le 7, 3) := by decide +kernel
theorem dX12_goesBy_121 : decode cX12_goesBy 121 = .ok (.iconst 1, 1) := by decide +kernel
theorem dX12_goesBy_122 : decode cX12_goesBy 122 = .ok (.goto 4, 3) := by decide +kernel
theorem dX12_goesBy_125 : decode cX12_goesBy 125 = .ok (.iconst 0, 1) := by decide +kernel
theorem dX12_goesBy_126 : decode cX12_goesBy 126 = .ok (.iadd, 1) := by decide +kernel
theorem dX12_goesBy_127 : decode cX12_goesBy 127 = .ok (.istore_n 3, 1) := by decide +kernel
theorem dX12_goesBy_128 : decode cX12_goesBy 128 = .ok (.aload_n 0, 1) := by decide +kernel
theorem dX12_goesBy_129 : decode cX12_goesBy 129 = .ok (.getfield 9, 3) := by decide +kernel
theorem dX12_goesBy_132 : decode cX12_goesBy 132 = .ok (.iconst 3, 1) := by decide +kernel
theorem dX12_goesBy_133 : decode cX12_goesBy 133 = .ok (.aload_n 0, 1) := by decide +kernel
theorem dX12_goesBy_134 : decode cX12_goesBy 134 = .ok (.getfield 9, 3) := by decide +kernel
theorem dX12_goesBy_137 : decode cX12_goesBy 137 = .ok (.iconst 3, 1) := by decide +kernel
theorem dX12_goesBy_138 : decode cX12_goesBy 138 = .ok (.iaload, 1) := by decide +kernel
theorem dX12_goesBy_139 : decode cX12_goesBy 139 = .ok (.invokestatic 217, 3) := by decide +kernel
theorem dX12_goesBy_142 : decode cX12_goesBy 142 = .ok (.iastore, 1) := by decide +kernel
theorem dX12_goesBy_143 : decode cX12_goesBy 143 = .ok (.aload_n 0, 1) := by decide +kernel
theorem dX12_goesBy_144 : decode cX12_goesBy 144 = .ok (.getfield 9, 3) := by decide +kernel
theorem dX12_goesBy_147 : decode cX12_goesBy 147 = .ok (.iconst 0, 1) := by decide +kernel
theorem dX12_goesBy_148 : decode cX12_goesBy 148 = .ok (.dup2, 1) := by decide +kernel
theorem dX12_goesBy_149 : decode cX12_goesBy 149 = .ok (.iaload, 1) := by decide +kernel
theorem dX12_goesBy_150 : decode cX12_goesBy 150 = .ok (.iconst 1, 1) := by decide +kernel
theorem dX12_goesBy_151 : decode cX12_goesBy 151 = .ok (.iadd, 1) := by decide +kernel
theorem dX12_goesBy_152 : decode cX12_goesBy 152 = .ok (.iastore, 1) := by decide +kernel
theorem dX12_goesBy_153 : decode cX12_goesBy 153 = .ok (.aload_n 0, 1) := by decide +kernel
theorem dX12_goesBy_154 : decode cX12_goesBy 154 = .ok (.getfield 9, 3) := by decide +kernel
theorem dX12_goesBy_157 : decode cX12_goesBy 157 = .ok (.iconst 2, 1) := by decide +kernel
theorem dX12_goesBy_158 : decode cX12_goesBy 158 = .ok (.dup2, 1) := by decide +kernel
theorem dX12_goesBy_159 : decode cX12_goesBy 159 = .ok (.iaload, 1) := by decide +kernel
theorem dX12_goesBy_160 : decode cX12_goesBy 160 = .ok (.iload_n 3, 1) := by decide +kernel
theorem dX12_goesBy_161 : decode cX12_goesBy 161 = .ok (.iadd, 1) := by decide +kernel
theorem dX12_goesBy_162 : decode cX12_goesBy 162 = .ok (.iastore, 1) := by decide +kernel
theorem dX12_goesBy_163 : decode cX12_goesBy 163 = .ok (.iload_n 3, 1) := by decide +kernel
theorem dX12_goesBy_164 : decode cX12_goesBy 164 = .ok (.ireturn, 1) := by decide +kernel
def r_goesBy_126 (s0 : Int32) (s1 : Int32) (m : M) : Option (Int32 × M) :=
  lt (s0 + s1) (fun w1 : Int32 => Option.bind (rdI m 77 (3 : Int32)) (fun v2 => Option.bind (r_nearer v2 m) (fun v3 => Option.bind (wrI m 77 (3 : Int32) v3) (fun m4 => Option.bind (rdI m4 77 (0 : Int32)) (fun v5 => Option.bind (wrI m4 77 (0 : Int32) (v5 + (1 : Int32))) (fun m6 => Option.bind (rdI m6 77 (2 : Int32)) (fun v7 => Option.bind (wrI m6 77 (2 : Int32) (v7 + w1)) (fun m8 => some (w1, m8)))))))))
set_option maxRecDepth 20000 in
theorem t_r_goesBy_126 {G : GG} {x : Cx} (E : En G x cX12_goesBy "WreckBoardModel" 8 (some .int)) (hn : xn x = 6) (s0 : Int32) (s1 : Int32) (m : M) : Sm G x 126 [(0, .ref (G.2.1 76))] [.int s1, .int s0] m (r_goesBy_126 s0 s1 m) KWi := by
  unfold r_goesBy_126
  refine s_iadd E dX12_goesBy_126 ?_
  refine s_lt (fun w1 => [(0, .ref (G.2.1 76))]) (fun w1 => [.int w1]) rfl rfl (fun w1 => ?_)
  refine s_istore_n (lv' := [(0, .ref (G.2.1 76)), (3, .int w1)]) [1, 0] E dX12_goesBy_127 rfl (by rw [hn]; decide) rfl ?_
  refine s_aload_n 0 E dX12_goesBy_128 rfl rfl ?_
  refine s_getr (k := 0) (T := TX12) 76 E rfl rfl rfl inX12 (by decide) W1239 dX12_goesBy_129 ?_
  refine s_iconst (v := (3 : Int32)) E dX12_goesBy_132 (by decide) ?_
  refine s_aload_n 0 E dX12_goesBy_133 rfl rfl ?_
  refine s_getr (k := 0) (T := TX12) 76 E rfl rfl rfl inX12 (by decide) W1239 dX12_goesBy_134 ?_
  refine s_iconst (v := (3 : Int32)) E dX12_goesBy_137 (by decide) ?_
  refine s_iald E dX12_goesBy_138 (fun v2 => ?_)
  refine s_bd (fun v3 hz => ?_)
  refine s_cS (rest := [.int (3 : Int32), .ref (G.2.1 77)]) E (C_r_nearer (xl x) G v2 m hz) mdX12_nearer W1575 W1576 W103 W1577 rfl rfl (Nat.le_of_ble_eq_true rfl) ⟨by decide, by decide⟩ dX12_goesBy_139 ?_
  refine s_iast E dX12_goesBy_142 (fun m4 => ?_)
  refine s_aload_n 0 E dX12_goesBy_143 rfl rfl ?_
  refine s_getr (k := 0) (T := TX12) 76 E rfl rfl rfl inX12 (by decide) W1239 dX12_goesBy_144 ?_
  refine s_iconst (v := (0 : Int32)) E dX12_goesBy_147 (by decide) ?_
  refine s_dup2 E dX12_goesBy_148 rfl rfl ?_
  refine s_iald E dX12_goesBy_149 (fun v5 => ?_)
  refine s_iconst (v := (1 : Int32)) E dX12_goesBy_150 (by decide) ?_
  refine s_iadd E dX12_goesBy_151 ?_
  refine s_iast E dX12_goesBy_152 (fun m6 => ?_)
  refine s_aload_n 0 E dX12_goesBy_153 rfl rfl ?_
  refine s_getr (k := 0) (T := TX12) 76 E rfl rfl rfl inX12 (by decide) W1239 dX12_goesBy_154 ?_
  refine s_iconst (v := (2 : Int32)) E dX12_goesBy_157 (by decide) ?_
  refine s_dup2 E dX12_goesBy_158 rfl rfl ?_
  refine s_iald E dX12_goesBy_159 (fun v7 => ?_)
  refine s_iload_n 1 E dX12_goesBy_160 rfl rfl ?_
  refine s_iadd E dX12_goesBy_161 ?_
  refine s_iast E dX12_goesBy_162 (fun m8 => ?_)
  refine s_iload_n 1 E dX12_goesBy_163 rfl rfl ?_
  exact s_iret E rfl dX12_goesBy_164
def r_goesBy_95 (a3 : Int32) (a4 : Int32) (a5 : Int32) (s2 : Int32) (s3 : Int32) (m : M) : Option (Int32 × M) :=
  Option.bind (r_held (s2 + s3) (999 : Int32) m) (fun v1 => Option.bind (wrI m 77 (4 : Int32) v1) (fun m2 => (if a5 = 0 then (if a4 ≤ 0 then r_goesBy_126 a3 (0 : Int32) m2 else r_goesBy_126 a3 (1 : Int32) m2) else r_goesBy_126 a3 ((3 : Int32) * a4) m2)))
set_option maxRecDepth 20000 in
theorem t_r_goesBy_95 {G : GG} {x : Cx} (E : En G x cX12_goesBy "WreckBoardModel" 8 (some .int)) (hn : xn x = 6) (a3 : Int32) (a4 : Int32) (a5 : Int32) (s2 : Int32) (s3 : Int32) (m : M) : Sm G x 95 [(0, .ref (G.2.1 76)), (3, .int a3), (4, .int a4), (5, .int a5)] [.int s3, .int s2, .int (4 : Int32), .ref (G.2.1 77)] m (r_goesBy_95 a3 a4 a5 s2 s3 m) KWi := by
  unfold r_goesBy_95
  refine s_iadd E dX12_goesBy_95 ?_
  refine s_sipush (v := (999 : Int32)) E dX12_goesBy_96 (by decide) ?_
  refine s_bd (fun v1 hz => ?_)
  refine s_cS (rest := [.int (4 : Int32), .ref (G.2.1 77)]) E (C_r_held (xl x) G (s2 + s3) (999 : Int32) m hz) mdX12_held W1569 W1570 W103 W1571 rfl rfl (Nat.le_of_ble_eq_true rfl) ⟨by decide, by decide⟩ dX12_goesBy_99 ?_
  refine s_iast E dX12_goesBy_102 (fun m2 => ?_)
  refine s_iload_n 1 E dX12_goesBy_103 rfl rfl ?_
  refine s_iload 3 E dX12_goesBy_104 rfl ?_
  refine s_if_eq 116 E dX12_goesBy_106 (by decide) ?_ ?_
  · refine s_iload 2 E dX12_goesBy_116 rfl ?_
    refine s_if_le 125 E dX12_goesBy_118 (by decide) ?_ ?_
    · refine s_iconst (v := (0 : Int32)) E dX12_goesBy_125 (by decide) ?_
      refine s_sub (lv' := [(0, .ref (G.2.1 76))]) [0] rfl ?_
      exact t_r_goesBy_126 E hn a3 (0 : Int32) m2
    · refine s_iconst (v := (1 : Int32)) E dX12_goesBy_121 (by decide) ?_
      refine s_goto 126 E dX12_goesBy_122 (by decide) ?_
      refine s_sub (lv' := [(0, .ref (G.2.1 76))]) [0] rfl ?_
      exact t_r_goesBy_126 E hn a3 (1 : Int32) m2
  · refine s_iconst (v := (3 : Int32)) E dX12_goesBy_109 (by decide) ?_
    refine s_iload 2 E dX12_goesBy_110 rfl ?_
    refine s_imul E dX12_goesBy_112 ?_
    refine s_goto 126 E dX12_goesBy_113 (by decide) ?_
    refine s_sub (lv' := [(0, .ref (G.2.1 76))]) [0] rfl ?_
    exact t_r_goesBy_126 E hn a3 ((3 : Int32) * a4) m2
def r_goesBy_67 (a3 : Int32) (a4 : Int32) (a5 : Int32) (s1 : Int32) (s2 : Int32) (m : M) : Option (Int32 × M) :=
  lt (wrF m 76 16 (s1 + s2)) (fun m1 => Option.bind (rdI m1 77 (4 : Int32)) (fun v2 => (if a5 = 0 then r_goesBy_95 a3 a4 a5 v2 (0 : Int32) m1 else r_goesBy_95 a3 a4 a5 v2 ((5 : Int32) * a4) m1)))
set_option maxRecDepth 20000 in
theorem t_r_goesBy_67 {G : GG} {x : Cx} (E : En G x cX12_goesBy "WreckBoardModel" 8 (some .int)) (hn : xn x = 6) (a3 : Int32) (a4 : Int32) (a5 : Int32) (s1 : Int32) (s2 : Int32) (m : M) : Sm G x 67 [(0, .ref (G.2.1 76)), (3, .int a3), (4, .int a4), (5, .int a5)] [.int s2, .int s1, .ref (G.2.1 76)] m (r_goesBy_67 a3 a4 a5 s1 s2 m) KWi := by
  unfold r_goesBy_67
  refine s_iadd E dX12_goesBy_67 ?_
  refine s_put (k := 16) (T := TX12) (ty := .int) 76 E rfl rfl rfl inX12 tyX12 tyX12_ok nmX12 (by decide) W1255 rfl (by decide +kernel) rfl rfl dX12_goesBy_68 ?_
  refine s_ltm rfl (fun m1 => ?_)
  refine s_aload_n 0 E dX12_goesBy_71 rfl rfl ?_
  refine s_getr (k := 0) (T := TX12) 76 E rfl rfl rfl inX12 (by decide) W1239 dX12_goesBy_72 ?_
  refine s_iconst (v := (4 : Int32)) E dX12_goesBy_75 (by decide) ?_
  refine s_aload_n 0 E dX12_goesBy_76 rfl rfl ?_
  refine s_getr (k := 0) (T := TX12) 76 E rfl rfl rfl inX12 (by decide) W1239 dX12_goesBy_77 ?_
  refine s_iconst (v := (4 : Int32)) E dX12_goesBy_80 (by decide) ?_
  refine s_iald E dX12_goesBy_81 (fun v2 => ?_)
  refine s_iload 3 E dX12_goesBy_82 rfl ?_
  refine s_if_eq 94 E dX12_goesBy_84 (by decide) ?_ ?_
  · refine s_iconst (v := (0 : Int32)) E dX12_goesBy_94 (by decide) ?_
    exact t_r_goesBy_95 E hn a3 a4 a5 v2 (0 : Int32) m1
  · refine s_iconst (v := (5 : Int32)) E dX12_goesBy_87 (by decide) ?_
    refine s_iload 2 E dX12_goesBy_88 rfl ?_
    refine s_imul E dX12_goesBy_90 ?_
    refine s_goto 95 E dX12_goesBy_91 (by decide) ?_
    exact t_r_goesBy_95 E hn a3 a4 a5 v2 ((5 : Int32) * a4) m1
def r_goesBy_28 (s0 : Int32) (m : M) : Option (Int32 × M) :=
  Option.bind (r_shipNow m) (fun v1 => lt (v1 / (4 : Int32)) (fun w2 : Int32 => Option.bind (r_shipNow m) (fun v3 => Option.bind (rdI m 77 (3 : Int32)) (fun v4 => Option.bind (r_isLost v3 v4 m) (fun v5 => (if v5 = 0 then r_goesBy_67 s0 w2 v5 (m 76 16) (0 : Int32) m else r_goesBy_67 s0 w2 v5 (m 76 16) (1 : Int32) m))))))
set_option maxRecDepth 20000 in
theorem t_r_goesBy_28 {G : GG} {x : Cx} (E : En G x cX12_goesBy "WreckBoardModel" 8 (some .int)) (hn : xn x = 6) (s0 : Int32) (m : M) : Sm G x 28 [(0, .ref (G.2.1 76))] [.int s0] m (r_goesBy_28 s0 m) KWi := by
  unfold r_goesBy_28
  refine s_istore_n (lv' := [(0, .ref (G.2.1 76)), (3, .int s0)]) [1, 0] E dX12_goesBy_28 rfl (by rw [hn]; decide) rfl ?_
  refine s_aload_n 0 E dX12_goesBy_29 rfl rfl ?_
  refine s_bd (fun v1 hz => ?_)
  refine s_cV (rest := []) E (C_r_shipNow (xl x) G  m hz) mdX12_shipNow W1457 W1459 W47 W103 W1460 rfl rfl rfl rfl (Nat.le_of_ble_eq_true rfl) ⟨by decide, by decide⟩ dX12_goesBy_30 ?_
  refine s_iconst (v := (4 : Int32)) E dX12_goesBy_33 (by decide) ?_
  refine s_idivc E dX12_goesBy_34 (by decide) ?_
  refine s_lt (fun w2 => [(0, .ref (G.2.1 76)), (3, .int s0)]) (fun w2 => [.int w2]) rfl rfl (fun w2 => ?_)
  refine s_istore (lv' := [(0, .ref (G.2.1 76)), (3, .int s0), (4, .int w2)]) [1, 2, 0] E dX12_goesBy_35 (by rw [hn]; decide) rfl ?_
  refine s_aload_n 0 E dX12_goesBy_37 rfl rfl ?_
  refine s_bd (fun v3 hz => ?_)
  refine s_cV (rest := []) E (C_r_shipNow (xl x) G  m hz) mdX12_shipNow W1457 W1459 W47 W103 W1460 rfl rfl rfl rfl (Nat.le_of_ble_eq_true rfl) ⟨by decide, by decide⟩ dX12_goesBy_38 ?_
  refine s_aload_n 0 E dX12_goesBy_41 rfl rfl ?_
  refine s_getr (k := 0) (T := TX12) 76 E rfl rfl rfl inX12 (by decide) W1239 dX12_goesBy_42 ?_
  refine s_iconst (v := (3 : Int32)) E dX12_goesBy_45 (by decide) ?_
  refine s_iald E dX12_goesBy_46 (fun v4 => ?_)
  refine s_bd (fun v5 hz => ?_)
  refine s_cS (rest := []) E (C_r_isLost (xl x) G v3 v4 m hz) mdX12_isLost W1572 W1573 W103 W1574 rfl rfl (Nat.le_of_ble_eq_true rfl) ⟨by decide, by decide⟩ dX12_goesBy_47 ?_
  refine s_istore (lv' := [(0, .ref (G.2.1 76)), (3, .int s0), (4, .int w2), (5, .int v5)]) [1, 2, 3, 0] E dX12_goesBy_50 (by rw [hn]; decide) rfl ?_
  refine s_aload_n 0 E dX12_goesBy_52 rfl rfl ?_
  refine s_dup E dX12_goesBy_53 rfl ?_
  refine s_geti (k := 16) (T := TX12) 76 E rfl rfl rfl inX12 (by decide) W1255 dX12_goesBy_54 ?_
  refine s_iload 3 E dX12_goesBy_57 rfl ?_
  refine s_if_eq 66 E dX12_goesBy_59 (by decide) ?_ ?_
  · refine s_iconst (v := (0 : Int32)) E dX12_goesBy_66 (by decide) ?_
    exact t_r_goesBy_67 E hn s0 w2 v5 (m 76 16) (0 : Int32) m
  · refine s_iconst (v := (1 : Int32)) E dX12_goesBy_62 (by decide) ?_
    refine s_goto 67 E dX12_goesBy_63 (by decide) ?_
    exact t_r_goesBy_67 E hn s0 w2 v5 (m 76 16) (1 : Int32) m
def r_goesBy_14 (s0 : Int32) (m : M) : Option (Int32 × M) :=
  (if s0 < 0 then r_goesBy_28 (0 : Int32) m else Option.bind (r_movesFor s0 m) (fun z1 => r_goesBy_28 z1.1 z1.2))
set_option maxRecDepth 20000 in
theorem t_r_goesBy_14 {G : GG} {x : Cx} (E : En G x cX12_goesBy "WreckBoardModel" 8 (some .int)) (hn : xn x = 6) (s0 : Int32) (m : M) : Sm G x 14 [(0, .ref (G.2.1 76))] [.int s0] m (r_goesBy_14 s0 m) KWi := by
  unfold r_goesBy_14
  refine s_istore_n (lv' := [(0, .ref (G.2.1 76)), (2, .int s0)]) [1, 0] E dX12_goesBy_14 rfl (by rw [hn]; decide) rfl ?_
  refine s_iload_n 1 E dX12_goesBy_15 rfl rfl ?_
  refine s_if_lt 27 E dX12_goesBy_16 (by decide) ?_ ?_
  · refine s_iconst (v := (0 : Int32)) E dX12_goesBy_27 (by decide) ?_
    refine s_sub (lv' := [(0, .ref (G.2.1 76))]) [0] rfl ?_
    exact t_r_goesBy_28 E hn (0 : Int32) m
  · refine s_aload_n 0 E dX12_goesBy_19 rfl rfl ?_
    refine s_iload_n 1 E dX12_goesBy_20 rfl rfl ?_
    refine s_bd (fun z1 hz => ?_)
    refine s_cV (rest := []) E (C_r_movesFor (xl x) G s0 m hz) mdX12_movesFor W1565 W1567 W61 W103 W1568 rfl rfl rfl rfl (Nat.le_of_ble_eq_true rfl) ⟨by decide, by decide⟩ dX12_goesBy_21 ?_
    refine s_goto 28 E dX12_goesBy_24 (by decide) ?_
    refine s_sub (lv' := [(0, .ref (G.2.1 76))]) [0] rfl ?_
    exact t_r_goesBy_28 E hn z1.1 z1.2
def r_goesBy (a1 : Int32) (m : M) : Option (Int32 × M) :=
  (if 0 ≤ a1 then r_goesBy_14 (a1 - (1 : Int32)) m else Option.bind (r_restOne m) (fun z1 => r_goesBy_14 z1.1 z1.2))
set_option maxRecDepth 20000 in
theorem t_r_goesBy {G : GG} {x : Cx} (E : En G x cX12_goesBy "WreckBoardModel" 8 (some .int)) (hn : xn x = 6) (a1 : Int32) (m : M) : Sm G x 0 [(0, .ref (G.2.1 76)), (1, .int a1)] [] m (r_goesBy a1 m) KWi := by
  unfold r_goesBy
  refine s_iload_n 1 E dX12_goesBy_0 rfl rfl ?_
  refine s_if_ge 11 E dX12_goesBy_1 (by decide) ?_ ?_
  · refine s_iload_n 1 E dX12_goesBy_11 rfl rfl ?_
    refine s_iconst (v := (1 : Int32)) E dX12_goesBy_12 (by decide) ?_
    refine s_isub E dX12_goesBy_13 ?_
    refine s_sub (lv' := [(0, .ref (G.2.1 76))]) [0] rfl ?_
    exact t_r_goesBy_14 E hn (a1 - (1 : Int32)) m
  · refine s_aload_n 0 E dX12_goesBy_4 rfl rfl ?_
    refine s_bd (fun z1 hz => ?_)
    refine s_cV (rest := []) E (C_r_restOne (xl x) G  m hz) mdX12_restOne W1561 W1563 W60 W103 W1564 rfl rfl rfl rfl (Nat.le_of_ble_eq_true rfl) ⟨by decide, by decide⟩ dX12_goesBy_5 ?_
    refine s_goto 14 E dX12_goesBy_8 (by decide) ?_
    refine s_sub (lv' := [(0, .ref (G.2.1 76))]) [0] rfl ?_
    exact t_r_goesBy_14 E hn z1.1 z1.2
set_option maxRecDepth 20000 in
theorem C_r_goesBy (l : Launch) (G : GG) (a1 : Int32) (m : M) {z : Int32 × M} (hz : r_goesBy a1 m = some z) : Ct l G yX12_goesBy cX12_goesBy 6 (some .int) 8 [.ref (G.2.1 76), .int a1] m (some (.int z.1)) z.2 :=
  ct_of (K := KWi) (by decide) (Nat.le_of_ble_eq_true rfl) (congrArg (fun q => Option.bind q _) hz) (fun x hl hn E => (t_r_goesBy E hn a1 m))
theorem mdX12_goesBy : mdq yX12_goesBy 1 := ⟨by decide, by decide, by decide +kernel⟩
theorem dX12_night_0 : decode cX12_night 0 = .ok (.aload_n 0, 1) := by decide +kernel
theorem dX12_night_1 : decode cX12_night 1 = .ok (.invokevirtual 232, 3) := by decide +kernel
theorem dX12_night_4 : decode cX12_night 4 = .ok (.ifCond .eq 8, 3) := by decide +kernel
theorem dX12_night_7 : decode cX12_night 7 = .ok (.bipush (-4), 2) := by decide +kernel
theorem dX12_night_9 : decode cX12_night 9 = .ok (.goto 8, 3) := by decide +kernel
theorem dX12_night_12 : decode cX12_night 12 = .ok (.aload_n 0, 1) := by decide +kernel
theorem dX12_night_13 : decode cX12_night 13 = .ok (.iconst (-1), 1) := by decide +kernel
theorem dX12_night_14 : decode cX12_night 14 = .ok (.invokevirtual 238, 3) := by decide +kernel
theorem dX12_night_17 : decode cX12_night 17 = .ok (.ireturn, 1) := by decide +kernel
def r_night  (m : M) : Option (Int32 × M) :=
  Option.bind (r_isOver m) (fun v1 => (if v1 = 0 then Option.bind (r_goesBy (-1 : Int32) m) (fun z2 => some (z2.1, z2.2)) else some ((-4 : Int32), m)))
set_option maxRecDepth 20000 in
theorem t_r_night {G : GG} {x : Cx} (E : En G x cX12_night "WreckBoardModel" 9 (some .int)) (hn : xn x = 1)  (m : M) : Sm G x 0 [(0, .ref (G.2.1 76))] [] m (r_night m) KWi := by
  unfold r_night
  refine s_aload_n 0 E dX12_night_0 rfl rfl ?_
  refine s_bd (fun v1 hz => ?_)
  refine s_cV (rest := []) E (C_r_isOver (xl x) G  m hz) mdX12_isOver W1545 W1547 W57 W103 W1548 rfl rfl rfl rfl (Nat.le_of_ble_eq_true rfl) ⟨by decide, by decide⟩ dX12_night_1 ?_
  refine s_if_eq 12 E dX12_night_4 (by decide) ?_ ?_
  · refine s_aload_n 0 E dX12_night_12 rfl rfl ?_
    refine s_iconst (v := (-1 : Int32)) E dX12_night_13 (by decide) ?_
    refine s_bd (fun z2 hz => ?_)
    refine s_cV (rest := []) E (C_r_goesBy (xl x) G (-1 : Int32) m hz) mdX12_goesBy W1557 W1559 W59 W103 W1560 rfl rfl rfl rfl (Nat.le_of_ble_eq_true rfl) ⟨by decide, by decide⟩ dX12_night_14 ?_
    exact s_iret E rfl dX12_night_17
  · refine s_bipush (v := (-4 : Int32)) E dX12_night_7 (by decide) ?_
    refine s_goto 17 E dX12_night_9 (by decide) ?_
    exact s_iret E rfl dX12_night_17
set_option maxRecDepth 20000 in
theorem C_r_night (l : Launch) (G : GG)  (m : M) {z : Int32 × M} (hz : r_night m = some z) : Ct l G yX12_night cX12_night 1 (some .int) 9 [.ref (G.2.1 76)] m (some (.int z.1)) z.2 :=
  ct_of (K := KWi) (by decide) (Nat.le_of_ble_eq_true rfl) (congrArg (fun q => Option.bind q _) hz) (fun x hl hn E => (t_r_night E hn  m))
theorem dX12_layDown_0 : decode cX12_layDown 0 = .ok (.iconst 0, 1) := by decide +kernel
theorem dX12_layDown_1 : decode cX12_layDown 1 = .ok (.istore_n 1, 1) := by decide +kernel
theorem dX12_layDown_2 : decode cX12_layDown 2 = .ok (.iload_n 1, 1) := by decide +kernel
theorem dX12_layDown_3 : decode cX12_layDown 3 = .ok (.bipush 67, 2) := by decide +kernel
theorem dX12_layDown_5 : decode cX12_layDown 5 = .ok (.if_icmp .ge 21, 3) := by decide +kernel
theorem dX12_layDown_8 : decode cX12_layDown 8 = .ok (.aload_n 0, 1) := by decide +kernel
theorem dX12_layDown_9 : decode cX12_layDown 9 = .ok (.getfield 16, 3) := by decide +kernel
theorem dX12_layDown_12 : decode cX12_layDown 12 = .ok (.iload_n 1, 1) := by decide +kernel
theorem dX12_layDown_13 : decode cX12_layDown 13 = .ok (.aload_n 0, 1) := by decide +kernel
theorem dX12_layDown_14 : decode cX12_layDown 14 = .ok (.getfield 9, 3) := by decide +kernel
theorem dX12_layDown_17 : decode cX12_layDown 17 = .ok (.iload_n 1, 1) := by decide +kernel
theorem dX12_layDown_18 : decode cX12_layDown 18 = .ok (.iaload, 1) := by decide +kernel
theorem dX12_layDown_19 : decode cX12_layDown 19 = .ok (.iastore, 1) := by decide +kernel
theorem dX12_layDown_20 : decode cX12_layDown 20 = .ok (.iinc 1 1, 3) := by decide +kernel
theorem dX12_layDown_23 : decode cX12_layDown 23 = .ok (.goto (-21), 3) := by decide +kernel
theorem dX12_layDown_26 : decode cX12_layDown 26 = .ok (.return_, 1) := by decide +kernel
def r_layDown_2b (a1 : Int32) (m : M) : Option ((Int32 × M) ⊕ ((M))) :=
  (if (67 : Int32) ≤ a1 then some (.inr m) else Option.bind (rdI m 77 a1) (fun v1 => Option.bind (wrI m 79 a1 v1) (fun m2 => lt (a1 + (1 : Int32)) (fun w3 : Int32 => some (.inl (w3, m2))))))
set_option maxRecDepth 20000 in
theorem t_r_layDown_2b {G : GG} {x : Cx} {K : ((Int32 × M) ⊕ ((M))) → Option (Option Value × M)} (E : En G x cX12_layDown "WreckBoardModel" 1 none) (hn : xn x = 2) (a1 : Int32) (m : M) (hb : ∀ z : Int32 × M, Sm G x 2 [(0, .ref (G.2.1 76)), (1, .int z.1)] [] z.2 (some (.inl z)) K) (hx0 : ∀ z : M, Sm G x 26 [] [] z (some (.inr z)) K) : Sm G x 2 [(0, .ref (G.2.1 76)), (1, .int a1)] [] m (r_layDown_2b a1 m) K := by
  unfold r_layDown_2b
  refine s_iload_n 1 E dX12_layDown_2 rfl rfl ?_
  refine s_bipush (v := (67 : Int32)) E dX12_layDown_3 (by decide) ?_
  refine s_icmp_ge 26 E dX12_layDown_5 (by decide) ?_ ?_
  · refine s_sub (lv' := []) [] rfl ?_
    exact hx0 m
  · refine s_aload_n 0 E dX12_layDown_8 rfl rfl ?_
    refine s_getr (k := 2) (T := TX12) 76 E rfl rfl rfl inX12 (by decide) W1241 dX12_layDown_9 ?_
    refine s_iload_n 1 E dX12_layDown_12 rfl rfl ?_
    refine s_aload_n 0 E dX12_layDown_13 rfl rfl ?_
    refine s_getr (k := 0) (T := TX12) 76 E rfl rfl rfl inX12 (by decide) W1239 dX12_layDown_14 ?_
    refine s_iload_n 1 E dX12_layDown_17 rfl rfl ?_
    refine s_iald E dX12_layDown_18 (fun v1 => ?_)
    refine s_iast E dX12_layDown_19 (fun m2 => ?_)
    refine s_iincL (v := (1 : Int32)) 1 [1, 0] (fun w3 => [(0, .ref (G.2.1 76)), (1, .int w3)]) E dX12_layDown_20 rfl (by decide) (by rw [hn]; decide) (fun _ => rfl) (fun w3 => ?_)
    refine s_goto 2 E dX12_layDown_23 (by decide) ?_
    exact hb (w3, m2)
def r_layDown_2 (a1 : Int32) (m : M) : Option (M) :=
  Option.bind (iter (fun z => r_layDown_2b z.1 z.2) FU (a1, m)) (fun r => some r)
set_option maxRecDepth 20000 in
theorem t_r_layDown_2 {G : GG} {x : Cx} (E : En G x cX12_layDown "WreckBoardModel" 1 none) (hn : xn x = 2) (a1 : Int32) (m : M) : Sm G x 2 [(0, .ref (G.2.1 76)), (1, .int a1)] [] m (r_layDown_2 a1 m) KWv := by
  unfold r_layDown_2
  refine s_loop (fun z => [(0, .ref (G.2.1 76)), (1, .int z.1)]) (fun z => z.2) (fun K2 hb2 hr2 z => ?_) FU (a1, m)
  refine t_r_layDown_2b (K := K2) E hn z.1 z.2 hb2 (fun r => s_out (hr2 r) ?_)
  · exact s_vret E rfl dX12_layDown_26
def r_layDown  (m : M) : Option (M) :=
  r_layDown_2 (0 : Int32) m
set_option maxRecDepth 20000 in
theorem t_r_layDown {G : GG} {x : Cx} (E : En G x cX12_layDown "WreckBoardModel" 1 none) (hn : xn x = 2)  (m : M) : Sm G x 0 [(0, .ref (G.2.1 76))] [] m (r_layDown m) KWv := by
  unfold r_layDown
  refine s_iconst (v := (0 : Int32)) E dX12_layDown_0 (by decide) ?_
  refine s_istore_n (lv' := [(0, .ref (G.2.1 76)), (1, .int (0 : Int32))]) [1, 0] E dX12_layDown_1 rfl (by rw [hn]; decide) rfl ?_
  exact t_r_layDown_2 E hn (0 : Int32) m
set_option maxRecDepth 20000 in
theorem C_r_layDown (l : Launch) (G : GG)  (m : M) {z : M} (hz : r_layDown m = some z) : Ct l G yX12_layDown cX12_layDown 2 none 1 [.ref (G.2.1 76)] m none z :=
  ct_of (K := KWv) (by decide) (Nat.le_of_ble_eq_true rfl) (congrArg (fun q => Option.bind q _) hz) (fun x hl hn E => (t_r_layDown E hn  m))
theorem mdX12_layDown : mdq yX12_layDown 0 := ⟨by decide, by decide, by decide +kernel⟩
theorem dX12_restOf_0 : decode cX12_restOf 0 = .ok (.iconst 0, 1) := by decide +kernel
theorem dX12_restOf_1 : decode cX12_restOf 1 = .ok (.istore_n 2, 1) := by decide +kernel
theorem dX12_restOf_2 : decode cX12_restOf 2 = .ok (.iconst 0, 1) := by decide +kernel
theorem dX12_restOf_3 : decode cX12_restOf 3 = .ok (.istore_n 3, 1) := by decide +kernel
theorem dX12_restOf_4 : decode cX12_restOf 4 = .ok (.iload_n 3, 1) := by decide +kernel
theorem dX12_restOf_5 : decode cX12_restOf 5 = .ok (.iload_n 1, 1) := by decide +kernel
theorem dX12_restOf_6 : decode cX12_restOf 6 = .ok (.if_icmp .ge 24, 3) := by decide +kernel
theorem dX12_restOf_9 : decode cX12_restOf 9 = .ok (.aload_n 0, 1) := by decide +kernel
theorem dX12_restOf_10 : decode cX12_restOf 10 = .ok (.invokevirtual 232, 3) := by decide +kernel
theorem dX12_restOf_13 : decode cX12_restOf 13 = .ok (.ifCond .ne 17, 3) := by decide +kernel
theorem dX12_restOf_16 : decode cX12_restOf 16 = .ok (.iload_n 2, 1) := by decide +kernel
theorem dX12_restOf_17 : decode cX12_restOf 17 = .ok (.aload_n 0, 1) := by decide +kernel
theorem dX12_restOf_18 : decode cX12_restOf 18 = .ok (.iconst (-1), 1) := by decide +kernel
theorem dX12_restOf_19 : decode cX12_restOf 19 = .ok (.invokevirtual 238, 3) := by decide +kernel
theorem dX12_restOf_22 : decode cX12_restOf 22 = .ok (.iadd, 1) := by decide +kernel
theorem dX12_restOf_23 : decode cX12_restOf 23 = .ok (.istore_n 2, 1) := by decide +kernel
theorem dX12_restOf_24 : decode cX12_restOf 24 = .ok (.iinc 3 1, 3) := by decide +kernel
theorem dX12_restOf_27 : decode cX12_restOf 27 = .ok (.goto (-23), 3) := by decide +kernel
theorem dX12_restOf_30 : decode cX12_restOf 30 = .ok (.iload_n 2, 1) := by decide +kernel
theorem dX12_restOf_31 : decode cX12_restOf 31 = .ok (.ireturn, 1) := by decide +kernel
def r_restOf_4b (a1 : Int32) (a2 : Int32) (a3 : Int32) (m : M) : Option ((Int32 × Int32 × M) ⊕ ((Int32 × M))) :=
  (if a1 ≤ a3 then some (.inr (a2, m)) else Option.bind (r_isOver m) (fun v1 => (if v1 = 0 then Option.bind (r_goesBy (-1 : Int32) m) (fun z2 => lt (a2 + z2.1) (fun w3 : Int32 => lt (a3 + (1 : Int32)) (fun w4 : Int32 => some (.inl (w3, w4, z2.2))))) else some (.inr (a2, m)))))
set_option maxRecDepth 20000 in
theorem t_r_restOf_4b {G : GG} {x : Cx} {K : ((Int32 × Int32 × M) ⊕ ((Int32 × M))) → Option (Option Value × M)} (E : En G x cX12_restOf "WreckBoardModel" 9 (some .int)) (hn : xn x = 4) (a1 : Int32) (a2 : Int32) (a3 : Int32) (m : M) (hb : ∀ z : Int32 × Int32 × M, Sm G x 4 [(0, .ref (G.2.1 76)), (1, .int a1), (2, .int z.1), (3, .int z.2.1)] [] z.2.2 (some (.inl z)) K) (hx0 : ∀ z : Int32 × M, Sm G x 30 [(2, .int z.1)] [] z.2 (some (.inr z)) K) : Sm G x 4 [(0, .ref (G.2.1 76)), (1, .int a1), (2, .int a2), (3, .int a3)] [] m (r_restOf_4b a1 a2 a3 m) K := by
  unfold r_restOf_4b
  refine s_iload_n 3 E dX12_restOf_4 rfl rfl ?_
  refine s_iload_n 1 E dX12_restOf_5 rfl rfl ?_
  refine s_icmp_ge 30 E dX12_restOf_6 (by decide) ?_ ?_
  · refine s_sub (lv' := [(2, .int a2)]) [2] rfl ?_
    exact hx0 (a2, m)
  · refine s_aload_n 0 E dX12_restOf_9 rfl rfl ?_
    refine s_bd (fun v1 hz => ?_)
    refine s_cV (rest := []) E (C_r_isOver (xl x) G  m hz) mdX12_isOver W1545 W1547 W57 W103 W1548 rfl rfl rfl rfl (Nat.le_of_ble_eq_true rfl) ⟨by decide, by decide⟩ dX12_restOf_10 ?_
    refine s_if_ne 30 E dX12_restOf_13 (by decide) ?_ ?_
    · refine s_sub (lv' := [(2, .int a2)]) [2] rfl ?_
      exact hx0 (a2, m)
    · refine s_iload_n 2 E dX12_restOf_16 rfl rfl ?_
      refine s_aload_n 0 E dX12_restOf_17 rfl rfl ?_
      refine s_iconst (v := (-1 : Int32)) E dX12_restOf_18 (by decide) ?_
      refine s_bd (fun z2 hz => ?_)
      refine s_cV (rest := [.int a2]) E (C_r_goesBy (xl x) G (-1 : Int32) m hz) mdX12_goesBy W1557 W1559 W59 W103 W1560 rfl rfl rfl rfl (Nat.le_of_ble_eq_true rfl) ⟨by decide, by decide⟩ dX12_restOf_19 ?_
      refine s_iadd E dX12_restOf_22 ?_
      refine s_lt (fun w3 => [(0, .ref (G.2.1 76)), (1, .int a1), (2, .int a2), (3, .int a3)]) (fun w3 => [.int w3]) rfl rfl (fun w3 => ?_)
      refine s_istore_n (lv' := [(0, .ref (G.2.1 76)), (1, .int a1), (2, .int w3), (3, .int a3)]) [1, 2, 0, 3] E dX12_restOf_23 rfl (by rw [hn]; decide) rfl ?_
      refine s_iincL (v := (1 : Int32)) 3 [1, 2, 3, 0] (fun w4 => [(0, .ref (G.2.1 76)), (1, .int a1), (2, .int w3), (3, .int w4)]) E dX12_restOf_24 rfl (by decide) (by rw [hn]; decide) (fun _ => rfl) (fun w4 => ?_)
      refine s_goto 4 E dX12_restOf_27 (by decide) ?_
      exact hb (w3, w4, z2.2)
def r_restOf_4 (a1 : Int32) (a2 : Int32) (a3 : Int32) (m : M) : Option (Int32 × M) :=
  Option.bind (iter (fun z => r_restOf_4b a1 z.1 z.2.1 z.2.2) FU (a2, a3, m)) (fun r => some (r.1, r.2))
set_option maxRecDepth 20000 in
theorem t_r_restOf_4 {G : GG} {x : Cx} (E : En G x cX12_restOf "WreckBoardModel" 9 (some .int)) (hn : xn x = 4) (a1 : Int32) (a2 : Int32) (a3 : Int32) (m : M) : Sm G x 4 [(0, .ref (G.2.1 76)), (1, .int a1), (2, .int a2), (3, .int a3)] [] m (r_restOf_4 a1 a2 a3 m) KWi := by
  unfold r_restOf_4
  refine s_loop (fun z => [(0, .ref (G.2.1 76)), (1, .int a1), (2, .int z.1), (3, .int z.2.1)]) (fun z => z.2.2) (fun K2 hb2 hr2 z => ?_) FU (a2, a3, m)
  refine t_r_restOf_4b (K := K2) E hn a1 z.1 z.2.1 z.2.2 hb2 (fun r => s_out (hr2 r) ?_)
  · refine s_iload_n 0 E dX12_restOf_30 rfl rfl ?_
    exact s_iret E rfl dX12_restOf_31
def r_restOf (a1 : Int32) (m : M) : Option (Int32 × M) :=
  r_restOf_4 a1 (0 : Int32) (0 : Int32) m
set_option maxRecDepth 20000 in
theorem t_r_restOf {G : GG} {x : Cx} (E : En G x cX12_restOf "WreckBoardModel" 9 (some .int)) (hn : xn x = 4) (a1 : Int32) (m : M) : Sm G x 0 [(0, .ref (G.2.1 76)), (1, .int a1)] [] m (r_restOf a1 m) KWi := by
  unfold r_restOf
  refine s_iconst (v := (0 : Int32)) E dX12_restOf_0 (by decide) ?_
  refine s_istore_n (lv' := [(0, .ref (G.2.1 76)), (1, .int a1), (2, .int (0 : Int32))]) [1, 2, 0] E dX12_restOf_1 rfl (by rw [hn]; decide) rfl ?_
  refine s_iconst (v := (0 : Int32)) E dX12_restOf_2 (by decide) ?_
  refine s_istore_n (lv' := [(0, .ref (G.2.1 76)), (1, .int a1), (2, .int (0 : Int32)), (3, .int (0 : Int32))]) [1, 2, 3, 0] E dX12_restOf_3 rfl (by rw [hn]; decide) rfl ?_
  exact t_r_restOf_4 E hn a1 (0 : Int32) (0 : Int32) m
set_option maxRecDepth 20000 in
theorem C_r_restOf (l : Launch) (G : GG) (a1 : Int32) (m : M) {z : Int32 × M} (hz : r_restOf a1 m = some z) : Ct l G yX12_restOf cX12_restOf 4 (some .int) 9 [.ref (G.2.1 76), .int a1] m (some (.int z.1)) z.2 :=
  ct_of (K := KWi) (by decide) (Nat.le_of_ble_eq_true rfl) (congrArg (fun q => Option.bind q _) hz) (fun x hl hn E => (t_r_restOf E hn a1 m))
theorem mdX12_restOf : mdq yX12_restOf 1 := ⟨by decide, by decide, by decide +kernel⟩
theorem dX12_layBack_0 : decode cX12_layBack 0 = .ok (.iconst 0, 1) := by decide +kernel
theorem dX12_layBack_1 : decode cX12_layBack 1 = .ok (.istore_n 1, 1) := by decide +kernel
theorem dX12_layBack_2 : decode cX12_layBack 2 = .ok (.iload_n 1, 1) := by decide +kernel
theorem dX12_layBack_3 : decode cX12_layBack 3 = .ok (.bipush 67, 2) := by decide +kernel
theorem dX12_layBack_5 : decode cX12_layBack 5 = .ok (.if_icmp .ge 21, 3) := by decide +kernel
theorem dX12_layBack_8 : decode cX12_layBack 8 = .ok (.aload_n 0, 1) := by decide +kernel
theorem dX12_layBack_9 : decode cX12_layBack 9 = .ok (.getfield 9, 3) := by decide +kernel
theorem dX12_layBack_12 : decode cX12_layBack 12 = .ok (.iload_n 1, 1) := by decide +kernel
theorem dX12_layBack_13 : decode cX12_layBack 13 = .ok (.aload_n 0, 1) := by decide +kernel
theorem dX12_layBack_14 : decode cX12_layBack 14 = .ok (.getfield 16, 3) := by decide +kernel
theorem dX12_layBack_17 : decode cX12_layBack 17 = .ok (.iload_n 1, 1) := by decide +kernel
theorem dX12_layBack_18 : decode cX12_layBack 18 = .ok (.iaload, 1) := by decide +kernel
theorem dX12_layBack_19 : decode cX12_layBack 19 = .ok (.iastore, 1) := by decide +kernel
theorem dX12_layBack_20 : decode cX12_layBack 20 = .ok (.iinc 1 1, 3) := by decide +kernel
theorem dX12_layBack_23 : decode cX12_layBack 23 = .ok (.goto (-21), 3) := by decide +kernel
theorem dX12_layBack_26 : decode cX12_layBack 26 = .ok (.return_, 1) := by decide +kernel
def r_layBack_2b (a1 : Int32) (m : M) : Option ((Int32 × M) ⊕ ((M))) :=
  (if (67 : Int32) ≤ a1 then some (.inr m) else Option.bind (rdI m 79 a1) (fun v1 => Option.bind (wrI m 77 a1 v1) (fun m2 => lt (a1 + (1 : Int32)) (fun w3 : Int32 => some (.inl (w3, m2))))))
set_option maxRecDepth 20000 in
theorem t_r_layBack_2b {G : GG} {x : Cx} {K : ((Int32 × M) ⊕ ((M))) → Option (Option Value × M)} (E : En G x cX12_layBack "WreckBoardModel" 1 none) (hn : xn x = 2) (a1 : Int32) (m : M) (hb : ∀ z : Int32 × M, Sm G x 2 [(0, .ref (G.2.1 76)), (1, .int z.1)] [] z.2 (some (.inl z)) K) (hx0 : ∀ z : M, Sm G x 26 [] [] z (some (.inr z)) K) : Sm G x 2 [(0, .ref (G.2.1 76)), (1, .int a1)] [] m (r_layBack_2b a1 m) K := by
  unfold r_layBack_2b
  refine s_iload_n 1 E dX12_layBack_2 rfl rfl ?_
  refine s_bipush (v := (67 : Int32)) E dX12_layBack_3 (by decide) ?_
  refine s_icmp_ge 26 E dX12_layBack_5 (by decide) ?_ ?_
  · refine s_sub (lv' := []) [] rfl ?_
    exact hx0 m
  · refine s_aload_n 0 E dX12_layBack_8 rfl rfl ?_
    refine s_getr (k := 0) (T := TX12) 76 E rfl rfl rfl inX12 (by decide) W1239 dX12_layBack_9 ?_
    refine s_iload_n 1 E dX12_layBack_12 rfl rfl ?_
    refine s_aload_n 0 E dX12_layBack_13 rfl rfl ?_
    refine s_getr (k := 2) (T := TX12) 76 E rfl rfl rfl inX12 (by decide) W1241 dX12_layBack_14 ?_
    refine s_iload_n 1 E dX12_layBack_17 rfl rfl ?_
    refine s_iald E dX12_layBack_18 (fun v1 => ?_)
    refine s_iast E dX12_layBack_19 (fun m2 => ?_)
    refine s_iincL (v := (1 : Int32)) 1 [1, 0] (fun w3 => [(0, .ref (G.2.1 76)), (1, .int w3)]) E dX12_layBack_20 rfl (by decide) (by rw [hn]; decide) (fun _ => rfl) (fun w3 => ?_)
    refine s_goto 2 E dX12_layBack_23 (by decide) ?_
    exact hb (w3, m2)
def r_layBack_2 (a1 : Int32) (m : M) : Option (M) :=
  Option.bind (iter (fun z => r_layBack_2b z.1 z.2) FU (a1, m)) (fun r => some r)
set_option maxRecDepth 20000 in
theorem t_r_layBack_2 {G : GG} {x : Cx} (E : En G x cX12_layBack "WreckBoardModel" 1 none) (hn : xn x = 2) (a1 : Int32) (m : M) : Sm G x 2 [(0, .ref (G.2.1 76)), (1, .int a1)] [] m (r_layBack_2 a1 m) KWv := by
  unfold r_layBack_2
  refine s_loop (fun z => [(0, .ref (G.2.1 76)), (1, .int z.1)]) (fun z => z.2) (fun K2 hb2 hr2 z => ?_) FU (a1, m)
  refine t_r_layBack_2b (K := K2) E hn z.1 z.2 hb2 (fun r => s_out (hr2 r) ?_)
  · exact s_vret E rfl dX12_layBack_26
def r_layBack  (m : M) : Option (M) :=
  r_layBack_2 (0 : Int32) m
set_option maxRecDepth 20000 in
theorem t_r_layBack {G : GG} {x : Cx} (E : En G x cX12_layBack "WreckBoardModel" 1 none) (hn : xn x = 2)  (m : M) : Sm G x 0 [(0, .ref (G.2.1 76))] [] m (r_layBack m) KWv := by
  unfold r_layBack
  refine s_iconst (v := (0 : Int32)) E dX12_layBack_0 (by decide) ?_
  refine s_istore_n (lv' := [(0, .ref (G.2.1 76)), (1, .int (0 : Int32))]) [1, 0] E dX12_layBack_1 rfl (by rw [hn]; decide) rfl ?_
  exact t_r_layBack_2 E hn (0 : Int32) m
set_option maxRecDepth 20000 in
theorem C_r_layBack (l : Launch) (G : GG)  (m : M) {z : M} (hz : r_layBack m = some z) : Ct l G yX12_layBack cX12_layBack 2 none 1 [.ref (G.2.1 76)] m none z :=
  ct_of (K := KWv) (by decide) (Nat.le_of_ble_eq_true rfl) (congrArg (fun q => Option.bind q _) hz) (fun x hl hn E => (t_r_layBack E hn  m))
theorem mdX12_layBack : mdq yX12_layBack 0 := ⟨by decide, by decide, by decide +kernel⟩
theorem dX12_on_0 : decode cX12_on 0 = .ok (.iload_n 1, 1) := by decide +kernel
theorem dX12_on_1 : decode cX12_on 1 = .ok (.iconst 0, 1) := by decide +kernel
theorem dX12_on_2 : decode cX12_on 2 = .ok (.bipush 16, 2) := by decide +kernel
theorem dX12_on_4 : decode cX12_on 4 = .ok (.invokestatic 71, 3) := by decide +kernel
theorem dX12_on_7 : decode cX12_on 7 = .ok (.ifCond .ne 5, 3) := by decide +kernel
theorem dX12_on_10 : decode cX12_on 10 = .ok (.iconst (-1), 1) := by decide +kernel
theorem dX12_on_11 : decode cX12_on 11 = .ok (.ireturn, 1) := by decide +kernel
theorem dX12_on_12 : decode cX12_on 12 = .ok (.aload_n 0, 1) := by decide +kernel
theorem dX12_on_13 : decode cX12_on 13 = .ok (.invokevirtual 241, 3) := by decide +kernel
theorem dX12_on_16 : decode cX12_on 16 = .ok (.aload_n 0, 1) := by decide +kernel
theorem dX12_on_17 : decode cX12_on 17 = .ok (.iload_n 1, 1) := by decide +kernel
theorem dX12_on_18 : decode cX12_on 18 = .ok (.invokevirtual 244, 3) := by decide +kernel
theorem dX12_on_21 : decode cX12_on 21 = .ok (.istore_n 2, 1) := by decide +kernel
theorem dX12_on_22 : decode cX12_on 22 = .ok (.aload_n 0, 1) := by decide +kernel
theorem dX12_on_23 : decode cX12_on 23 = .ok (.invokevirtual 247, 3) := by decide +kernel
theorem dX12_on_26 : decode cX12_on 26 = .ok (.iload_n 2, 1) := by decide +kernel
theorem dX12_on_27 : decode cX12_on 27 = .ok (.ireturn, 1) := by decide +kernel
def r_on (a1 : Int32) (m : M) : Option (Int32 × M) :=
  Option.bind (r_in1 a1 (0 : Int32) (16 : Int32) m) (fun v1 => (if v1 = 0 then some ((-1 : Int32), m) else Option.bind (r_layDown m) (fun m2 => Option.bind (r_restOf a1 m2) (fun z3 => Option.bind (r_layBack z3.2) (fun m4 => some (z3.1, m4))))))
set_option maxRecDepth 20000 in
theorem t_r_on {G : GG} {x : Cx} (E : En G x cX12_on "WreckBoardModel" 10 (some .int)) (hn : xn x = 3) (a1 : Int32) (m : M) : Sm G x 0 [(0, .ref (G.2.1 76)), (1, .int a1)] [] m (r_on a1 m) KWi := by
  unfold r_on
  refine s_iload_n 1 E dX12_on_0 rfl rfl ?_
  refine s_iconst (v := (0 : Int32)) E dX12_on_1 (by decide) ?_
  refine s_bipush (v := (16 : Int32)) E dX12_on_2 (by decide) ?_
  refine s_bd (fun v1 hz => ?_)
  refine s_cS (rest := []) E (C_r_in1 (xl x) G a1 (0 : Int32) (16 : Int32) m hz) mdX12_in1 W1359 W1360 W103 W1361 rfl rfl (Nat.le_of_ble_eq_true rfl) ⟨by decide, by decide⟩ dX12_on_4 ?_
  refine s_if_ne 12 E dX12_on_7 (by decide) ?_ ?_
  · refine s_aload_n 0 E dX12_on_12 rfl rfl ?_
    refine s_bd (fun m2 hz => ?_)
    refine s_cV (rest := []) E (C_r_layDown (xl x) G  m hz) mdX12_layDown W1582 W1584 W62 W103 W1585 rfl rfl rfl rfl (Nat.le_of_ble_eq_true rfl) ⟨by decide, by decide⟩ dX12_on_13 ?_
    refine s_aload_n 0 E dX12_on_16 rfl rfl ?_
    refine s_iload_n 1 E dX12_on_17 rfl rfl ?_
    refine s_bd (fun z3 hz => ?_)
    refine s_cV (rest := []) E (C_r_restOf (xl x) G a1 m2 hz) mdX12_restOf W1586 W1588 W63 W103 W1589 rfl rfl rfl rfl (Nat.le_of_ble_eq_true rfl) ⟨by decide, by decide⟩ dX12_on_18 ?_
    refine s_istore_n (lv' := [(0, .ref (G.2.1 76)), (2, .int z3.1)]) [1, 0] E dX12_on_21 rfl (by rw [hn]; decide) rfl ?_
    refine s_aload_n 0 E dX12_on_22 rfl rfl ?_
    refine s_bd (fun m4 hz => ?_)
    refine s_cV (rest := []) E (C_r_layBack (xl x) G  z3.2 hz) mdX12_layBack W1590 W1592 W64 W103 W1593 rfl rfl rfl rfl (Nat.le_of_ble_eq_true rfl) ⟨by decide, by decide⟩ dX12_on_23 ?_
    refine s_iload_n 1 E dX12_on_26 rfl rfl ?_
    exact s_iret E rfl dX12_on_27
  · refine s_iconst (v := (-1 : Int32)) E dX12_on_10 (by decide) ?_
    exact s_iret E rfl dX12_on_11
set_option maxRecDepth 20000 in
theorem C_r_on (l : Launch) (G : GG) (a1 : Int32) (m : M) {z : Int32 × M} (hz : r_on a1 m = some z) : Ct l G yX12_on cX12_on 3 (some .int) 10 [.ref (G.2.1 76), .int a1] m (some (.int z.1)) z.2 :=
  ct_of (K := KWi) (by decide) (Nat.le_of_ble_eq_true rfl) (congrArg (fun q => Option.bind q _) hz) (fun x hl hn E => (t_r_on E hn a1 m))
theorem dX12_when_0 : decode cX12_when 0 = .ok (.aload_n 0, 1) := by decide +kernel
theorem dX12_when_1 : decode cX12_when 1 = .ok (.iload_n 1, 1) := by decide +kernel
theorem dX12_when_2 : decode cX12_when 2 = .ok (.invokevirtual 226, 3) := by decide +kernel
theorem dX12_when_5 : decode cX12_when 5 = .ok (.ifCond .ne 5, 3) := by decide +kernel
theorem dX12_when_8 : decode cX12_when 8 = .ok (.iconst (-1), 1) := by decide +kernel
theorem dX12_when_9 : decode cX12_when 9 = .ok (.ireturn, 1) := by decide +kernel
theorem dX12_when_10 : decode cX12_when 10 = .ok (.aload_n 0, 1) := by decide +kernel
theorem dX12_when_11 : decode cX12_when 11 = .ok (.invokevirtual 241, 3) := by decide +kernel
theorem dX12_when_14 : decode cX12_when 14 = .ok (.bipush (-3), 2) := by decide +kernel
theorem dX12_when_16 : decode cX12_when 16 = .ok (.istore_n 2, 1) := by decide +kernel
theorem dX12_when_17 : decode cX12_when 17 = .ok (.aload_n 0, 1) := by decide +kernel
theorem dX12_when_18 : decode cX12_when 18 = .ok (.iload_n 1, 1) := by decide +kernel
theorem dX12_when_19 : decode cX12_when 19 = .ok (.iconst 4, 1) := by decide +kernel
theorem dX12_when_20 : decode cX12_when 20 = .ok (.invokevirtual 79, 3) := by decide +kernel
theorem dX12_when_23 : decode cX12_when 23 = .ok (.ifCond .ne 7, 3) := by decide +kernel
theorem dX12_when_26 : decode cX12_when 26 = .ok (.iconst 1, 1) := by decide +kernel
theorem dX12_when_27 : decode cX12_when 27 = .ok (.goto 4, 3) := by decide +kernel
theorem dX12_when_30 : decode cX12_when 30 = .ok (.iconst 0, 1) := by decide +kernel
theorem dX12_when_31 : decode cX12_when 31 = .ok (.istore_n 3, 1) := by decide +kernel
theorem dX12_when_32 : decode cX12_when 32 = .ok (.iload_n 3, 1) := by decide +kernel
theorem dX12_when_33 : decode cX12_when 33 = .ok (.ifCond .eq 58, 3) := by decide +kernel
theorem dX12_when_36 : decode cX12_when 36 = .ok (.aload_n 0, 1) := by decide +kernel
theorem dX12_when_37 : decode cX12_when 37 = .ok (.invokevirtual 232, 3) := by decide +kernel
theorem dX12_when_40 : decode cX12_when 40 = .ok (.ifCond .ne 51, 3) := by decide +kernel
theorem dX12_when_43 : decode cX12_when 43 = .ok (.aload_n 0, 1) := by decide +kernel
theorem dX12_when_44 : decode cX12_when 44 = .ok (.iconst (-1), 1) := by decide +kernel
theorem dX12_when_45 : decode cX12_when 45 = .ok (.invokevirtual 238, 3) := by decide +kernel
theorem dX12_when_48 : decode cX12_when 48 = .ok (.istore 4, 2) := by decide +kernel
theorem dX12_when_50 : decode cX12_when 50 = .ok (.aload_n 0, 1) := by decide +kernel
theorem dX12_when_51 : decode cX12_when 51 = .ok (.iload_n 1, 1) := by decide +kernel
theorem dX12_when_52 : decode cX12_when 52 = .ok (.iconst 4, 1) := by decide +kernel
theorem dX12_when_53 : decode cX12_when 53 = .ok (.invokevirtual 79, 3) := by decide +kernel
theorem dX12_when_56 : decode cX12_when 56 = .ok (.ifCond .ne 7, 3) := by decide +kernel
theorem dX12_when_59 : decode cX12_when 59 = .ok (.iconst 1, 1) := by decide +kernel
theorem dX12_when_60 : decode cX12_when 60 = .ok (.goto 4, 3) := by decide +kernel
theorem dX12_when_63 : decode cX12_when 63 = .ok (.iconst 0, 1) := by decide +kernel
theorem dX12_when_64 : decode cX12_when 64 = .ok (.istore_n 3, 1) := by decide +kernel
theorem dX12_when_65 : decode cX12_when 65 = .ok (.iload_n 3, 1) := by decide +kernel
theorem dX12_when_66 : decode cX12_when 66 = .ok (.ifCond .ne 8, 3) := by decide +kernel
theorem dX12_when_69 : decode cX12_when 69 = .ok (.iload 4, 2) := by decide +kernel
theorem dX12_when_71 : decode cX12_when 71 = .ok (.ifCond .ge 8, 3) := by decide +kernel
theorem dX12_when_74 : decode cX12_when 74 = .ok (.bipush (-3), 2) := by decide +kernel
theorem dX12_when_76 : decode cX12_when 76 = .ok (.goto 11, 3) := by decide +kernel
theorem dX12_when_79 : decode cX12_when 79 = .ok (.aload_n 0, 1) := by decide +kernel
theorem dX12_when_80 : decode cX12_when 80 = .ok (.getfield 9, 3) := by decide +kernel
theorem dX12_when_83 : decode cX12_when 83 = .ok (.iconst 0, 1) := by decide +kernel
theorem dX12_when_84 : decode cX12_when 84 = .ok (.iaload, 1) := by decide +kernel
theorem dX12_when_85 : decode cX12_when 85 = .ok (.iconst 1, 1) := by decide +kernel
theorem dX12_when_86 : decode cX12_when 86 = .ok (.isub, 1) := by decide +kernel
theorem dX12_when_87 : decode cX12_when 87 = .ok (.istore_n 2, 1) := by decide +kernel
theorem dX12_when_88 : decode cX12_when 88 = .ok (.goto (-56), 3) := by decide +kernel
theorem dX12_when_91 : decode cX12_when 91 = .ok (.aload_n 0, 1) := by decide +kernel
theorem dX12_when_92 : decode cX12_when 92 = .ok (.invokevirtual 247, 3) := by decide +kernel
theorem dX12_when_95 : decode cX12_when 95 = .ok (.iload_n 2, 1) := by decide +kernel
theorem dX12_when_96 : decode cX12_when 96 = .ok (.ireturn, 1) := by decide +kernel
def r_when_87 (a1 : Int32) (a3 : Int32) (s0 : Int32) (m : M) : Option ((Int32 × Int32 × M) ⊕ ((Int32 × M))) :=
  some (.inl (s0, a3, m))
set_option maxRecDepth 20000 in
theorem t_r_when_87 {G : GG} {x : Cx} {K : ((Int32 × Int32 × M) ⊕ ((Int32 × M))) → Option (Option Value × M)} (E : En G x cX12_when "WreckBoardModel" 9 (some .int)) (hn : xn x = 5) (a1 : Int32) (a3 : Int32) (s0 : Int32) (m : M) (hb : ∀ z : Int32 × Int32 × M, Sm G x 32 [(0, .ref (G.2.1 76)), (1, .int a1), (2, .int z.1), (3, .int z.2.1)] [] z.2.2 (some (.inl z)) K) (hx0 : ∀ z : Int32 × M, Sm G x 91 [(0, .ref (G.2.1 76)), (2, .int z.1)] [] z.2 (some (.inr z)) K) : Sm G x 87 [(0, .ref (G.2.1 76)), (1, .int a1), (3, .int a3)] [.int s0] m (r_when_87 a1 a3 s0 m) K := by
  unfold r_when_87
  refine s_istore_n (lv' := [(0, .ref (G.2.1 76)), (1, .int a1), (2, .int s0), (3, .int a3)]) [1, 2, 0, 3] E dX12_when_87 rfl (by rw [hn]; decide) rfl ?_
  refine s_goto 32 E dX12_when_88 (by decide) ?_
  exact hb (s0, a3, m)
def r_when_74 (a1 : Int32) (a3 : Int32) (m : M) : Option ((Int32 × Int32 × M) ⊕ ((Int32 × M))) :=
  r_when_87 a1 a3 (-3 : Int32) m
set_option maxRecDepth 20000 in
theorem t_r_when_74 {G : GG} {x : Cx} {K : ((Int32 × Int32 × M) ⊕ ((Int32 × M))) → Option (Option Value × M)} (E : En G x cX12_when "WreckBoardModel" 9 (some .int)) (hn : xn x = 5) (a1 : Int32) (a3 : Int32) (m : M) (hb : ∀ z : Int32 × Int32 × M, Sm G x 32 [(0, .ref (G.2.1 76)), (1, .int a1), (2, .int z.1), (3, .int z.2.1)] [] z.2.2 (some (.inl z)) K) (hx0 : ∀ z : Int32 × M, Sm G x 91 [(0, .ref (G.2.1 76)), (2, .int z.1)] [] z.2 (some (.inr z)) K) : Sm G x 74 [(0, .ref (G.2.1 76)), (1, .int a1), (3, .int a3)] [] m (r_when_74 a1 a3 m) K := by
  unfold r_when_74
  refine s_bipush (v := (-3 : Int32)) E dX12_when_74 (by decide) ?_
  refine s_goto 87 E dX12_when_76 (by decide) ?_
  exact t_r_when_87 E hn a1 a3 (-3 : Int32) m hb hx0
def r_when_64 (a1 : Int32) (a4 : Int32) (s0 : Int32) (m : M) : Option ((Int32 × Int32 × M) ⊕ ((Int32 × M))) :=
  (if s0 = 0 then (if 0 ≤ a4 then Option.bind (rdI m 77 (0 : Int32)) (fun v1 => r_when_87 a1 s0 (v1 - (1 : Int32)) m) else r_when_74 a1 s0 m) else r_when_74 a1 s0 m)
set_option maxRecDepth 20000 in
theorem t_r_when_64 {G : GG} {x : Cx} {K : ((Int32 × Int32 × M) ⊕ ((Int32 × M))) → Option (Option Value × M)} (E : En G x cX12_when "WreckBoardModel" 9 (some .int)) (hn : xn x = 5) (a1 : Int32) (a4 : Int32) (s0 : Int32) (m : M) (hb : ∀ z : Int32 × Int32 × M, Sm G x 32 [(0, .ref (G.2.1 76)), (1, .int a1), (2, .int z.1), (3, .int z.2.1)] [] z.2.2 (some (.inl z)) K) (hx0 : ∀ z : Int32 × M, Sm G x 91 [(0, .ref (G.2.1 76)), (2, .int z.1)] [] z.2 (some (.inr z)) K) : Sm G x 64 [(0, .ref (G.2.1 76)), (1, .int a1), (4, .int a4)] [.int s0] m (r_when_64 a1 a4 s0 m) K := by
  unfold r_when_64
  refine s_istore_n (lv' := [(0, .ref (G.2.1 76)), (1, .int a1), (3, .int s0), (4, .int a4)]) [1, 2, 0, 3] E dX12_when_64 rfl (by rw [hn]; decide) rfl ?_
  refine s_iload_n 2 E dX12_when_65 rfl rfl ?_
  refine s_if_ne 74 E dX12_when_66 (by decide) ?_ ?_
  · refine s_sub (lv' := [(0, .ref (G.2.1 76)), (1, .int a1), (3, .int s0)]) [0, 1, 2] rfl ?_
    exact t_r_when_74 E hn a1 s0 m hb hx0
  · refine s_iload 3 E dX12_when_69 rfl ?_
    refine s_if_ge 79 E dX12_when_71 (by decide) ?_ ?_
    · refine s_aload_n 0 E dX12_when_79 rfl rfl ?_
      refine s_getr (k := 0) (T := TX12) 76 E rfl rfl rfl inX12 (by decide) W1239 dX12_when_80 ?_
      refine s_iconst (v := (0 : Int32)) E dX12_when_83 (by decide) ?_
      refine s_iald E dX12_when_84 (fun v1 => ?_)
      refine s_iconst (v := (1 : Int32)) E dX12_when_85 (by decide) ?_
      refine s_isub E dX12_when_86 ?_
      refine s_sub (lv' := [(0, .ref (G.2.1 76)), (1, .int a1), (3, .int s0)]) [0, 1, 2] rfl ?_
      exact t_r_when_87 E hn a1 s0 (v1 - (1 : Int32)) m hb hx0
    · refine s_sub (lv' := [(0, .ref (G.2.1 76)), (1, .int a1), (3, .int s0)]) [0, 1, 2] rfl ?_
      exact t_r_when_74 E hn a1 s0 m hb hx0
def r_when_32b (a1 : Int32) (a2 : Int32) (a3 : Int32) (m : M) : Option ((Int32 × Int32 × M) ⊕ ((Int32 × M))) :=
  (if a3 = 0 then some (.inr (a2, m)) else Option.bind (r_isOver m) (fun v1 => (if v1 = 0 then Option.bind (r_goesBy (-1 : Int32) m) (fun z2 => Option.bind (r_get a1 (4 : Int32) z2.2) (fun v3 => (if v3 = 0 then r_when_64 a1 z2.1 (1 : Int32) z2.2 else r_when_64 a1 z2.1 (0 : Int32) z2.2))) else some (.inr (a2, m)))))
set_option maxRecDepth 20000 in
theorem t_r_when_32b {G : GG} {x : Cx} {K : ((Int32 × Int32 × M) ⊕ ((Int32 × M))) → Option (Option Value × M)} (E : En G x cX12_when "WreckBoardModel" 9 (some .int)) (hn : xn x = 5) (a1 : Int32) (a2 : Int32) (a3 : Int32) (m : M) (hb : ∀ z : Int32 × Int32 × M, Sm G x 32 [(0, .ref (G.2.1 76)), (1, .int a1), (2, .int z.1), (3, .int z.2.1)] [] z.2.2 (some (.inl z)) K) (hx0 : ∀ z : Int32 × M, Sm G x 91 [(0, .ref (G.2.1 76)), (2, .int z.1)] [] z.2 (some (.inr z)) K) : Sm G x 32 [(0, .ref (G.2.1 76)), (1, .int a1), (2, .int a2), (3, .int a3)] [] m (r_when_32b a1 a2 a3 m) K := by
  unfold r_when_32b
  refine s_iload_n 3 E dX12_when_32 rfl rfl ?_
  refine s_if_eq 91 E dX12_when_33 (by decide) ?_ ?_
  · refine s_sub (lv' := [(0, .ref (G.2.1 76)), (2, .int a2)]) [0, 2] rfl ?_
    exact hx0 (a2, m)
  · refine s_aload_n 0 E dX12_when_36 rfl rfl ?_
    refine s_bd (fun v1 hz => ?_)
    refine s_cV (rest := []) E (C_r_isOver (xl x) G  m hz) mdX12_isOver W1545 W1547 W57 W103 W1548 rfl rfl rfl rfl (Nat.le_of_ble_eq_true rfl) ⟨by decide, by decide⟩ dX12_when_37 ?_
    refine s_if_ne 91 E dX12_when_40 (by decide) ?_ ?_
    · refine s_sub (lv' := [(0, .ref (G.2.1 76)), (2, .int a2)]) [0, 2] rfl ?_
      exact hx0 (a2, m)
    · refine s_aload_n 0 E dX12_when_43 rfl rfl ?_
      refine s_iconst (v := (-1 : Int32)) E dX12_when_44 (by decide) ?_
      refine s_bd (fun z2 hz => ?_)
      refine s_cV (rest := []) E (C_r_goesBy (xl x) G (-1 : Int32) m hz) mdX12_goesBy W1557 W1559 W59 W103 W1560 rfl rfl rfl rfl (Nat.le_of_ble_eq_true rfl) ⟨by decide, by decide⟩ dX12_when_45 ?_
      refine s_istore (lv' := [(0, .ref (G.2.1 76)), (1, .int a1), (4, .int z2.1)]) [1, 2, 0] E dX12_when_48 (by rw [hn]; decide) rfl ?_
      refine s_aload_n 0 E dX12_when_50 rfl rfl ?_
      refine s_iload_n 1 E dX12_when_51 rfl rfl ?_
      refine s_iconst (v := (4 : Int32)) E dX12_when_52 (by decide) ?_
      refine s_bd (fun v3 hz => ?_)
      refine s_cV (rest := []) E (C_r_get (xl x) G a1 (4 : Int32) z2.2 hz) mdX12_get W1453 W1455 W46 W103 W1456 rfl rfl rfl rfl (Nat.le_of_ble_eq_true rfl) ⟨by decide, by decide⟩ dX12_when_53 ?_
      refine s_if_ne 63 E dX12_when_56 (by decide) ?_ ?_
      · refine s_iconst (v := (0 : Int32)) E dX12_when_63 (by decide) ?_
        exact t_r_when_64 E hn a1 z2.1 (0 : Int32) z2.2 hb hx0
      · refine s_iconst (v := (1 : Int32)) E dX12_when_59 (by decide) ?_
        refine s_goto 64 E dX12_when_60 (by decide) ?_
        exact t_r_when_64 E hn a1 z2.1 (1 : Int32) z2.2 hb hx0
def r_when_91 (a2 : Int32) (m : M) : Option (Int32 × M) :=
  Option.bind (r_layBack m) (fun m1 => some (a2, m1))
set_option maxRecDepth 20000 in
theorem t_r_when_91 {G : GG} {x : Cx} (E : En G x cX12_when "WreckBoardModel" 9 (some .int)) (hn : xn x = 5) (a2 : Int32) (m : M) : Sm G x 91 [(0, .ref (G.2.1 76)), (2, .int a2)] [] m (r_when_91 a2 m) KWi := by
  unfold r_when_91
  refine s_aload_n 0 E dX12_when_91 rfl rfl ?_
  refine s_bd (fun m1 hz => ?_)
  refine s_cV (rest := []) E (C_r_layBack (xl x) G  m hz) mdX12_layBack W1590 W1592 W64 W103 W1593 rfl rfl rfl rfl (Nat.le_of_ble_eq_true rfl) ⟨by decide, by decide⟩ dX12_when_92 ?_
  refine s_iload_n 1 E dX12_when_95 rfl rfl ?_
  exact s_iret E rfl dX12_when_96
def r_when_32 (a1 : Int32) (a2 : Int32) (a3 : Int32) (m : M) : Option (Int32 × M) :=
  Option.bind (iter (fun z => r_when_32b a1 z.1 z.2.1 z.2.2) FU (a2, a3, m)) (fun r => r_when_91 r.1 r.2)
set_option maxRecDepth 20000 in
theorem t_r_when_32 {G : GG} {x : Cx} (E : En G x cX12_when "WreckBoardModel" 9 (some .int)) (hn : xn x = 5) (a1 : Int32) (a2 : Int32) (a3 : Int32) (m : M) : Sm G x 32 [(0, .ref (G.2.1 76)), (1, .int a1), (2, .int a2), (3, .int a3)] [] m (r_when_32 a1 a2 a3 m) KWi := by
  unfold r_when_32
  refine s_loop (fun z => [(0, .ref (G.2.1 76)), (1, .int a1), (2, .int z.1), (3, .int z.2.1)]) (fun z => z.2.2) (fun K2 hb2 hr2 z => ?_) FU (a2, a3, m)
  refine t_r_when_32b (K := K2) E hn a1 z.1 z.2.1 z.2.2 hb2 (fun r => s_out (hr2 r) ?_)
  · exact t_r_when_91 E hn r.1 r.2
def r_when_31 (a1 : Int32) (s0 : Int32) (m : M) : Option (Int32 × M) :=
  r_when_32 a1 (-3 : Int32) s0 m
set_option maxRecDepth 20000 in
theorem t_r_when_31 {G : GG} {x : Cx} (E : En G x cX12_when "WreckBoardModel" 9 (some .int)) (hn : xn x = 5) (a1 : Int32) (s0 : Int32) (m : M) : Sm G x 31 [(0, .ref (G.2.1 76)), (1, .int a1), (2, .int (-3 : Int32))] [.int s0] m (r_when_31 a1 s0 m) KWi := by
  unfold r_when_31
  refine s_istore_n (lv' := [(0, .ref (G.2.1 76)), (1, .int a1), (2, .int (-3 : Int32)), (3, .int s0)]) [1, 2, 3, 0] E dX12_when_31 rfl (by rw [hn]; decide) rfl ?_
  exact t_r_when_32 E hn a1 (-3 : Int32) s0 m
def r_when (a1 : Int32) (m : M) : Option (Int32 × M) :=
  Option.bind (r_isMember a1 m) (fun v1 => (if v1 = 0 then some ((-1 : Int32), m) else Option.bind (r_layDown m) (fun m2 => Option.bind (r_get a1 (4 : Int32) m2) (fun v3 => (if v3 = 0 then r_when_31 a1 (1 : Int32) m2 else r_when_31 a1 (0 : Int32) m2)))))
set_option maxRecDepth 20000 in
theorem t_r_when {G : GG} {x : Cx} (E : En G x cX12_when "WreckBoardModel" 9 (some .int)) (hn : xn x = 5) (a1 : Int32) (m : M) : Sm G x 0 [(0, .ref (G.2.1 76)), (1, .int a1)] [] m (r_when a1 m) KWi := by
  unfold r_when
  refine s_aload_n 0 E dX12_when_0 rfl rfl ?_
  refine s_iload_n 1 E dX12_when_1 rfl rfl ?_
  refine s_bd (fun v1 hz => ?_)
  refine s_cV (rest := []) E (C_r_isMember (xl x) G a1 m hz) mdX12_isMember W1441 W1443 W43 W103 W1444 rfl rfl rfl rfl (Nat.le_of_ble_eq_true rfl) ⟨by decide, by decide⟩ dX12_when_2 ?_
  refine s_if_ne 10 E dX12_when_5 (by decide) ?_ ?_
  · refine s_aload_n 0 E dX12_when_10 rfl rfl ?_
    refine s_bd (fun m2 hz => ?_)
    refine s_cV (rest := []) E (C_r_layDown (xl x) G  m hz) mdX12_layDown W1582 W1584 W62 W103 W1585 rfl rfl rfl rfl (Nat.le_of_ble_eq_true rfl) ⟨by decide, by decide⟩ dX12_when_11 ?_
    refine s_bipush (v := (-3 : Int32)) E dX12_when_14 (by decide) ?_
    refine s_istore_n (lv' := [(0, .ref (G.2.1 76)), (1, .int a1), (2, .int (-3 : Int32))]) [1, 2, 0] E dX12_when_16 rfl (by rw [hn]; decide) rfl ?_
    refine s_aload_n 0 E dX12_when_17 rfl rfl ?_
    refine s_iload_n 1 E dX12_when_18 rfl rfl ?_
    refine s_iconst (v := (4 : Int32)) E dX12_when_19 (by decide) ?_
    refine s_bd (fun v3 hz => ?_)
    refine s_cV (rest := []) E (C_r_get (xl x) G a1 (4 : Int32) m2 hz) mdX12_get W1453 W1455 W46 W103 W1456 rfl rfl rfl rfl (Nat.le_of_ble_eq_true rfl) ⟨by decide, by decide⟩ dX12_when_20 ?_
    refine s_if_ne 30 E dX12_when_23 (by decide) ?_ ?_
    · refine s_iconst (v := (0 : Int32)) E dX12_when_30 (by decide) ?_
      exact t_r_when_31 E hn a1 (0 : Int32) m2
    · refine s_iconst (v := (1 : Int32)) E dX12_when_26 (by decide) ?_
      refine s_goto 31 E dX12_when_27 (by decide) ?_
      exact t_r_when_31 E hn a1 (1 : Int32) m2
  · refine s_iconst (v := (-1 : Int32)) E dX12_when_8 (by decide) ?_
    exact s_iret E rfl dX12_when_9
set_option maxRecDepth 20000 in
theorem C_r_when (l : Launch) (G : GG) (a1 : Int32) (m : M) {z : Int32 × M} (hz : r_when a1 m = some z) : Ct l G yX12_when cX12_when 5 (some .int) 9 [.ref (G.2.1 76), .int a1] m (some (.int z.1)) z.2 :=
  ct_of (K := KWi) (by decide) (Nat.le_of_ble_eq_true rfl) (congrArg (fun q => Option.bind q _) hz) (fun x hl hn E => (t_r_when E hn a1 m))
theorem dX12_bestFor_0 : decode cX12_bestFor 0 = .ok (.aload_n 0, 1) := by decide +kernel
theorem dX12_bestFor_1 : decode cX12_bestFor 1 = .ok (.iload_n 1, 1) := by decide +kernel
theorem dX12_bestFor_2 : decode cX12_bestFor 2 = .ok (.invokevirtual 226, 3) := by decide +kernel
theorem dX12_bestFor_5 : decode cX12_bestFor 5 = .ok (.ifCond .ne 5, 3) := by decide +kernel
theorem dX12_bestFor_8 : decode cX12_bestFor 8 = .ok (.iconst (-1), 1) := by decide +kernel
theorem dX12_bestFor_9 : decode cX12_bestFor 9 = .ok (.ireturn, 1) := by decide +kernel
theorem dX12_bestFor_10 : decode cX12_bestFor 10 = .ok (.iconst 0, 1) := by decide +kernel
theorem dX12_bestFor_11 : decode cX12_bestFor 11 = .ok (.istore 4, 2) := by decide +kernel
theorem dX12_bestFor_13 : decode cX12_bestFor 13 = .ok (.iconst (-1), 1) := by decide +kernel
theorem dX12_bestFor_14 : decode cX12_bestFor 14 = .ok (.istore 5, 2) := by decide +kernel
theorem dX12_bestFor_16 : decode cX12_bestFor 16 = .ok (.aload_n 0, 1) := by decide +kernel
theorem dX12_bestFor_17 : decode cX12_bestFor 17 = .ok (.invokevirtual 241, 3) := by decide +kernel
theorem dX12_bestFor_20 : decode cX12_bestFor 20 = .ok (.iconst 0, 1) := by decide +kernel
theorem dX12_bestFor_21 : decode cX12_bestFor 21 = .ok (.istore 6, 2) := by decide +kernel
theorem dX12_bestFor_23 : decode cX12_bestFor 23 = .ok (.iload 6, 2) := by decide +kernel
theorem dX12_bestFor_25 : decode cX12_bestFor 25 = .ok (.iload_n 3, 1) := by decide +kernel
theorem dX12_bestFor_26 : decode cX12_bestFor 26 = .ok (.if_icmp .gt 61, 3) := by decide +kernel
theorem dX12_bestFor_29 : decode cX12_bestFor 29 = .ok (.aload_n 0, 1) := by decide +kernel
theorem dX12_bestFor_30 : decode cX12_bestFor 30 = .ok (.iload_n 1, 1) := by decide +kernel
theorem dX12_bestFor_31 : decode cX12_bestFor 31 = .ok (.iload_n 2, 1) := by decide +kernel
theorem dX12_bestFor_32 : decode cX12_bestFor 32 = .ok (.iload 6, 2) := by decide +kernel
theorem dX12_bestFor_34 : decode cX12_bestFor 34 = .ok (.invokevirtual 198, 3) := by decide +kernel
theorem dX12_bestFor_37 : decode cX12_bestFor 37 = .ok (.aload_n 0, 1) := by decide +kernel
theorem dX12_bestFor_38 : decode cX12_bestFor 38 = .ok (.bipush 16, 2) := by decide +kernel
theorem dX12_bestFor_40 : decode cX12_bestFor 40 = .ok (.invokevirtual 244, 3) := by decide +kernel
theorem dX12_bestFor_43 : decode cX12_bestFor 43 = .ok (.istore 7, 2) := by decide +kernel
theorem dX12_bestFor_45 : decode cX12_bestFor 45 = .ok (.iload 7, 2) := by decide +kernel
theorem dX12_bestFor_47 : decode cX12_bestFor 47 = .ok (.iload 5, 2) := by decide +kernel
theorem dX12_bestFor_49 : decode cX12_bestFor 49 = .ok (.if_icmp .le 8, 3) := by decide +kernel
theorem dX12_bestFor_52 : decode cX12_bestFor 52 = .ok (.iload 6, 2) := by decide +kernel
theorem dX12_bestFor_54 : decode cX12_bestFor 54 = .ok (.goto 5, 3) := by decide +kernel
theorem dX12_bestFor_57 : decode cX12_bestFor 57 = .ok (.iload 4, 2) := by decide +kernel
theorem dX12_bestFor_59 : decode cX12_bestFor 59 = .ok (.istore 4, 2) := by decide +kernel
theorem dX12_bestFor_61 : decode cX12_bestFor 61 = .ok (.iload 7, 2) := by decide +kernel
theorem dX12_bestFor_63 : decode cX12_bestFor 63 = .ok (.iload 5, 2) := by decide +kernel
theorem dX12_bestFor_65 : decode cX12_bestFor 65 = .ok (.if_icmp .le 8, 3) := by decide +kernel
theorem dX12_bestFor_68 : decode cX12_bestFor 68 = .ok (.iload 7, 2) := by decide +kernel
theorem dX12_bestFor_70 : decode cX12_bestFor 70 = .ok (.goto 5, 3) := by decide +kernel
theorem dX12_bestFor_73 : decode cX12_bestFor 73 = .ok (.iload 5, 2) := by decide +kernel
theorem dX12_bestFor_75 : decode cX12_bestFor 75 = .ok (.istore 5, 2) := by decide +kernel
theorem dX12_bestFor_77 : decode cX12_bestFor 77 = .ok (.aload_n 0, 1) := by decide +kernel
theorem dX12_bestFor_78 : decode cX12_bestFor 78 = .ok (.invokevirtual 247, 3) := by decide +kernel
theorem dX12_bestFor_81 : decode cX12_bestFor 81 = .ok (.iinc 6 1, 3) := by decide +kernel
theorem dX12_bestFor_84 : decode cX12_bestFor 84 = .ok (.goto (-61), 3) := by decide +kernel
theorem dX12_bestFor_87 : decode cX12_bestFor 87 = .ok (.iload 4, 2) := by decide +kernel
theorem dX12_bestFor_89 : decode cX12_bestFor 89 = .ok (.ireturn, 1) := by decide +kernel
def r_bestFor_75 (a1 : Int32) (a2 : Int32) (a3 : Int32) (a4 : Int32) (a6 : Int32) (s0 : Int32) (m : M) : Option ((Int32 × Int32 × Int32 × M) ⊕ ((Int32 × M))) :=
  Option.bind (r_layBack m) (fun m1 => lt (a6 + (1 : Int32)) (fun w2 : Int32 => some (.inl (a4, s0, w2, m1))))
set_option maxRecDepth 20000 in
theorem t_r_bestFor_75 {G : GG} {x : Cx} {K : ((Int32 × Int32 × Int32 × M) ⊕ ((Int32 × M))) → Option (Option Value × M)} (E : En G x cX12_bestFor "WreckBoardModel" 10 (some .int)) (hn : xn x = 8) (a1 : Int32) (a2 : Int32) (a3 : Int32) (a4 : Int32) (a6 : Int32) (s0 : Int32) (m : M) (hb : ∀ z : Int32 × Int32 × Int32 × M, Sm G x 23 [(0, .ref (G.2.1 76)), (1, .int a1), (2, .int a2), (3, .int a3), (4, .int z.1), (5, .int z.2.1), (6, .int z.2.2.1)] [] z.2.2.2 (some (.inl z)) K) (hx0 : ∀ z : Int32 × M, Sm G x 87 [(4, .int z.1)] [] z.2 (some (.inr z)) K) : Sm G x 75 [(0, .ref (G.2.1 76)), (1, .int a1), (2, .int a2), (3, .int a3), (4, .int a4), (6, .int a6)] [.int s0] m (r_bestFor_75 a1 a2 a3 a4 a6 s0 m) K := by
  unfold r_bestFor_75
  refine s_istore (lv' := [(0, .ref (G.2.1 76)), (1, .int a1), (2, .int a2), (3, .int a3), (4, .int a4), (5, .int s0), (6, .int a6)]) [1, 2, 3, 4, 5, 0, 6] E dX12_bestFor_75 (by rw [hn]; decide) rfl ?_
  refine s_aload_n 0 E dX12_bestFor_77 rfl rfl ?_
  refine s_bd (fun m1 hz => ?_)
  refine s_cV (rest := []) E (C_r_layBack (xl x) G  m hz) mdX12_layBack W1590 W1592 W64 W103 W1593 rfl rfl rfl rfl (Nat.le_of_ble_eq_true rfl) ⟨by decide, by decide⟩ dX12_bestFor_78 ?_
  refine s_iincL (v := (1 : Int32)) 6 [1, 2, 3, 4, 5, 6, 0] (fun w2 => [(0, .ref (G.2.1 76)), (1, .int a1), (2, .int a2), (3, .int a3), (4, .int a4), (5, .int s0), (6, .int w2)]) E dX12_bestFor_81 rfl (by decide) (by rw [hn]; decide) (fun _ => rfl) (fun w2 => ?_)
  refine s_goto 23 E dX12_bestFor_84 (by decide) ?_
  exact hb (a4, s0, w2, m1)
def r_bestFor_59 (a1 : Int32) (a2 : Int32) (a3 : Int32) (a5 : Int32) (a6 : Int32) (a7 : Int32) (s0 : Int32) (m : M) : Option ((Int32 × Int32 × Int32 × M) ⊕ ((Int32 × M))) :=
  (if a7 ≤ a5 then r_bestFor_75 a1 a2 a3 s0 a6 a5 m else r_bestFor_75 a1 a2 a3 s0 a6 a7 m)
set_option maxRecDepth 20000 in
theorem t_r_bestFor_59 {G : GG} {x : Cx} {K : ((Int32 × Int32 × Int32 × M) ⊕ ((Int32 × M))) → Option (Option Value × M)} (E : En G x cX12_bestFor "WreckBoardModel" 10 (some .int)) (hn : xn x = 8) (a1 : Int32) (a2 : Int32) (a3 : Int32) (a5 : Int32) (a6 : Int32) (a7 : Int32) (s0 : Int32) (m : M) (hb : ∀ z : Int32 × Int32 × Int32 × M, Sm G x 23 [(0, .ref (G.2.1 76)), (1, .int a1), (2, .int a2), (3, .int a3), (4, .int z.1), (5, .int z.2.1), (6, .int z.2.2.1)] [] z.2.2.2 (some (.inl z)) K) (hx0 : ∀ z : Int32 × M, Sm G x 87 [(4, .int z.1)] [] z.2 (some (.inr z)) K) : Sm G x 59 [(0, .ref (G.2.1 76)), (1, .int a1), (2, .int a2), (3, .int a3), (5, .int a5), (6, .int a6), (7, .int a7)] [.int s0] m (r_bestFor_59 a1 a2 a3 a5 a6 a7 s0 m) K := by
  unfold r_bestFor_59
  refine s_istore (lv' := [(0, .ref (G.2.1 76)), (1, .int a1), (2, .int a2), (3, .int a3), (4, .int s0), (5, .int a5), (6, .int a6), (7, .int a7)]) [1, 2, 3, 4, 0, 5, 6, 7] E dX12_bestFor_59 (by rw [hn]; decide) rfl ?_
  refine s_iload 7 E dX12_bestFor_61 rfl ?_
  refine s_iload 5 E dX12_bestFor_63 rfl ?_
  refine s_icmp_le 73 E dX12_bestFor_65 (by decide) ?_ ?_
  · refine s_iload 5 E dX12_bestFor_73 rfl ?_
    refine s_sub (lv' := [(0, .ref (G.2.1 76)), (1, .int a1), (2, .int a2), (3, .int a3), (4, .int s0), (6, .int a6)]) [0, 1, 2, 3, 4, 6] rfl ?_
    exact t_r_bestFor_75 E hn a1 a2 a3 s0 a6 a5 m hb hx0
  · refine s_iload 7 E dX12_bestFor_68 rfl ?_
    refine s_goto 75 E dX12_bestFor_70 (by decide) ?_
    refine s_sub (lv' := [(0, .ref (G.2.1 76)), (1, .int a1), (2, .int a2), (3, .int a3), (4, .int s0), (6, .int a6)]) [0, 1, 2, 3, 4, 6] rfl ?_
    exact t_r_bestFor_75 E hn a1 a2 a3 s0 a6 a7 m hb hx0
def r_bestFor_23b (a1 : Int32) (a2 : Int32) (a3 : Int32) (a4 : Int32) (a5 : Int32) (a6 : Int32) (m : M) : Option ((Int32 × Int32 × Int32 × M) ⊕ ((Int32 × M))) :=
  (if a3 < a6 then some (.inr (a4, m)) else Option.bind (r_puts a1 a2 a6 m) (fun m1 => Option.bind (r_restOf (16 : Int32) m1) (fun z2 => (if z2.1 ≤ a5 then r_bestFor_59 a1 a2 a3 a5 a6 z2.1 a4 z2.2 else r_bestFor_59 a1 a2 a3 a5 a6 z2.1 a6 z2.2))))
set_option maxRecDepth 20000 in
theorem t_r_bestFor_23b {G : GG} {x : Cx} {K : ((Int32 × Int32 × Int32 × M) ⊕ ((Int32 × M))) → Option (Option Value × M)} (E : En G x cX12_bestFor "WreckBoardModel" 10 (some .int)) (hn : xn x = 8) (a1 : Int32) (a2 : Int32) (a3 : Int32) (a4 : Int32) (a5 : Int32) (a6 : Int32) (m : M) (hb : ∀ z : Int32 × Int32 × Int32 × M, Sm G x 23 [(0, .ref (G.2.1 76)), (1, .int a1), (2, .int a2), (3, .int a3), (4, .int z.1), (5, .int z.2.1), (6, .int z.2.2.1)] [] z.2.2.2 (some (.inl z)) K) (hx0 : ∀ z : Int32 × M, Sm G x 87 [(4, .int z.1)] [] z.2 (some (.inr z)) K) : Sm G x 23 [(0, .ref (G.2.1 76)), (1, .int a1), (2, .int a2), (3, .int a3), (4, .int a4), (5, .int a5), (6, .int a6)] [] m (r_bestFor_23b a1 a2 a3 a4 a5 a6 m) K := by
  unfold r_bestFor_23b
  refine s_iload 6 E dX12_bestFor_23 rfl ?_
  refine s_iload_n 3 E dX12_bestFor_25 rfl rfl ?_
  refine s_icmp_gt 87 E dX12_bestFor_26 (by decide) ?_ ?_
  · refine s_sub (lv' := [(4, .int a4)]) [4] rfl ?_
    exact hx0 (a4, m)
  · refine s_aload_n 0 E dX12_bestFor_29 rfl rfl ?_
    refine s_iload_n 1 E dX12_bestFor_30 rfl rfl ?_
    refine s_iload_n 2 E dX12_bestFor_31 rfl rfl ?_
    refine s_iload 6 E dX12_bestFor_32 rfl ?_
    refine s_bd (fun m1 hz => ?_)
    refine s_cV (rest := []) E (C_r_puts (xl x) G a1 a2 a6 m hz) mdX12_puts W1433 W1435 W42 W103 W1436 rfl rfl rfl rfl (Nat.le_of_ble_eq_true rfl) ⟨by decide, by decide⟩ dX12_bestFor_34 ?_
    refine s_aload_n 0 E dX12_bestFor_37 rfl rfl ?_
    refine s_bipush (v := (16 : Int32)) E dX12_bestFor_38 (by decide) ?_
    refine s_bd (fun z2 hz => ?_)
    refine s_cV (rest := []) E (C_r_restOf (xl x) G (16 : Int32) m1 hz) mdX12_restOf W1586 W1588 W63 W103 W1589 rfl rfl rfl rfl (Nat.le_of_ble_eq_true rfl) ⟨by decide, by decide⟩ dX12_bestFor_40 ?_
    refine s_istore (lv' := [(0, .ref (G.2.1 76)), (1, .int a1), (2, .int a2), (3, .int a3), (4, .int a4), (5, .int a5), (6, .int a6), (7, .int z2.1)]) [1, 2, 3, 4, 5, 6, 7, 0] E dX12_bestFor_43 (by rw [hn]; decide) rfl ?_
    refine s_iload 7 E dX12_bestFor_45 rfl ?_
    refine s_iload 5 E dX12_bestFor_47 rfl ?_
    refine s_icmp_le 57 E dX12_bestFor_49 (by decide) ?_ ?_
    · refine s_iload 4 E dX12_bestFor_57 rfl ?_
      refine s_sub (lv' := [(0, .ref (G.2.1 76)), (1, .int a1), (2, .int a2), (3, .int a3), (5, .int a5), (6, .int a6), (7, .int z2.1)]) [0, 1, 2, 3, 5, 6, 7] rfl ?_
      exact t_r_bestFor_59 E hn a1 a2 a3 a5 a6 z2.1 a4 z2.2 hb hx0
    · refine s_iload 6 E dX12_bestFor_52 rfl ?_
      refine s_goto 59 E dX12_bestFor_54 (by decide) ?_
      refine s_sub (lv' := [(0, .ref (G.2.1 76)), (1, .int a1), (2, .int a2), (3, .int a3), (5, .int a5), (6, .int a6), (7, .int z2.1)]) [0, 1, 2, 3, 5, 6, 7] rfl ?_
      exact t_r_bestFor_59 E hn a1 a2 a3 a5 a6 z2.1 a6 z2.2 hb hx0
def r_bestFor_23 (a1 : Int32) (a2 : Int32) (a3 : Int32) (a4 : Int32) (a5 : Int32) (a6 : Int32) (m : M) : Option (Int32 × M) :=
  Option.bind (iter (fun z => r_bestFor_23b a1 a2 a3 z.1 z.2.1 z.2.2.1 z.2.2.2) FU (a4, a5, a6, m)) (fun r => some (r.1, r.2))
set_option maxRecDepth 20000 in
theorem t_r_bestFor_23 {G : GG} {x : Cx} (E : En G x cX12_bestFor "WreckBoardModel" 10 (some .int)) (hn : xn x = 8) (a1 : Int32) (a2 : Int32) (a3 : Int32) (a4 : Int32) (a5 : Int32) (a6 : Int32) (m : M) : Sm G x 23 [(0, .ref (G.2.1 76)), (1, .int a1), (2, .int a2), (3, .int a3), (4, .int a4), (5, .int a5), (6, .int a6)] [] m (r_bestFor_23 a1 a2 a3 a4 a5 a6 m) KWi := by
  unfold r_bestFor_23
  refine s_loop (fun z => [(0, .ref (G.2.1 76)), (1, .int a1), (2, .int a2), (3, .int a3), (4, .int z.1), (5, .int z.2.1), (6, .int z.2.2.1)]) (fun z => z.2.2.2) (fun K2 hb2 hr2 z => ?_) FU (a4, a5, a6, m)
  refine t_r_bestFor_23b (K := K2) E hn a1 a2 a3 z.1 z.2.1 z.2.2.1 z.2.2.2 hb2 (fun r => s_out (hr2 r) ?_)
  · refine s_iload 0 E dX12_bestFor_87 rfl ?_
    exact s_iret E rfl dX12_bestFor_89
def r_bestFor (a1 : Int32) (a2 : Int32) (a3 : Int32) (m : M) : Option (Int32 × M) :=
  Option.bind (r_isMember a1 m) (fun v1 => (if v1 = 0 then some ((-1 : Int32), m) else Option.bind (r_layDown m) (fun m2 => r_bestFor_23 a1 a2 a3 (0 : Int32) (-1 : Int32) (0 : Int32) m2)))
set_option maxRecDepth 20000 in
theorem t_r_bestFor {G : GG} {x : Cx} (E : En G x cX12_bestFor "WreckBoardModel" 10 (some .int)) (hn : xn x = 8) (a1 : Int32) (a2 : Int32) (a3 : Int32) (m : M) : Sm G x 0 [(0, .ref (G.2.1 76)), (1, .int a1), (2, .int a2), (3, .int a3)] [] m (r_bestFor a1 a2 a3 m) KWi := by
  unfold r_bestFor
  refine s_aload_n 0 E dX12_bestFor_0 rfl rfl ?_
  refine s_iload_n 1 E dX12_bestFor_1 rfl rfl ?_
  refine s_bd (fun v1 hz => ?_)
  refine s_cV (rest := []) E (C_r_isMember (xl x) G a1 m hz) mdX12_isMember W1441 W1443 W43 W103 W1444 rfl rfl rfl rfl (Nat.le_of_ble_eq_true rfl) ⟨by decide, by decide⟩ dX12_bestFor_2 ?_
  refine s_if_ne 10 E dX12_bestFor_5 (by decide) ?_ ?_
  · refine s_iconst (v := (0 : Int32)) E dX12_bestFor_10 (by decide) ?_
    refine s_istore (lv' := [(0, .ref (G.2.1 76)), (1, .int a1), (2, .int a2), (3, .int a3), (4, .int (0 : Int32))]) [1, 2, 3, 4, 0] E dX12_bestFor_11 (by rw [hn]; decide) rfl ?_
    refine s_iconst (v := (-1 : Int32)) E dX12_bestFor_13 (by decide) ?_
    refine s_istore (lv' := [(0, .ref (G.2.1 76)), (1, .int a1), (2, .int a2), (3, .int a3), (4, .int (0 : Int32)), (5, .int (-1 : Int32))]) [1, 2, 3, 4, 5, 0] E dX12_bestFor_14 (by rw [hn]; decide) rfl ?_
    refine s_aload_n 0 E dX12_bestFor_16 rfl rfl ?_
    refine s_bd (fun m2 hz => ?_)
    refine s_cV (rest := []) E (C_r_layDown (xl x) G  m hz) mdX12_layDown W1582 W1584 W62 W103 W1585 rfl rfl rfl rfl (Nat.le_of_ble_eq_true rfl) ⟨by decide, by decide⟩ dX12_bestFor_17 ?_
    refine s_iconst (v := (0 : Int32)) E dX12_bestFor_20 (by decide) ?_
    refine s_istore (lv' := [(0, .ref (G.2.1 76)), (1, .int a1), (2, .int a2), (3, .int a3), (4, .int (0 : Int32)), (5, .int (-1 : Int32)), (6, .int (0 : Int32))]) [1, 2, 3, 4, 5, 6, 0] E dX12_bestFor_21 (by rw [hn]; decide) rfl ?_
    exact t_r_bestFor_23 E hn a1 a2 a3 (0 : Int32) (-1 : Int32) (0 : Int32) m2
  · refine s_iconst (v := (-1 : Int32)) E dX12_bestFor_8 (by decide) ?_
    exact s_iret E rfl dX12_bestFor_9
set_option maxRecDepth 20000 in
theorem C_r_bestFor (l : Launch) (G : GG) (a1 : Int32) (a2 : Int32) (a3 : Int32) (m : M) {z : Int32 × M} (hz : r_bestFor a1 a2 a3 m = some z) : Ct l G yX12_bestFor cX12_bestFor 8 (some .int) 10 [.ref (G.2.1 76), .int a1, .int a2, .int a3] m (some (.int z.1)) z.2 :=
  ct_of (K := KWi) (by decide) (Nat.le_of_ble_eq_true rfl) (congrArg (fun q => Option.bind q _) hz) (fun x hl hn E => (t_r_bestFor E hn a1 a2 a3 m))
theorem mdX12_bestFor : mdq yX12_bestFor 3 := ⟨by decide, by decide, by decide +kernel⟩
theorem dX12_votesFor_0 : decode cX12_votesFor 0 = .ok (.aload_n 0, 1) := by decide +kernel
theorem dX12_votesFor_1 : decode cX12_votesFor 1 = .ok (.iload_n 1, 1) := by decide +kernel
theorem dX12_votesFor_2 : decode cX12_votesFor 2 = .ok (.iconst 1, 1) := by decide +kernel
theorem dX12_votesFor_3 : decode cX12_votesFor 3 = .ok (.bipush 9, 2) := by decide +kernel
theorem dX12_votesFor_5 : decode cX12_votesFor 5 = .ok (.invokevirtual 250, 3) := by decide +kernel
theorem dX12_votesFor_8 : decode cX12_votesFor 8 = .ok (.ireturn, 1) := by decide +kernel
def r_votesFor (a1 : Int32) (m : M) : Option (Int32 × M) :=
  Option.bind (r_bestFor a1 (1 : Int32) (9 : Int32) m) (fun z1 => some (z1.1, z1.2))
set_option maxRecDepth 20000 in
theorem t_r_votesFor {G : GG} {x : Cx} (E : En G x cX12_votesFor "WreckBoardModel" 11 (some .int)) (hn : xn x = 2) (a1 : Int32) (m : M) : Sm G x 0 [(0, .ref (G.2.1 76)), (1, .int a1)] [] m (r_votesFor a1 m) KWi := by
  unfold r_votesFor
  refine s_aload_n 0 E dX12_votesFor_0 rfl rfl ?_
  refine s_iload_n 1 E dX12_votesFor_1 rfl rfl ?_
  refine s_iconst (v := (1 : Int32)) E dX12_votesFor_2 (by decide) ?_
  refine s_bipush (v := (9 : Int32)) E dX12_votesFor_3 (by decide) ?_
  refine s_bd (fun z1 hz => ?_)
  refine s_cV (rest := []) E (C_r_bestFor (xl x) G a1 (1 : Int32) (9 : Int32) m hz) mdX12_bestFor W1602 W1604 W65 W103 W1605 rfl rfl rfl rfl (Nat.le_of_ble_eq_true rfl) ⟨by decide, by decide⟩ dX12_votesFor_5 ?_
  exact s_iret E rfl dX12_votesFor_8
set_option maxRecDepth 20000 in
theorem C_r_votesFor (l : Launch) (G : GG) (a1 : Int32) (m : M) {z : Int32 × M} (hz : r_votesFor a1 m = some z) : Ct l G yX12_votesFor cX12_votesFor 2 (some .int) 11 [.ref (G.2.1 76), .int a1] m (some (.int z.1)) z.2 :=
  ct_of (K := KWi) (by decide) (Nat.le_of_ble_eq_true rfl) (congrArg (fun q => Option.bind q _) hz) (fun x hl hn E => (t_r_votesFor E hn a1 m))
theorem dX12_benchFor_0 : decode cX12_benchFor 0 = .ok (.aload_n 0, 1) := by decide +kernel
theorem dX12_benchFor_1 : decode cX12_benchFor 1 = .ok (.iload_n 1, 1) := by decide +kernel
theorem dX12_benchFor_2 : decode cX12_benchFor 2 = .ok (.iconst 3, 1) := by decide +kernel
theorem dX12_benchFor_3 : decode cX12_benchFor 3 = .ok (.iconst 5, 1) := by decide +kernel
theorem dX12_benchFor_4 : decode cX12_benchFor 4 = .ok (.invokevirtual 250, 3) := by decide +kernel
theorem dX12_benchFor_7 : decode cX12_benchFor 7 = .ok (.ireturn, 1) := by decide +kernel
def r_benchFor (a1 : Int32) (m : M) : Option (Int32 × M) :=
  Option.bind (r_bestFor a1 (3 : Int32) (5 : Int32) m) (fun z1 => some (z1.1, z1.2))
set_option maxRecDepth 20000 in
theorem t_r_benchFor {G : GG} {x : Cx} (E : En G x cX12_benchFor "WreckBoardModel" 11 (some .int)) (hn : xn x = 2) (a1 : Int32) (m : M) : Sm G x 0 [(0, .ref (G.2.1 76)), (1, .int a1)] [] m (r_benchFor a1 m) KWi := by
  unfold r_benchFor
  refine s_aload_n 0 E dX12_benchFor_0 rfl rfl ?_
  refine s_iload_n 1 E dX12_benchFor_1 rfl rfl ?_
  refine s_iconst (v := (3 : Int32)) E dX12_benchFor_2 (by decide) ?_
  refine s_iconst (v := (5 : Int32)) E dX12_benchFor_3 (by decide) ?_
  refine s_bd (fun z1 hz => ?_)
  refine s_cV (rest := []) E (C_r_bestFor (xl x) G a1 (3 : Int32) (5 : Int32) m hz) mdX12_bestFor W1602 W1604 W65 W103 W1605 rfl rfl rfl rfl (Nat.le_of_ble_eq_true rfl) ⟨by decide, by decide⟩ dX12_benchFor_4 ?_
  exact s_iret E rfl dX12_benchFor_7
set_option maxRecDepth 20000 in
theorem C_r_benchFor (l : Launch) (G : GG) (a1 : Int32) (m : M) {z : Int32 × M} (hz : r_benchFor a1 m = some z) : Ct l G yX12_benchFor cX12_benchFor 2 (some .int) 11 [.ref (G.2.1 76), .int a1] m (some (.int z.1)) z.2 :=
  ct_of (K := KWi) (by decide) (Nat.le_of_ble_eq_true rfl) (congrArg (fun q => Option.bind q _) hz) (fun x hl hn E => (t_r_benchFor E hn a1 m))
theorem dX12_fund_0 : decode cX12_fund 0 = .ok (.iload_n 1, 1) := by decide +kernel
theorem dX12_fund_1 : decode cX12_fund 1 = .ok (.iconst 0, 1) := by decide +kernel
theorem dX12_fund_2 : decode cX12_fund 2 = .ok (.sipush 999, 3) := by decide +kernel
theorem dX12_fund_5 : decode cX12_fund 5 = .ok (.invokestatic 71, 3) := by decide +kernel
theorem dX12_fund_8 : decode cX12_fund 8 = .ok (.ifCond .ne 5, 3) := by decide +kernel
theorem dX12_fund_11 : decode cX12_fund 11 = .ok (.iconst (-1), 1) := by decide +kernel
theorem dX12_fund_12 : decode cX12_fund 12 = .ok (.ireturn, 1) := by decide +kernel
theorem dX12_fund_13 : decode cX12_fund 13 = .ok (.aload_n 0, 1) := by decide +kernel
theorem dX12_fund_14 : decode cX12_fund 14 = .ok (.invokevirtual 241, 3) := by decide +kernel
theorem dX12_fund_17 : decode cX12_fund 17 = .ok (.bipush (-3), 2) := by decide +kernel
theorem dX12_fund_19 : decode cX12_fund 19 = .ok (.istore_n 2, 1) := by decide +kernel
theorem dX12_fund_20 : decode cX12_fund 20 = .ok (.iload_n 2, 1) := by decide +kernel
theorem dX12_fund_21 : decode cX12_fund 21 = .ok (.bipush (-3), 2) := by decide +kernel
theorem dX12_fund_23 : decode cX12_fund 23 = .ok (.if_icmp .ne 47, 3) := by decide +kernel
theorem dX12_fund_26 : decode cX12_fund 26 = .ok (.aload_n 0, 1) := by decide +kernel
theorem dX12_fund_27 : decode cX12_fund 27 = .ok (.invokevirtual 232, 3) := by decide +kernel
theorem dX12_fund_30 : decode cX12_fund 30 = .ok (.ifCond .ne 40, 3) := by decide +kernel
theorem dX12_fund_33 : decode cX12_fund 33 = .ok (.aload_n 0, 1) := by decide +kernel
theorem dX12_fund_34 : decode cX12_fund 34 = .ok (.iconst (-1), 1) := by decide +kernel
theorem dX12_fund_35 : decode cX12_fund 35 = .ok (.invokevirtual 238, 3) := by decide +kernel
theorem dX12_fund_38 : decode cX12_fund 38 = .ok (.istore_n 3, 1) := by decide +kernel
theorem dX12_fund_39 : decode cX12_fund 39 = .ok (.aload_n 0, 1) := by decide +kernel
theorem dX12_fund_40 : decode cX12_fund 40 = .ok (.getfield 9, 3) := by decide +kernel
theorem dX12_fund_43 : decode cX12_fund 43 = .ok (.iconst 4, 1) := by decide +kernel
theorem dX12_fund_44 : decode cX12_fund 44 = .ok (.iaload, 1) := by decide +kernel
theorem dX12_fund_45 : decode cX12_fund 45 = .ok (.iload_n 1, 1) := by decide +kernel
theorem dX12_fund_46 : decode cX12_fund 46 = .ok (.if_icmp .lt 18, 3) := by decide +kernel
theorem dX12_fund_49 : decode cX12_fund 49 = .ok (.iload_n 3, 1) := by decide +kernel
theorem dX12_fund_50 : decode cX12_fund 50 = .ok (.ifCond .lt 14, 3) := by decide +kernel
theorem dX12_fund_53 : decode cX12_fund 53 = .ok (.aload_n 0, 1) := by decide +kernel
theorem dX12_fund_54 : decode cX12_fund 54 = .ok (.getfield 9, 3) := by decide +kernel
theorem dX12_fund_57 : decode cX12_fund 57 = .ok (.iconst 0, 1) := by decide +kernel
theorem dX12_fund_58 : decode cX12_fund 58 = .ok (.iaload, 1) := by decide +kernel
theorem dX12_fund_59 : decode cX12_fund 59 = .ok (.iconst 1, 1) := by decide +kernel
theorem dX12_fund_60 : decode cX12_fund 60 = .ok (.isub, 1) := by decide +kernel
theorem dX12_fund_61 : decode cX12_fund 61 = .ok (.goto 5, 3) := by decide +kernel
theorem dX12_fund_64 : decode cX12_fund 64 = .ok (.bipush (-3), 2) := by decide +kernel
theorem dX12_fund_66 : decode cX12_fund 66 = .ok (.istore_n 2, 1) := by decide +kernel
theorem dX12_fund_67 : decode cX12_fund 67 = .ok (.goto (-47), 3) := by decide +kernel
theorem dX12_fund_70 : decode cX12_fund 70 = .ok (.aload_n 0, 1) := by decide +kernel
theorem dX12_fund_71 : decode cX12_fund 71 = .ok (.invokevirtual 247, 3) := by decide +kernel
theorem dX12_fund_74 : decode cX12_fund 74 = .ok (.iload_n 2, 1) := by decide +kernel
theorem dX12_fund_75 : decode cX12_fund 75 = .ok (.ireturn, 1) := by decide +kernel
def r_fund_66 (a1 : Int32) (s0 : Int32) (m : M) : Option ((Int32 × M) ⊕ ((Int32 × M))) :=
  some (.inl (s0, m))
set_option maxRecDepth 20000 in
theorem t_r_fund_66 {G : GG} {x : Cx} {K : ((Int32 × M) ⊕ ((Int32 × M))) → Option (Option Value × M)} (E : En G x cX12_fund "WreckBoardModel" 9 (some .int)) (hn : xn x = 4) (a1 : Int32) (s0 : Int32) (m : M) (hb : ∀ z : Int32 × M, Sm G x 20 [(0, .ref (G.2.1 76)), (1, .int a1), (2, .int z.1)] [] z.2 (some (.inl z)) K) (hx0 : ∀ z : Int32 × M, Sm G x 70 [(0, .ref (G.2.1 76)), (2, .int z.1)] [] z.2 (some (.inr z)) K) : Sm G x 66 [(0, .ref (G.2.1 76)), (1, .int a1)] [.int s0] m (r_fund_66 a1 s0 m) K := by
  unfold r_fund_66
  refine s_istore_n (lv' := [(0, .ref (G.2.1 76)), (1, .int a1), (2, .int s0)]) [1, 2, 0] E dX12_fund_66 rfl (by rw [hn]; decide) rfl ?_
  refine s_goto 20 E dX12_fund_67 (by decide) ?_
  exact hb (s0, m)
def r_fund_64 (a1 : Int32) (m : M) : Option ((Int32 × M) ⊕ ((Int32 × M))) :=
  r_fund_66 a1 (-3 : Int32) m
set_option maxRecDepth 20000 in
theorem t_r_fund_64 {G : GG} {x : Cx} {K : ((Int32 × M) ⊕ ((Int32 × M))) → Option (Option Value × M)} (E : En G x cX12_fund "WreckBoardModel" 9 (some .int)) (hn : xn x = 4) (a1 : Int32) (m : M) (hb : ∀ z : Int32 × M, Sm G x 20 [(0, .ref (G.2.1 76)), (1, .int a1), (2, .int z.1)] [] z.2 (some (.inl z)) K) (hx0 : ∀ z : Int32 × M, Sm G x 70 [(0, .ref (G.2.1 76)), (2, .int z.1)] [] z.2 (some (.inr z)) K) : Sm G x 64 [(0, .ref (G.2.1 76)), (1, .int a1)] [] m (r_fund_64 a1 m) K := by
  unfold r_fund_64
  refine s_bipush (v := (-3 : Int32)) E dX12_fund_64 (by decide) ?_
  exact t_r_fund_66 E hn a1 (-3 : Int32) m hb hx0
def r_fund_20b (a1 : Int32) (a2 : Int32) (m : M) : Option ((Int32 × M) ⊕ ((Int32 × M))) :=
  (if a2 = (-3 : Int32) then Option.bind (r_isOver m) (fun v1 => (if v1 = 0 then Option.bind (r_goesBy (-1 : Int32) m) (fun z2 => Option.bind (rdI z2.2 77 (4 : Int32)) (fun v3 => (if v3 < a1 then r_fund_64 a1 z2.2 else (if z2.1 < 0 then r_fund_64 a1 z2.2 else Option.bind (rdI z2.2 77 (0 : Int32)) (fun v4 => r_fund_66 a1 (v4 - (1 : Int32)) z2.2))))) else some (.inr (a2, m)))) else some (.inr (a2, m)))
set_option maxRecDepth 20000 in
theorem t_r_fund_20b {G : GG} {x : Cx} {K : ((Int32 × M) ⊕ ((Int32 × M))) → Option (Option Value × M)} (E : En G x cX12_fund "WreckBoardModel" 9 (some .int)) (hn : xn x = 4) (a1 : Int32) (a2 : Int32) (m : M) (hb : ∀ z : Int32 × M, Sm G x 20 [(0, .ref (G.2.1 76)), (1, .int a1), (2, .int z.1)] [] z.2 (some (.inl z)) K) (hx0 : ∀ z : Int32 × M, Sm G x 70 [(0, .ref (G.2.1 76)), (2, .int z.1)] [] z.2 (some (.inr z)) K) : Sm G x 20 [(0, .ref (G.2.1 76)), (1, .int a1), (2, .int a2)] [] m (r_fund_20b a1 a2 m) K := by
  unfold r_fund_20b
  refine s_iload_n 2 E dX12_fund_20 rfl rfl ?_
  refine s_bipush (v := (-3 : Int32)) E dX12_fund_21 (by decide) ?_
  refine s_icmp_ne 70 E dX12_fund_23 (by decide) ?_ ?_
  · refine s_sub (lv' := [(0, .ref (G.2.1 76)), (2, .int a2)]) [0, 2] rfl ?_
    exact hx0 (a2, m)
  · refine s_aload_n 0 E dX12_fund_26 rfl rfl ?_
    refine s_bd (fun v1 hz => ?_)
    refine s_cV (rest := []) E (C_r_isOver (xl x) G  m hz) mdX12_isOver W1545 W1547 W57 W103 W1548 rfl rfl rfl rfl (Nat.le_of_ble_eq_true rfl) ⟨by decide, by decide⟩ dX12_fund_27 ?_
    refine s_if_ne 70 E dX12_fund_30 (by decide) ?_ ?_
    · refine s_sub (lv' := [(0, .ref (G.2.1 76)), (2, .int a2)]) [0, 2] rfl ?_
      exact hx0 (a2, m)
    · refine s_aload_n 0 E dX12_fund_33 rfl rfl ?_
      refine s_iconst (v := (-1 : Int32)) E dX12_fund_34 (by decide) ?_
      refine s_bd (fun z2 hz => ?_)
      refine s_cV (rest := []) E (C_r_goesBy (xl x) G (-1 : Int32) m hz) mdX12_goesBy W1557 W1559 W59 W103 W1560 rfl rfl rfl rfl (Nat.le_of_ble_eq_true rfl) ⟨by decide, by decide⟩ dX12_fund_35 ?_
      refine s_istore_n (lv' := [(0, .ref (G.2.1 76)), (1, .int a1), (3, .int z2.1)]) [1, 2, 0] E dX12_fund_38 rfl (by rw [hn]; decide) rfl ?_
      refine s_aload_n 0 E dX12_fund_39 rfl rfl ?_
      refine s_getr (k := 0) (T := TX12) 76 E rfl rfl rfl inX12 (by decide) W1239 dX12_fund_40 ?_
      refine s_iconst (v := (4 : Int32)) E dX12_fund_43 (by decide) ?_
      refine s_iald E dX12_fund_44 (fun v3 => ?_)
      refine s_iload_n 1 E dX12_fund_45 rfl rfl ?_
      refine s_icmp_lt 64 E dX12_fund_46 (by decide) ?_ ?_
      · refine s_sub (lv' := [(0, .ref (G.2.1 76)), (1, .int a1)]) [0, 1] rfl ?_
        exact t_r_fund_64 E hn a1 z2.2 hb hx0
      · refine s_iload_n 2 E dX12_fund_49 rfl rfl ?_
        refine s_if_lt 64 E dX12_fund_50 (by decide) ?_ ?_
        · refine s_sub (lv' := [(0, .ref (G.2.1 76)), (1, .int a1)]) [0, 1] rfl ?_
          exact t_r_fund_64 E hn a1 z2.2 hb hx0
        · refine s_aload_n 0 E dX12_fund_53 rfl rfl ?_
          refine s_getr (k := 0) (T := TX12) 76 E rfl rfl rfl inX12 (by decide) W1239 dX12_fund_54 ?_
          refine s_iconst (v := (0 : Int32)) E dX12_fund_57 (by decide) ?_
          refine s_iald E dX12_fund_58 (fun v4 => ?_)
          refine s_iconst (v := (1 : Int32)) E dX12_fund_59 (by decide) ?_
          refine s_isub E dX12_fund_60 ?_
          refine s_goto 66 E dX12_fund_61 (by decide) ?_
          refine s_sub (lv' := [(0, .ref (G.2.1 76)), (1, .int a1)]) [0, 1] rfl ?_
          exact t_r_fund_66 E hn a1 (v4 - (1 : Int32)) z2.2 hb hx0
def r_fund_70 (a2 : Int32) (m : M) : Option (Int32 × M) :=
  Option.bind (r_layBack m) (fun m1 => some (a2, m1))
set_option maxRecDepth 20000 in
theorem t_r_fund_70 {G : GG} {x : Cx} (E : En G x cX12_fund "WreckBoardModel" 9 (some .int)) (hn : xn x = 4) (a2 : Int32) (m : M) : Sm G x 70 [(0, .ref (G.2.1 76)), (2, .int a2)] [] m (r_fund_70 a2 m) KWi := by
  unfold r_fund_70
  refine s_aload_n 0 E dX12_fund_70 rfl rfl ?_
  refine s_bd (fun m1 hz => ?_)
  refine s_cV (rest := []) E (C_r_layBack (xl x) G  m hz) mdX12_layBack W1590 W1592 W64 W103 W1593 rfl rfl rfl rfl (Nat.le_of_ble_eq_true rfl) ⟨by decide, by decide⟩ dX12_fund_71 ?_
  refine s_iload_n 1 E dX12_fund_74 rfl rfl ?_
  exact s_iret E rfl dX12_fund_75
def r_fund_20 (a1 : Int32) (a2 : Int32) (m : M) : Option (Int32 × M) :=
  Option.bind (iter (fun z => r_fund_20b a1 z.1 z.2) FU (a2, m)) (fun r => r_fund_70 r.1 r.2)
set_option maxRecDepth 20000 in
theorem t_r_fund_20 {G : GG} {x : Cx} (E : En G x cX12_fund "WreckBoardModel" 9 (some .int)) (hn : xn x = 4) (a1 : Int32) (a2 : Int32) (m : M) : Sm G x 20 [(0, .ref (G.2.1 76)), (1, .int a1), (2, .int a2)] [] m (r_fund_20 a1 a2 m) KWi := by
  unfold r_fund_20
  refine s_loop (fun z => [(0, .ref (G.2.1 76)), (1, .int a1), (2, .int z.1)]) (fun z => z.2) (fun K2 hb2 hr2 z => ?_) FU (a2, m)
  refine t_r_fund_20b (K := K2) E hn a1 z.1 z.2 hb2 (fun r => s_out (hr2 r) ?_)
  · exact t_r_fund_70 E hn r.1 r.2
def r_fund (a1 : Int32) (m : M) : Option (Int32 × M) :=
  Option.bind (r_in1 a1 (0 : Int32) (999 : Int32) m) (fun v1 => (if v1 = 0 then some ((-1 : Int32), m) else Option.bind (r_layDown m) (fun m2 => r_fund_20 a1 (-3 : Int32) m2)))
set_option maxRecDepth 20000 in
theorem t_r_fund {G : GG} {x : Cx} (E : En G x cX12_fund "WreckBoardModel" 9 (some .int)) (hn : xn x = 4) (a1 : Int32) (m : M) : Sm G x 0 [(0, .ref (G.2.1 76)), (1, .int a1)] [] m (r_fund a1 m) KWi := by
  unfold r_fund
  refine s_iload_n 1 E dX12_fund_0 rfl rfl ?_
  refine s_iconst (v := (0 : Int32)) E dX12_fund_1 (by decide) ?_
  refine s_sipush (v := (999 : Int32)) E dX12_fund_2 (by decide) ?_
  refine s_bd (fun v1 hz => ?_)
  refine s_cS (rest := []) E (C_r_in1 (xl x) G a1 (0 : Int32) (999 : Int32) m hz) mdX12_in1 W1359 W1360 W103 W1361 rfl rfl (Nat.le_of_ble_eq_true rfl) ⟨by decide, by decide⟩ dX12_fund_5 ?_
  refine s_if_ne 13 E dX12_fund_8 (by decide) ?_ ?_
  · refine s_aload_n 0 E dX12_fund_13 rfl rfl ?_
    refine s_bd (fun m2 hz => ?_)
    refine s_cV (rest := []) E (C_r_layDown (xl x) G  m hz) mdX12_layDown W1582 W1584 W62 W103 W1585 rfl rfl rfl rfl (Nat.le_of_ble_eq_true rfl) ⟨by decide, by decide⟩ dX12_fund_14 ?_
    refine s_bipush (v := (-3 : Int32)) E dX12_fund_17 (by decide) ?_
    refine s_istore_n (lv' := [(0, .ref (G.2.1 76)), (1, .int a1), (2, .int (-3 : Int32))]) [1, 2, 0] E dX12_fund_19 rfl (by rw [hn]; decide) rfl ?_
    exact t_r_fund_20 E hn a1 (-3 : Int32) m2
  · refine s_iconst (v := (-1 : Int32)) E dX12_fund_11 (by decide) ?_
    exact s_iret E rfl dX12_fund_12
set_option maxRecDepth 20000 in
theorem C_r_fund (l : Launch) (G : GG) (a1 : Int32) (m : M) {z : Int32 × M} (hz : r_fund a1 m = some z) : Ct l G yX12_fund cX12_fund 4 (some .int) 9 [.ref (G.2.1 76), .int a1] m (some (.int z.1)) z.2 :=
  ct_of (K := KWi) (by decide) (Nat.le_of_ble_eq_true rfl) (congrArg (fun q => Option.bind q _) hz) (fun x hl hn E => (t_r_fund E hn a1 m))
theorem dX12_wrecks_0 : decode cX12_wrecks 0 = .ok (.iload_n 1, 1) := by decide +kernel
theorem dX12_wrecks_1 : decode cX12_wrecks 1 = .ok (.iconst 0, 1) := by decide +kernel
theorem dX12_wrecks_2 : decode cX12_wrecks 2 = .ok (.iconst 1, 1) := by decide +kernel
theorem dX12_wrecks_3 : decode cX12_wrecks 3 = .ok (.invokestatic 71, 3) := by decide +kernel
theorem dX12_wrecks_6 : decode cX12_wrecks 6 = .ok (.ifCond .ne 5, 3) := by decide +kernel
theorem dX12_wrecks_9 : decode cX12_wrecks 9 = .ok (.iconst (-1), 1) := by decide +kernel
theorem dX12_wrecks_10 : decode cX12_wrecks 10 = .ok (.ireturn, 1) := by decide +kernel
theorem dX12_wrecks_11 : decode cX12_wrecks 11 = .ok (.aload_n 0, 1) := by decide +kernel
theorem dX12_wrecks_12 : decode cX12_wrecks 12 = .ok (.invokevirtual 241, 3) := by decide +kernel
theorem dX12_wrecks_15 : decode cX12_wrecks 15 = .ok (.aload_n 0, 1) := by decide +kernel
theorem dX12_wrecks_16 : decode cX12_wrecks 16 = .ok (.iconst 0, 1) := by decide +kernel
theorem dX12_wrecks_17 : decode cX12_wrecks 17 = .ok (.putfield 214, 3) := by decide +kernel
theorem dX12_wrecks_20 : decode cX12_wrecks 20 = .ok (.aload_n 0, 1) := by decide +kernel
theorem dX12_wrecks_21 : decode cX12_wrecks 21 = .ok (.bipush 16, 2) := by decide +kernel
theorem dX12_wrecks_23 : decode cX12_wrecks 23 = .ok (.invokevirtual 244, 3) := by decide +kernel
theorem dX12_wrecks_26 : decode cX12_wrecks 26 = .ok (.istore_n 2, 1) := by decide +kernel
theorem dX12_wrecks_27 : decode cX12_wrecks 27 = .ok (.iload_n 1, 1) := by decide +kernel
theorem dX12_wrecks_28 : decode cX12_wrecks 28 = .ok (.ifCond .ne 10, 3) := by decide +kernel
theorem dX12_wrecks_31 : decode cX12_wrecks 31 = .ok (.aload_n 0, 1) := by decide +kernel
theorem dX12_wrecks_32 : decode cX12_wrecks 32 = .ok (.getfield 214, 3) := by decide +kernel
theorem dX12_wrecks_35 : decode cX12_wrecks 35 = .ok (.goto 17, 3) := by decide +kernel
theorem dX12_wrecks_38 : decode cX12_wrecks 38 = .ok (.iload_n 2, 1) := by decide +kernel
theorem dX12_wrecks_39 : decode cX12_wrecks 39 = .ok (.ifCond .ge 7, 3) := by decide +kernel
theorem dX12_wrecks_42 : decode cX12_wrecks 42 = .ok (.iconst 0, 1) := by decide +kernel
theorem dX12_wrecks_43 : decode cX12_wrecks 43 = .ok (.goto 9, 3) := by decide +kernel
theorem dX12_wrecks_46 : decode cX12_wrecks 46 = .ok (.aload_n 0, 1) := by decide +kernel
theorem dX12_wrecks_47 : decode cX12_wrecks 47 = .ok (.getfield 9, 3) := by decide +kernel
theorem dX12_wrecks_50 : decode cX12_wrecks 50 = .ok (.iconst 4, 1) := by decide +kernel
theorem dX12_wrecks_51 : decode cX12_wrecks 51 = .ok (.iaload, 1) := by decide +kernel
theorem dX12_wrecks_52 : decode cX12_wrecks 52 = .ok (.istore_n 3, 1) := by decide +kernel
theorem dX12_wrecks_53 : decode cX12_wrecks 53 = .ok (.aload_n 0, 1) := by decide +kernel
theorem dX12_wrecks_54 : decode cX12_wrecks 54 = .ok (.invokevirtual 247, 3) := by decide +kernel
theorem dX12_wrecks_57 : decode cX12_wrecks 57 = .ok (.iload_n 3, 1) := by decide +kernel
theorem dX12_wrecks_58 : decode cX12_wrecks 58 = .ok (.ireturn, 1) := by decide +kernel
def r_wrecks_52 (s0 : Int32) (m : M) : Option (Int32 × M) :=
  Option.bind (r_layBack m) (fun m1 => some (s0, m1))
set_option maxRecDepth 20000 in
theorem t_r_wrecks_52 {G : GG} {x : Cx} (E : En G x cX12_wrecks "WreckBoardModel" 10 (some .int)) (hn : xn x = 4) (s0 : Int32) (m : M) : Sm G x 52 [(0, .ref (G.2.1 76))] [.int s0] m (r_wrecks_52 s0 m) KWi := by
  unfold r_wrecks_52
  refine s_istore_n (lv' := [(0, .ref (G.2.1 76)), (3, .int s0)]) [1, 0] E dX12_wrecks_52 rfl (by rw [hn]; decide) rfl ?_
  refine s_aload_n 0 E dX12_wrecks_53 rfl rfl ?_
  refine s_bd (fun m1 hz => ?_)
  refine s_cV (rest := []) E (C_r_layBack (xl x) G  m hz) mdX12_layBack W1590 W1592 W64 W103 W1593 rfl rfl rfl rfl (Nat.le_of_ble_eq_true rfl) ⟨by decide, by decide⟩ dX12_wrecks_54 ?_
  refine s_iload_n 1 E dX12_wrecks_57 rfl rfl ?_
  exact s_iret E rfl dX12_wrecks_58
def r_wrecks (a1 : Int32) (m : M) : Option (Int32 × M) :=
  Option.bind (r_in1 a1 (0 : Int32) (1 : Int32) m) (fun v1 => (if v1 = 0 then some ((-1 : Int32), m) else Option.bind (r_layDown m) (fun m2 => lt (wrF m2 76 16 (0 : Int32)) (fun m3 => Option.bind (r_restOf (16 : Int32) m3) (fun z4 => (if a1 = 0 then r_wrecks_52 (z4.2 76 16) z4.2 else (if 0 ≤ z4.1 then Option.bind (rdI z4.2 77 (4 : Int32)) (fun v5 => r_wrecks_52 v5 z4.2) else r_wrecks_52 (0 : Int32) z4.2)))))))
set_option maxRecDepth 20000 in
theorem t_r_wrecks {G : GG} {x : Cx} (E : En G x cX12_wrecks "WreckBoardModel" 10 (some .int)) (hn : xn x = 4) (a1 : Int32) (m : M) : Sm G x 0 [(0, .ref (G.2.1 76)), (1, .int a1)] [] m (r_wrecks a1 m) KWi := by
  unfold r_wrecks
  refine s_iload_n 1 E dX12_wrecks_0 rfl rfl ?_
  refine s_iconst (v := (0 : Int32)) E dX12_wrecks_1 (by decide) ?_
  refine s_iconst (v := (1 : Int32)) E dX12_wrecks_2 (by decide) ?_
  refine s_bd (fun v1 hz => ?_)
  refine s_cS (rest := []) E (C_r_in1 (xl x) G a1 (0 : Int32) (1 : Int32) m hz) mdX12_in1 W1359 W1360 W103 W1361 rfl rfl (Nat.le_of_ble_eq_true rfl) ⟨by decide, by decide⟩ dX12_wrecks_3 ?_
  refine s_if_ne 11 E dX12_wrecks_6 (by decide) ?_ ?_
  · refine s_aload_n 0 E dX12_wrecks_11 rfl rfl ?_
    refine s_bd (fun m2 hz => ?_)
    refine s_cV (rest := []) E (C_r_layDown (xl x) G  m hz) mdX12_layDown W1582 W1584 W62 W103 W1585 rfl rfl rfl rfl (Nat.le_of_ble_eq_true rfl) ⟨by decide, by decide⟩ dX12_wrecks_12 ?_
    refine s_aload_n 0 E dX12_wrecks_15 rfl rfl ?_
    refine s_iconst (v := (0 : Int32)) E dX12_wrecks_16 (by decide) ?_
    refine s_put (k := 16) (T := TX12) (ty := .int) 76 E rfl rfl rfl inX12 tyX12 tyX12_ok nmX12 (by decide) W1255 rfl (by decide +kernel) rfl rfl dX12_wrecks_17 ?_
    refine s_ltm rfl (fun m3 => ?_)
    refine s_aload_n 0 E dX12_wrecks_20 rfl rfl ?_
    refine s_bipush (v := (16 : Int32)) E dX12_wrecks_21 (by decide) ?_
    refine s_bd (fun z4 hz => ?_)
    refine s_cV (rest := []) E (C_r_restOf (xl x) G (16 : Int32) m3 hz) mdX12_restOf W1586 W1588 W63 W103 W1589 rfl rfl rfl rfl (Nat.le_of_ble_eq_true rfl) ⟨by decide, by decide⟩ dX12_wrecks_23 ?_
    refine s_istore_n (lv' := [(0, .ref (G.2.1 76)), (1, .int a1), (2, .int z4.1)]) [1, 2, 0] E dX12_wrecks_26 rfl (by rw [hn]; decide) rfl ?_
    refine s_iload_n 1 E dX12_wrecks_27 rfl rfl ?_
    refine s_if_ne 38 E dX12_wrecks_28 (by decide) ?_ ?_
    · refine s_iload_n 2 E dX12_wrecks_38 rfl rfl ?_
      refine s_if_ge 46 E dX12_wrecks_39 (by decide) ?_ ?_
      · refine s_aload_n 0 E dX12_wrecks_46 rfl rfl ?_
        refine s_getr (k := 0) (T := TX12) 76 E rfl rfl rfl inX12 (by decide) W1239 dX12_wrecks_47 ?_
        refine s_iconst (v := (4 : Int32)) E dX12_wrecks_50 (by decide) ?_
        refine s_iald E dX12_wrecks_51 (fun v5 => ?_)
        refine s_sub (lv' := [(0, .ref (G.2.1 76))]) [0] rfl ?_
        exact t_r_wrecks_52 E hn v5 z4.2
      · refine s_iconst (v := (0 : Int32)) E dX12_wrecks_42 (by decide) ?_
        refine s_goto 52 E dX12_wrecks_43 (by decide) ?_
        refine s_sub (lv' := [(0, .ref (G.2.1 76))]) [0] rfl ?_
        exact t_r_wrecks_52 E hn (0 : Int32) z4.2
    · refine s_aload_n 0 E dX12_wrecks_31 rfl rfl ?_
      refine s_geti (k := 16) (T := TX12) 76 E rfl rfl rfl inX12 (by decide) W1255 dX12_wrecks_32 ?_
      refine s_goto 52 E dX12_wrecks_35 (by decide) ?_
      refine s_sub (lv' := [(0, .ref (G.2.1 76))]) [0] rfl ?_
      exact t_r_wrecks_52 E hn (z4.2 76 16) z4.2
  · refine s_iconst (v := (-1 : Int32)) E dX12_wrecks_9 (by decide) ?_
    exact s_iret E rfl dX12_wrecks_10
