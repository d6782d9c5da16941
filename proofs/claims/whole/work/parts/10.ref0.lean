theorem dX12_in1_0 : decode cX12_in1 0 = .ok (.iload_n 0, 1) := by decide +kernel
theorem dX12_in1_1 : decode cX12_in1 1 = .ok (.iload_n 1, 1) := by decide +kernel
theorem dX12_in1_2 : decode cX12_in1 2 = .ok (.if_icmp .lt 12, 3) := by decide +kernel
theorem dX12_in1_5 : decode cX12_in1 5 = .ok (.iload_n 0, 1) := by decide +kernel
theorem dX12_in1_6 : decode cX12_in1 6 = .ok (.iload_n 2, 1) := by decide +kernel
theorem dX12_in1_7 : decode cX12_in1 7 = .ok (.if_icmp .gt 7, 3) := by decide +kernel
theorem dX12_in1_10 : decode cX12_in1 10 = .ok (.iconst 1, 1) := by decide +kernel
theorem dX12_in1_11 : decode cX12_in1 11 = .ok (.goto 4, 3) := by decide +kernel
theorem dX12_in1_14 : decode cX12_in1 14 = .ok (.iconst 0, 1) := by decide +kernel
theorem dX12_in1_15 : decode cX12_in1 15 = .ok (.ireturn, 1) := by decide +kernel
def r_in1 (a0 : Int32) (a1 : Int32) (a2 : Int32) (m : M) : Option (Int32) :=
  (if a0 < a1 then some (0 : Int32) else (if a2 < a0 then some (0 : Int32) else some (1 : Int32)))
set_option maxRecDepth 20000 in
theorem t_r_in1 {G : GG} {x : Cx} (E : En G x cX12_in1 "WreckBoardModel" 1 (some .boolean)) (hn : xn x = 3) (a0 : Int32) (a1 : Int32) (a2 : Int32) (m : M) : Sm G x 0 [(0, .int a0), (1, .int a1), (2, .int a2)] [] m (r_in1 a0 a1 a2 m) (KRi m) := by
  unfold r_in1
  refine s_iload_n 0 E dX12_in1_0 rfl rfl ?_
  refine s_iload_n 1 E dX12_in1_1 rfl rfl ?_
  refine s_icmp_lt 14 E dX12_in1_2 (by decide) ?_ ?_
  · refine s_iconst (v := (0 : Int32)) E dX12_in1_14 (by decide) ?_
    exact s_zret E (by decide) rfl dX12_in1_15
  · refine s_iload_n 0 E dX12_in1_5 rfl rfl ?_
    refine s_iload_n 2 E dX12_in1_6 rfl rfl ?_
    refine s_icmp_gt 14 E dX12_in1_7 (by decide) ?_ ?_
    · refine s_iconst (v := (0 : Int32)) E dX12_in1_14 (by decide) ?_
      exact s_zret E (by decide) rfl dX12_in1_15
    · refine s_iconst (v := (1 : Int32)) E dX12_in1_10 (by decide) ?_
      refine s_goto 15 E dX12_in1_11 (by decide) ?_
      exact s_zret E (by decide) rfl dX12_in1_15
set_option maxRecDepth 20000 in
theorem C_r_in1 (l : Launch) (G : GG) (a0 : Int32) (a1 : Int32) (a2 : Int32) (m : M) {z : Int32} (hz : r_in1 a0 a1 a2 m = some z) : Ct l G yX12_in1 cX12_in1 3 (some .boolean) 1 [.int a0, .int a1, .int a2] m (some (.int z)) m :=
  ct_of (K := (KRi m)) (by decide) (Nat.le_of_ble_eq_true rfl) (congrArg (fun q => Option.bind q _) hz) (fun x hl hn E => (t_r_in1 E hn a0 a1 a2 m))
theorem mdX12_in1 : mdq yX12_in1 3 := ⟨by decide, by decide, by decide +kernel⟩
theorem dX12_feed_0 : decode cX12_feed 0 = .ok (.iload_n 3, 1) := by decide +kernel
theorem dX12_feed_1 : decode cX12_feed 1 = .ok (.iconst 1, 1) := by decide +kernel
theorem dX12_feed_2 : decode cX12_feed 2 = .ok (.bipush 8, 2) := by decide +kernel
theorem dX12_feed_4 : decode cX12_feed 4 = .ok (.invokestatic 71, 3) := by decide +kernel
theorem dX12_feed_7 : decode cX12_feed 7 = .ok (.ifCond .ne 5, 3) := by decide +kernel
theorem dX12_feed_10 : decode cX12_feed 10 = .ok (.iconst (-1), 1) := by decide +kernel
theorem dX12_feed_11 : decode cX12_feed 11 = .ok (.ireturn, 1) := by decide +kernel
theorem dX12_feed_12 : decode cX12_feed 12 = .ok (.aload_n 0, 1) := by decide +kernel
theorem dX12_feed_13 : decode cX12_feed 13 = .ok (.getfield 127, 3) := by decide +kernel
theorem dX12_feed_16 : decode cX12_feed 16 = .ok (.iload_n 3, 1) := by decide +kernel
theorem dX12_feed_17 : decode cX12_feed 17 = .ok (.iadd, 1) := by decide +kernel
theorem dX12_feed_18 : decode cX12_feed 18 = .ok (.sipush 200, 3) := by decide +kernel
theorem dX12_feed_21 : decode cX12_feed 21 = .ok (.if_icmp .le 6, 3) := by decide +kernel
theorem dX12_feed_24 : decode cX12_feed 24 = .ok (.bipush (-2), 2) := by decide +kernel
theorem dX12_feed_26 : decode cX12_feed 26 = .ok (.ireturn, 1) := by decide +kernel
theorem dX12_feed_27 : decode cX12_feed 27 = .ok (.iconst 0, 1) := by decide +kernel
theorem dX12_feed_28 : decode cX12_feed 28 = .ok (.istore 4, 2) := by decide +kernel
theorem dX12_feed_30 : decode cX12_feed 30 = .ok (.iload 4, 2) := by decide +kernel
theorem dX12_feed_32 : decode cX12_feed 32 = .ok (.iload_n 3, 1) := by decide +kernel
theorem dX12_feed_33 : decode cX12_feed 33 = .ok (.if_icmp .ge 40, 3) := by decide +kernel
theorem dX12_feed_36 : decode cX12_feed 36 = .ok (.aload_n 0, 1) := by decide +kernel
theorem dX12_feed_37 : decode cX12_feed 37 = .ok (.getfield 22, 3) := by decide +kernel
theorem dX12_feed_40 : decode cX12_feed 40 = .ok (.aload_n 0, 1) := by decide +kernel
theorem dX12_feed_41 : decode cX12_feed 41 = .ok (.getfield 127, 3) := by decide +kernel
theorem dX12_feed_44 : decode cX12_feed 44 = .ok (.lload_n 1, 1) := by decide +kernel
theorem dX12_feed_45 : decode cX12_feed 45 = .ok (.bipush 8, 2) := by decide +kernel
theorem dX12_feed_47 : decode cX12_feed 47 = .ok (.iload 4, 2) := by decide +kernel
theorem dX12_feed_49 : decode cX12_feed 49 = .ok (.imul, 1) := by decide +kernel
theorem dX12_feed_50 : decode cX12_feed 50 = .ok (.lshr, 1) := by decide +kernel
theorem dX12_feed_51 : decode cX12_feed 51 = .ok (.ldc2_w 190, 3) := by decide +kernel
theorem dX12_feed_54 : decode cX12_feed 54 = .ok (.land, 1) := by decide +kernel
theorem dX12_feed_55 : decode cX12_feed 55 = .ok (.l2i, 1) := by decide +kernel
theorem dX12_feed_56 : decode cX12_feed 56 = .ok (.iastore, 1) := by decide +kernel
theorem dX12_feed_57 : decode cX12_feed 57 = .ok (.aload_n 0, 1) := by decide +kernel
theorem dX12_feed_58 : decode cX12_feed 58 = .ok (.dup, 1) := by decide +kernel
theorem dX12_feed_59 : decode cX12_feed 59 = .ok (.getfield 127, 3) := by decide +kernel
theorem dX12_feed_62 : decode cX12_feed 62 = .ok (.iconst 1, 1) := by decide +kernel
theorem dX12_feed_63 : decode cX12_feed 63 = .ok (.iadd, 1) := by decide +kernel
theorem dX12_feed_64 : decode cX12_feed 64 = .ok (.putfield 127, 3) := by decide +kernel
theorem dX12_feed_67 : decode cX12_feed 67 = .ok (.iinc 4 1, 3) := by decide +kernel
theorem dX12_feed_70 : decode cX12_feed 70 = .ok (.goto (-40), 3) := by decide +kernel
theorem dX12_feed_73 : decode cX12_feed 73 = .ok (.aload_n 0, 1) := by decide +kernel
theorem dX12_feed_74 : decode cX12_feed 74 = .ok (.getfield 127, 3) := by decide +kernel
theorem dX12_feed_77 : decode cX12_feed 77 = .ok (.ireturn, 1) := by decide +kernel
def r_feed_30b (a1 : Int64) (a3 : Int32) (a4 : Int32) (m : M) : Option ((Int32 × M) ⊕ ((M))) :=
  (if a3 ≤ a4 then some (.inr m) else Option.bind (wrI m 81 (m 76 6) (Int64.toInt32 ((a1 >>> (Int32.toInt64 ((8 : Int32) * a4) &&& 63)) &&& (255 : Int64)))) (fun m1 => lt (wrF m1 76 6 ((m1 76 6) + (1 : Int32))) (fun m2 => lt (a4 + (1 : Int32)) (fun w3 : Int32 => some (.inl (w3, m2))))))
set_option maxRecDepth 20000 in
theorem t_r_feed_30b {G : GG} {x : Cx} {K : ((Int32 × M) ⊕ ((M))) → Option (Option Value × M)} (E : En G x cX12_feed "WreckBoardModel" 2 (some .int)) (hn : xn x = 5) (a1 : Int64) (a3 : Int32) (a4 : Int32) (m : M) (hb : ∀ z : Int32 × M, Sm G x 30 [(0, .ref (G.2.1 76)), (1, .long a1), (3, .int a3), (4, .int z.1)] [] z.2 (some (.inl z)) K) (hx0 : ∀ z : M, Sm G x 73 [(0, .ref (G.2.1 76))] [] z (some (.inr z)) K) : Sm G x 30 [(0, .ref (G.2.1 76)), (1, .long a1), (3, .int a3), (4, .int a4)] [] m (r_feed_30b a1 a3 a4 m) K := by
  unfold r_feed_30b
  refine s_iload 3 E dX12_feed_30 rfl ?_
  refine s_iload_n 2 E dX12_feed_32 rfl rfl ?_
  refine s_icmp_ge 73 E dX12_feed_33 (by decide) ?_ ?_
  · refine s_sub (lv' := [(0, .ref (G.2.1 76))]) [0] rfl ?_
    exact hx0 m
  · refine s_aload_n 0 E dX12_feed_36 rfl rfl ?_
    refine s_getr (k := 5) (T := TX12) 76 E rfl rfl rfl inX12 (by decide) W1244 dX12_feed_37 ?_
    refine s_aload_n 0 E dX12_feed_40 rfl rfl ?_
    refine s_geti (k := 6) (T := TX12) 76 E rfl rfl rfl inX12 (by decide) W1245 dX12_feed_41 ?_
    refine s_lload_n 1 E dX12_feed_44 rfl rfl ?_
    refine s_bipush (v := (8 : Int32)) E dX12_feed_45 (by decide) ?_
    refine s_iload 3 E dX12_feed_47 rfl ?_
    refine s_imul E dX12_feed_49 ?_
    refine s_lshr E dX12_feed_50 ?_
    refine s_ldc2 (v := (255 : Int64)) E dX12_feed_51 W1362 ?_
    refine s_land E dX12_feed_54 ?_
    refine s_l2i E dX12_feed_55 ?_
    refine s_iast E dX12_feed_56 (fun m1 => ?_)
    refine s_aload_n 0 E dX12_feed_57 rfl rfl ?_
    refine s_dup E dX12_feed_58 rfl ?_
    refine s_geti (k := 6) (T := TX12) 76 E rfl rfl rfl inX12 (by decide) W1245 dX12_feed_59 ?_
    refine s_iconst (v := (1 : Int32)) E dX12_feed_62 (by decide) ?_
    refine s_iadd E dX12_feed_63 ?_
    refine s_put (k := 6) (T := TX12) (ty := .int) 76 E rfl rfl rfl inX12 tyX12 tyX12_ok nmX12 (by decide) W1245 rfl (by decide +kernel) rfl rfl dX12_feed_64 ?_
    refine s_ltm rfl (fun m2 => ?_)
    refine s_iincL (v := (1 : Int32)) 3 [1, 2, 3, 0] (fun w3 => [(0, .ref (G.2.1 76)), (1, .long a1), (3, .int a3), (4, .int w3)]) E dX12_feed_67 rfl (by decide) (by rw [hn]; decide) (fun _ => rfl) (fun w3 => ?_)
    refine s_goto 30 E dX12_feed_70 (by decide) ?_
    exact hb (w3, m2)
def r_feed_30 (a1 : Int64) (a3 : Int32) (a4 : Int32) (m : M) : Option (Int32 × M) :=
  Option.bind (iter (fun z => r_feed_30b a1 a3 z.1 z.2) FU (a4, m)) (fun r => some ((r 76 6), r))
set_option maxRecDepth 20000 in
theorem t_r_feed_30 {G : GG} {x : Cx} (E : En G x cX12_feed "WreckBoardModel" 2 (some .int)) (hn : xn x = 5) (a1 : Int64) (a3 : Int32) (a4 : Int32) (m : M) : Sm G x 30 [(0, .ref (G.2.1 76)), (1, .long a1), (3, .int a3), (4, .int a4)] [] m (r_feed_30 a1 a3 a4 m) KWi := by
  unfold r_feed_30
  refine s_loop (fun z => [(0, .ref (G.2.1 76)), (1, .long a1), (3, .int a3), (4, .int z.1)]) (fun z => z.2) (fun K2 hb2 hr2 z => ?_) FU (a4, m)
  refine t_r_feed_30b (K := K2) E hn a1 a3 z.1 z.2 hb2 (fun r => s_out (hr2 r) ?_)
  · refine s_aload_n 0 E dX12_feed_73 rfl rfl ?_
    refine s_geti (k := 6) (T := TX12) 76 E rfl rfl rfl inX12 (by decide) W1245 dX12_feed_74 ?_
    exact s_iret E rfl dX12_feed_77
def r_feed (a1 : Int64) (a3 : Int32) (m : M) : Option (Int32 × M) :=
  Option.bind (r_in1 a3 (1 : Int32) (8 : Int32) m) (fun v1 => (if v1 = 0 then some ((-1 : Int32), m) else (if ((m 76 6) + a3) ≤ (200 : Int32) then r_feed_30 a1 a3 (0 : Int32) m else some ((-2 : Int32), m))))
set_option maxRecDepth 20000 in
theorem t_r_feed {G : GG} {x : Cx} (E : En G x cX12_feed "WreckBoardModel" 2 (some .int)) (hn : xn x = 5) (a1 : Int64) (a3 : Int32) (m : M) : Sm G x 0 [(0, .ref (G.2.1 76)), (1, .long a1), (3, .int a3)] [] m (r_feed a1 a3 m) KWi := by
  unfold r_feed
  refine s_iload_n 2 E dX12_feed_0 rfl rfl ?_
  refine s_iconst (v := (1 : Int32)) E dX12_feed_1 (by decide) ?_
  refine s_bipush (v := (8 : Int32)) E dX12_feed_2 (by decide) ?_
  refine s_bd (fun v1 hz => ?_)
  refine s_cS (rest := []) E (C_r_in1 (xl x) G a3 (1 : Int32) (8 : Int32) m hz) mdX12_in1 W1359 W1360 W103 W1361 rfl rfl (Nat.le_of_ble_eq_true rfl) ⟨by decide, by decide⟩ dX12_feed_4 ?_
  refine s_if_ne 12 E dX12_feed_7 (by decide) ?_ ?_
  · refine s_aload_n 0 E dX12_feed_12 rfl rfl ?_
    refine s_geti (k := 6) (T := TX12) 76 E rfl rfl rfl inX12 (by decide) W1245 dX12_feed_13 ?_
    refine s_iload_n 2 E dX12_feed_16 rfl rfl ?_
    refine s_iadd E dX12_feed_17 ?_
    refine s_sipush (v := (200 : Int32)) E dX12_feed_18 (by decide) ?_
    refine s_icmp_le 27 E dX12_feed_21 (by decide) ?_ ?_
    · refine s_iconst (v := (0 : Int32)) E dX12_feed_27 (by decide) ?_
      refine s_istore (lv' := [(0, .ref (G.2.1 76)), (1, .long a1), (3, .int a3), (4, .int (0 : Int32))]) [1, 2, 3, 0] E dX12_feed_28 (by rw [hn]; decide) rfl ?_
      exact t_r_feed_30 E hn a1 a3 (0 : Int32) m
    · refine s_bipush (v := (-2 : Int32)) E dX12_feed_24 (by decide) ?_
      exact s_iret E rfl dX12_feed_26
  · refine s_iconst (v := (-1 : Int32)) E dX12_feed_10 (by decide) ?_
    exact s_iret E rfl dX12_feed_11
set_option maxRecDepth 20000 in
theorem C_r_feed (l : Launch) (G : GG) (a1 : Int64) (a3 : Int32) (m : M) {z : Int32 × M} (hz : r_feed a1 a3 m = some z) : Ct l G yX12_feed cX12_feed 5 (some .int) 2 [.ref (G.2.1 76), .long a1, .int a3] m (some (.int z.1)) z.2 :=
  ct_of (K := KWi) (by decide) (Nat.le_of_ble_eq_true rfl) (congrArg (fun q => Option.bind q _) hz) (fun x hl hn E => (t_r_feed E hn a1 a3 m))
theorem dX12_byteAt_0 : decode cX12_byteAt 0 = .ok (.iload_n 1, 1) := by decide +kernel
theorem dX12_byteAt_1 : decode cX12_byteAt 1 = .ok (.aload_n 0, 1) := by decide +kernel
theorem dX12_byteAt_2 : decode cX12_byteAt 2 = .ok (.getfield 127, 3) := by decide +kernel
theorem dX12_byteAt_5 : decode cX12_byteAt 5 = .ok (.if_icmp .ge 12, 3) := by decide +kernel
theorem dX12_byteAt_8 : decode cX12_byteAt 8 = .ok (.aload_n 0, 1) := by decide +kernel
theorem dX12_byteAt_9 : decode cX12_byteAt 9 = .ok (.getfield 22, 3) := by decide +kernel
theorem dX12_byteAt_12 : decode cX12_byteAt 12 = .ok (.iload_n 1, 1) := by decide +kernel
theorem dX12_byteAt_13 : decode cX12_byteAt 13 = .ok (.iaload, 1) := by decide +kernel
theorem dX12_byteAt_14 : decode cX12_byteAt 14 = .ok (.goto 4, 3) := by decide +kernel
theorem dX12_byteAt_17 : decode cX12_byteAt 17 = .ok (.iconst (-1), 1) := by decide +kernel
theorem dX12_byteAt_18 : decode cX12_byteAt 18 = .ok (.ireturn, 1) := by decide +kernel
def r_byteAt (a1 : Int32) (m : M) : Option (Int32) :=
  (if (m 76 6) ≤ a1 then some (-1 : Int32) else Option.bind (rdI m 81 a1) (fun v1 => some v1))
set_option maxRecDepth 20000 in
theorem t_r_byteAt {G : GG} {x : Cx} (E : En G x cX12_byteAt "WreckBoardModel" 1 (some .int)) (hn : xn x = 2) (a1 : Int32) (m : M) : Sm G x 0 [(0, .ref (G.2.1 76)), (1, .int a1)] [] m (r_byteAt a1 m) (KRi m) := by
  unfold r_byteAt
  refine s_iload_n 1 E dX12_byteAt_0 rfl rfl ?_
  refine s_aload_n 0 E dX12_byteAt_1 rfl rfl ?_
  refine s_geti (k := 6) (T := TX12) 76 E rfl rfl rfl inX12 (by decide) W1245 dX12_byteAt_2 ?_
  refine s_icmp_ge 17 E dX12_byteAt_5 (by decide) ?_ ?_
  · refine s_iconst (v := (-1 : Int32)) E dX12_byteAt_17 (by decide) ?_
    exact s_iret E rfl dX12_byteAt_18
  · refine s_aload_n 0 E dX12_byteAt_8 rfl rfl ?_
    refine s_getr (k := 5) (T := TX12) 76 E rfl rfl rfl inX12 (by decide) W1244 dX12_byteAt_9 ?_
    refine s_iload_n 1 E dX12_byteAt_12 rfl rfl ?_
    refine s_iald E dX12_byteAt_13 (fun v1 => ?_)
    refine s_goto 18 E dX12_byteAt_14 (by decide) ?_
    exact s_iret E rfl dX12_byteAt_18
set_option maxRecDepth 20000 in
theorem C_r_byteAt (l : Launch) (G : GG) (a1 : Int32) (m : M) {z : Int32} (hz : r_byteAt a1 m = some z) : Ct l G yX12_byteAt cX12_byteAt 2 (some .int) 1 [.ref (G.2.1 76), .int a1] m (some (.int z)) m :=
  ct_of (K := (KRi m)) (by decide) (Nat.le_of_ble_eq_true rfl) (congrArg (fun q => Option.bind q _) hz) (fun x hl hn E => (t_r_byteAt E hn a1 m))
theorem mdX12_byteAt : mdq yX12_byteAt 1 := ⟨by decide, by decide, by decide +kernel⟩
theorem dX12_readsNumber_0 : decode cX12_readsNumber 0 = .ok (.aload_n 0, 1) := by decide +kernel
theorem dX12_readsNumber_1 : decode cX12_readsNumber 1 = .ok (.iconst 0, 1) := by decide +kernel
theorem dX12_readsNumber_2 : decode cX12_readsNumber 2 = .ok (.putfield 146, 3) := by decide +kernel
theorem dX12_readsNumber_5 : decode cX12_readsNumber 5 = .ok (.aload_n 0, 1) := by decide +kernel
theorem dX12_readsNumber_6 : decode cX12_readsNumber 6 = .ok (.aload_n 0, 1) := by decide +kernel
theorem dX12_readsNumber_7 : decode cX12_readsNumber 7 = .ok (.getfield 131, 3) := by decide +kernel
theorem dX12_readsNumber_10 : decode cX12_readsNumber 10 = .ok (.invokevirtual 137, 3) := by decide +kernel
theorem dX12_readsNumber_13 : decode cX12_readsNumber 13 = .ok (.bipush 48, 2) := by decide +kernel
theorem dX12_readsNumber_15 : decode cX12_readsNumber 15 = .ok (.bipush 57, 2) := by decide +kernel
theorem dX12_readsNumber_17 : decode cX12_readsNumber 17 = .ok (.invokestatic 71, 3) := by decide +kernel
theorem dX12_readsNumber_20 : decode cX12_readsNumber 20 = .ok (.ifCond .eq 59, 3) := by decide +kernel
theorem dX12_readsNumber_23 : decode cX12_readsNumber 23 = .ok (.aload_n 0, 1) := by decide +kernel
theorem dX12_readsNumber_24 : decode cX12_readsNumber 24 = .ok (.aload_n 0, 1) := by decide +kernel
theorem dX12_readsNumber_25 : decode cX12_readsNumber 25 = .ok (.getfield 131, 3) := by decide +kernel
theorem dX12_readsNumber_28 : decode cX12_readsNumber 28 = .ok (.aload_n 0, 1) := by decide +kernel
theorem dX12_readsNumber_29 : decode cX12_readsNumber 29 = .ok (.getfield 134, 3) := by decide +kernel
theorem dX12_readsNumber_32 : decode cX12_readsNumber 32 = .ok (.isub, 1) := by decide +kernel
theorem dX12_readsNumber_33 : decode cX12_readsNumber 33 = .ok (.iconst 4, 1) := by decide +kernel
theorem dX12_readsNumber_34 : decode cX12_readsNumber 34 = .ok (.if_icmp .ge 25, 3) := by decide +kernel
theorem dX12_readsNumber_37 : decode cX12_readsNumber 37 = .ok (.bipush 10, 2) := by decide +kernel
theorem dX12_readsNumber_39 : decode cX12_readsNumber 39 = .ok (.aload_n 0, 1) := by decide +kernel
theorem dX12_readsNumber_40 : decode cX12_readsNumber 40 = .ok (.getfield 146, 3) := by decide +kernel
theorem dX12_readsNumber_43 : decode cX12_readsNumber 43 = .ok (.imul, 1) := by decide +kernel
theorem dX12_readsNumber_44 : decode cX12_readsNumber 44 = .ok (.aload_n 0, 1) := by decide +kernel
theorem dX12_readsNumber_45 : decode cX12_readsNumber 45 = .ok (.aload_n 0, 1) := by decide +kernel
theorem dX12_readsNumber_46 : decode cX12_readsNumber 46 = .ok (.getfield 131, 3) := by decide +kernel
theorem dX12_readsNumber_49 : decode cX12_readsNumber 49 = .ok (.invokevirtual 137, 3) := by decide +kernel
theorem dX12_readsNumber_52 : decode cX12_readsNumber 52 = .ok (.iadd, 1) := by decide +kernel
theorem dX12_readsNumber_53 : decode cX12_readsNumber 53 = .ok (.bipush 48, 2) := by decide +kernel
theorem dX12_readsNumber_55 : decode cX12_readsNumber 55 = .ok (.isub, 1) := by decide +kernel
theorem dX12_readsNumber_56 : decode cX12_readsNumber 56 = .ok (.goto 7, 3) := by decide +kernel
theorem dX12_readsNumber_59 : decode cX12_readsNumber 59 = .ok (.aload_n 0, 1) := by decide +kernel
theorem dX12_readsNumber_60 : decode cX12_readsNumber 60 = .ok (.getfield 146, 3) := by decide +kernel
theorem dX12_readsNumber_63 : decode cX12_readsNumber 63 = .ok (.putfield 146, 3) := by decide +kernel
theorem dX12_readsNumber_66 : decode cX12_readsNumber 66 = .ok (.aload_n 0, 1) := by decide +kernel
theorem dX12_readsNumber_67 : decode cX12_readsNumber 67 = .ok (.dup, 1) := by decide +kernel
theorem dX12_readsNumber_68 : decode cX12_readsNumber 68 = .ok (.getfield 131, 3) := by decide +kernel
theorem dX12_readsNumber_71 : decode cX12_readsNumber 71 = .ok (.iconst 1, 1) := by decide +kernel
theorem dX12_readsNumber_72 : decode cX12_readsNumber 72 = .ok (.iadd, 1) := by decide +kernel
theorem dX12_readsNumber_73 : decode cX12_readsNumber 73 = .ok (.putfield 131, 3) := by decide +kernel
theorem dX12_readsNumber_76 : decode cX12_readsNumber 76 = .ok (.goto (-71), 3) := by decide +kernel
theorem dX12_readsNumber_79 : decode cX12_readsNumber 79 = .ok (.aload_n 0, 1) := by decide +kernel
theorem dX12_readsNumber_80 : decode cX12_readsNumber 80 = .ok (.aload_n 0, 1) := by decide +kernel
theorem dX12_readsNumber_81 : decode cX12_readsNumber 81 = .ok (.getfield 131, 3) := by decide +kernel
theorem dX12_readsNumber_84 : decode cX12_readsNumber 84 = .ok (.aload_n 0, 1) := by decide +kernel
theorem dX12_readsNumber_85 : decode cX12_readsNumber 85 = .ok (.getfield 134, 3) := by decide +kernel
theorem dX12_readsNumber_88 : decode cX12_readsNumber 88 = .ok (.isub, 1) := by decide +kernel
theorem dX12_readsNumber_89 : decode cX12_readsNumber 89 = .ok (.iconst 4, 1) := by decide +kernel
theorem dX12_readsNumber_90 : decode cX12_readsNumber 90 = .ok (.if_icmp .le 8, 3) := by decide +kernel
theorem dX12_readsNumber_93 : decode cX12_readsNumber 93 = .ok (.bipush 101, 2) := by decide +kernel
theorem dX12_readsNumber_95 : decode cX12_readsNumber 95 = .ok (.goto 5, 3) := by decide +kernel
theorem dX12_readsNumber_98 : decode cX12_readsNumber 98 = .ok (.bipush 100, 2) := by decide +kernel
theorem dX12_readsNumber_100 : decode cX12_readsNumber 100 = .ok (.putfield 140, 3) := by decide +kernel
theorem dX12_readsNumber_103 : decode cX12_readsNumber 103 = .ok (.return_, 1) := by decide +kernel
def r_readsNumber_63 (s1 : Int32) (m : M) : Option ((M) ⊕ ((M))) :=
  lt (wrF m 76 11 s1) (fun m1 => lt (wrF m1 76 8 ((m1 76 8) + (1 : Int32))) (fun m2 => some (.inl m2)))
set_option maxRecDepth 20000 in
theorem t_r_readsNumber_63 {G : GG} {x : Cx} {K : ((M) ⊕ ((M))) → Option (Option Value × M)} (E : En G x cX12_readsNumber "WreckBoardModel" 2 none) (hn : xn x = 1) (s1 : Int32) (m : M) (hb : ∀ z : M, Sm G x 5 [(0, .ref (G.2.1 76))] [] z (some (.inl z)) K) (hx0 : ∀ z : M, Sm G x 79 [(0, .ref (G.2.1 76))] [] z (some (.inr z)) K) : Sm G x 63 [(0, .ref (G.2.1 76))] [.int s1, .ref (G.2.1 76)] m (r_readsNumber_63 s1 m) K := by
  unfold r_readsNumber_63
  refine s_put (k := 11) (T := TX12) (ty := .int) 76 E rfl rfl rfl inX12 tyX12 tyX12_ok nmX12 (by decide) W1250 rfl (by decide +kernel) rfl rfl dX12_readsNumber_63 ?_
  refine s_ltm rfl (fun m1 => ?_)
  refine s_aload_n 0 E dX12_readsNumber_66 rfl rfl ?_
  refine s_dup E dX12_readsNumber_67 rfl ?_
  refine s_geti (k := 8) (T := TX12) 76 E rfl rfl rfl inX12 (by decide) W1247 dX12_readsNumber_68 ?_
  refine s_iconst (v := (1 : Int32)) E dX12_readsNumber_71 (by decide) ?_
  refine s_iadd E dX12_readsNumber_72 ?_
  refine s_put (k := 8) (T := TX12) (ty := .int) 76 E rfl rfl rfl inX12 tyX12 tyX12_ok nmX12 (by decide) W1247 rfl (by decide +kernel) rfl rfl dX12_readsNumber_73 ?_
  refine s_ltm rfl (fun m2 => ?_)
  refine s_goto 5 E dX12_readsNumber_76 (by decide) ?_
  exact hb m2
def r_readsNumber_5b  (m : M) : Option ((M) ⊕ ((M))) :=
  Option.bind (r_byteAt (m 76 8) m) (fun v1 => Option.bind (r_in1 v1 (48 : Int32) (57 : Int32) m) (fun v2 => (if v2 = 0 then some (.inr m) else (if (4 : Int32) ≤ ((m 76 8) - (m 76 9)) then r_readsNumber_63 (m 76 11) m else Option.bind (r_byteAt (m 76 8) m) (fun v3 => r_readsNumber_63 ((((10 : Int32) * (m 76 11)) + v3) - (48 : Int32)) m)))))
set_option maxRecDepth 20000 in
theorem t_r_readsNumber_5b {G : GG} {x : Cx} {K : ((M) ⊕ ((M))) → Option (Option Value × M)} (E : En G x cX12_readsNumber "WreckBoardModel" 2 none) (hn : xn x = 1)  (m : M) (hb : ∀ z : M, Sm G x 5 [(0, .ref (G.2.1 76))] [] z (some (.inl z)) K) (hx0 : ∀ z : M, Sm G x 79 [(0, .ref (G.2.1 76))] [] z (some (.inr z)) K) : Sm G x 5 [(0, .ref (G.2.1 76))] [] m (r_readsNumber_5b m) K := by
  unfold r_readsNumber_5b
  refine s_aload_n 0 E dX12_readsNumber_5 rfl rfl ?_
  refine s_aload_n 0 E dX12_readsNumber_6 rfl rfl ?_
  refine s_geti (k := 8) (T := TX12) 76 E rfl rfl rfl inX12 (by decide) W1247 dX12_readsNumber_7 ?_
  refine s_bd (fun v1 hz => ?_)
  refine s_cV (rest := []) E (C_r_byteAt (xl x) G (m 76 8) m hz) mdX12_byteAt W1371 W1373 W29 W103 W1374 rfl rfl rfl rfl (Nat.le_of_ble_eq_true rfl) ⟨by decide, by decide⟩ dX12_readsNumber_10 ?_
  refine s_bipush (v := (48 : Int32)) E dX12_readsNumber_13 (by decide) ?_
  refine s_bipush (v := (57 : Int32)) E dX12_readsNumber_15 (by decide) ?_
  refine s_bd (fun v2 hz => ?_)
  refine s_cS (rest := []) E (C_r_in1 (xl x) G v1 (48 : Int32) (57 : Int32) m hz) mdX12_in1 W1359 W1360 W103 W1361 rfl rfl (Nat.le_of_ble_eq_true rfl) ⟨by decide, by decide⟩ dX12_readsNumber_17 ?_
  refine s_if_eq 79 E dX12_readsNumber_20 (by decide) ?_ ?_
  · exact hx0 m
  · refine s_aload_n 0 E dX12_readsNumber_23 rfl rfl ?_
    refine s_aload_n 0 E dX12_readsNumber_24 rfl rfl ?_
    refine s_geti (k := 8) (T := TX12) 76 E rfl rfl rfl inX12 (by decide) W1247 dX12_readsNumber_25 ?_
    refine s_aload_n 0 E dX12_readsNumber_28 rfl rfl ?_
    refine s_geti (k := 9) (T := TX12) 76 E rfl rfl rfl inX12 (by decide) W1248 dX12_readsNumber_29 ?_
    refine s_isub E dX12_readsNumber_32 ?_
    refine s_iconst (v := (4 : Int32)) E dX12_readsNumber_33 (by decide) ?_
    refine s_icmp_ge 59 E dX12_readsNumber_34 (by decide) ?_ ?_
    · refine s_aload_n 0 E dX12_readsNumber_59 rfl rfl ?_
      refine s_geti (k := 11) (T := TX12) 76 E rfl rfl rfl inX12 (by decide) W1250 dX12_readsNumber_60 ?_
      exact t_r_readsNumber_63 E hn (m 76 11) m hb hx0
    · refine s_bipush (v := (10 : Int32)) E dX12_readsNumber_37 (by decide) ?_
      refine s_aload_n 0 E dX12_readsNumber_39 rfl rfl ?_
      refine s_geti (k := 11) (T := TX12) 76 E rfl rfl rfl inX12 (by decide) W1250 dX12_readsNumber_40 ?_
      refine s_imul E dX12_readsNumber_43 ?_
      refine s_aload_n 0 E dX12_readsNumber_44 rfl rfl ?_
      refine s_aload_n 0 E dX12_readsNumber_45 rfl rfl ?_
      refine s_geti (k := 8) (T := TX12) 76 E rfl rfl rfl inX12 (by decide) W1247 dX12_readsNumber_46 ?_
      refine s_bd (fun v3 hz => ?_)
      refine s_cV (rest := [.int ((10 : Int32) * (m 76 11)), .ref (G.2.1 76)]) E (C_r_byteAt (xl x) G (m 76 8) m hz) mdX12_byteAt W1371 W1373 W29 W103 W1374 rfl rfl rfl rfl (Nat.le_of_ble_eq_true rfl) ⟨by decide, by decide⟩ dX12_readsNumber_49 ?_
      refine s_iadd E dX12_readsNumber_52 ?_
      refine s_bipush (v := (48 : Int32)) E dX12_readsNumber_53 (by decide) ?_
      refine s_isub E dX12_readsNumber_55 ?_
      refine s_goto 63 E dX12_readsNumber_56 (by decide) ?_
      exact t_r_readsNumber_63 E hn ((((10 : Int32) * (m 76 11)) + v3) - (48 : Int32)) m hb hx0
def r_readsNumber_100 (s1 : Int32) (m : M) : Option (M) :=
  lt (wrF m 76 10 s1) (fun m1 => some m1)
set_option maxRecDepth 20000 in
theorem t_r_readsNumber_100 {G : GG} {x : Cx} (E : En G x cX12_readsNumber "WreckBoardModel" 2 none) (hn : xn x = 1) (s1 : Int32) (m : M) : Sm G x 100 [] [.int s1, .ref (G.2.1 76)] m (r_readsNumber_100 s1 m) KWv := by
  unfold r_readsNumber_100
  refine s_put (k := 10) (T := TX12) (ty := .int) 76 E rfl rfl rfl inX12 tyX12 tyX12_ok nmX12 (by decide) W1249 rfl (by decide +kernel) rfl rfl dX12_readsNumber_100 ?_
  refine s_ltm rfl (fun m1 => ?_)
  exact s_vret E rfl dX12_readsNumber_103
def r_readsNumber_5  (m : M) : Option (M) :=
  Option.bind (iter (fun z => r_readsNumber_5b z) FU m) (fun r => (if ((r 76 8) - (r 76 9)) ≤ (4 : Int32) then r_readsNumber_100 (100 : Int32) r else r_readsNumber_100 (101 : Int32) r))
set_option maxRecDepth 20000 in
theorem t_r_readsNumber_5 {G : GG} {x : Cx} (E : En G x cX12_readsNumber "WreckBoardModel" 2 none) (hn : xn x = 1)  (m : M) : Sm G x 5 [(0, .ref (G.2.1 76))] [] m (r_readsNumber_5 m) KWv := by
  unfold r_readsNumber_5
  refine s_loop (fun z => [(0, .ref (G.2.1 76))]) (fun z => z) (fun K2 hb2 hr2 z => ?_) FU m
  refine t_r_readsNumber_5b (K := K2) E hn z hb2 (fun r => s_out (hr2 r) ?_)
  · refine s_aload_n 0 E dX12_readsNumber_79 rfl rfl ?_
    refine s_aload_n 0 E dX12_readsNumber_80 rfl rfl ?_
    refine s_geti (k := 8) (T := TX12) 76 E rfl rfl rfl inX12 (by decide) W1247 dX12_readsNumber_81 ?_
    refine s_aload_n 0 E dX12_readsNumber_84 rfl rfl ?_
    refine s_geti (k := 9) (T := TX12) 76 E rfl rfl rfl inX12 (by decide) W1248 dX12_readsNumber_85 ?_
    refine s_isub E dX12_readsNumber_88 ?_
    refine s_iconst (v := (4 : Int32)) E dX12_readsNumber_89 (by decide) ?_
    refine s_icmp_le 98 E dX12_readsNumber_90 (by decide) ?_ ?_
    · refine s_bipush (v := (100 : Int32)) E dX12_readsNumber_98 (by decide) ?_
      refine s_sub (lv' := []) [] rfl ?_
      exact t_r_readsNumber_100 E hn (100 : Int32) r
    · refine s_bipush (v := (101 : Int32)) E dX12_readsNumber_93 (by decide) ?_
      refine s_goto 100 E dX12_readsNumber_95 (by decide) ?_
      refine s_sub (lv' := []) [] rfl ?_
      exact t_r_readsNumber_100 E hn (101 : Int32) r
def r_readsNumber  (m : M) : Option (M) :=
  lt (wrF m 76 11 (0 : Int32)) (fun m1 => r_readsNumber_5 m1)
set_option maxRecDepth 20000 in
theorem t_r_readsNumber {G : GG} {x : Cx} (E : En G x cX12_readsNumber "WreckBoardModel" 2 none) (hn : xn x = 1)  (m : M) : Sm G x 0 [(0, .ref (G.2.1 76))] [] m (r_readsNumber m) KWv := by
  unfold r_readsNumber
  refine s_aload_n 0 E dX12_readsNumber_0 rfl rfl ?_
  refine s_iconst (v := (0 : Int32)) E dX12_readsNumber_1 (by decide) ?_
  refine s_put (k := 11) (T := TX12) (ty := .int) 76 E rfl rfl rfl inX12 tyX12 tyX12_ok nmX12 (by decide) W1250 rfl (by decide +kernel) rfl rfl dX12_readsNumber_2 ?_
  refine s_ltm rfl (fun m1 => ?_)
  exact t_r_readsNumber_5 E hn m1
set_option maxRecDepth 20000 in
theorem C_r_readsNumber (l : Launch) (G : GG)  (m : M) {z : M} (hz : r_readsNumber m = some z) : Ct l G yX12_readsNumber cX12_readsNumber 1 none 2 [.ref (G.2.1 76)] m none z :=
  ct_of (K := KWv) (by decide) (Nat.le_of_ble_eq_true rfl) (congrArg (fun q => Option.bind q _) hz) (fun x hl hn E => (t_r_readsNumber E hn  m))
theorem mdX12_readsNumber : mdq yX12_readsNumber 0 := ⟨by decide, by decide, by decide +kernel⟩
theorem dX12_isNameOf_0 : decode cX12_isNameOf 0 = .ok (.aload_n 0, 1) := by decide +kernel
theorem dX12_isNameOf_1 : decode cX12_isNameOf 1 = .ok (.getfield 131, 3) := by decide +kernel
theorem dX12_isNameOf_4 : decode cX12_isNameOf 4 = .ok (.aload_n 0, 1) := by decide +kernel
theorem dX12_isNameOf_5 : decode cX12_isNameOf 5 = .ok (.getfield 134, 3) := by decide +kernel
theorem dX12_isNameOf_8 : decode cX12_isNameOf 8 = .ok (.isub, 1) := by decide +kernel
theorem dX12_isNameOf_9 : decode cX12_isNameOf 9 = .ok (.bipush 8, 2) := by decide +kernel
theorem dX12_isNameOf_11 : decode cX12_isNameOf 11 = .ok (.if_icmp .gt 7, 3) := by decide +kernel
theorem dX12_isNameOf_14 : decode cX12_isNameOf 14 = .ok (.iconst 1, 1) := by decide +kernel
theorem dX12_isNameOf_15 : decode cX12_isNameOf 15 = .ok (.goto 4, 3) := by decide +kernel
theorem dX12_isNameOf_18 : decode cX12_isNameOf 18 = .ok (.iconst 0, 1) := by decide +kernel
theorem dX12_isNameOf_19 : decode cX12_isNameOf 19 = .ok (.istore_n 2, 1) := by decide +kernel
theorem dX12_isNameOf_20 : decode cX12_isNameOf 20 = .ok (.iconst 0, 1) := by decide +kernel
theorem dX12_isNameOf_21 : decode cX12_isNameOf 21 = .ok (.istore_n 3, 1) := by decide +kernel
theorem dX12_isNameOf_22 : decode cX12_isNameOf 22 = .ok (.iload_n 3, 1) := by decide +kernel
theorem dX12_isNameOf_23 : decode cX12_isNameOf 23 = .ok (.bipush 8, 2) := by decide +kernel
theorem dX12_isNameOf_25 : decode cX12_isNameOf 25 = .ok (.if_icmp .ge 61, 3) := by decide +kernel
theorem dX12_isNameOf_28 : decode cX12_isNameOf 28 = .ok (.iload_n 2, 1) := by decide +kernel
theorem dX12_isNameOf_29 : decode cX12_isNameOf 29 = .ok (.ifCond .eq 57, 3) := by decide +kernel
theorem dX12_isNameOf_32 : decode cX12_isNameOf 32 = .ok (.aload_n 0, 1) := by decide +kernel
theorem dX12_isNameOf_33 : decode cX12_isNameOf 33 = .ok (.getfield 25, 3) := by decide +kernel
theorem dX12_isNameOf_36 : decode cX12_isNameOf 36 = .ok (.bipush 8, 2) := by decide +kernel
theorem dX12_isNameOf_38 : decode cX12_isNameOf 38 = .ok (.iload_n 1, 1) := by decide +kernel
theorem dX12_isNameOf_39 : decode cX12_isNameOf 39 = .ok (.imul, 1) := by decide +kernel
theorem dX12_isNameOf_40 : decode cX12_isNameOf 40 = .ok (.iload_n 3, 1) := by decide +kernel
theorem dX12_isNameOf_41 : decode cX12_isNameOf 41 = .ok (.iadd, 1) := by decide +kernel
theorem dX12_isNameOf_42 : decode cX12_isNameOf 42 = .ok (.caload, 1) := by decide +kernel
theorem dX12_isNameOf_43 : decode cX12_isNameOf 43 = .ok (.aload_n 0, 1) := by decide +kernel
theorem dX12_isNameOf_44 : decode cX12_isNameOf 44 = .ok (.getfield 134, 3) := by decide +kernel
theorem dX12_isNameOf_47 : decode cX12_isNameOf 47 = .ok (.iload_n 3, 1) := by decide +kernel
theorem dX12_isNameOf_48 : decode cX12_isNameOf 48 = .ok (.iadd, 1) := by decide +kernel
theorem dX12_isNameOf_49 : decode cX12_isNameOf 49 = .ok (.aload_n 0, 1) := by decide +kernel
theorem dX12_isNameOf_50 : decode cX12_isNameOf 50 = .ok (.getfield 131, 3) := by decide +kernel
theorem dX12_isNameOf_53 : decode cX12_isNameOf 53 = .ok (.if_icmp .ge 16, 3) := by decide +kernel
theorem dX12_isNameOf_56 : decode cX12_isNameOf 56 = .ok (.aload_n 0, 1) := by decide +kernel
theorem dX12_isNameOf_57 : decode cX12_isNameOf 57 = .ok (.aload_n 0, 1) := by decide +kernel
theorem dX12_isNameOf_58 : decode cX12_isNameOf 58 = .ok (.getfield 134, 3) := by decide +kernel
theorem dX12_isNameOf_61 : decode cX12_isNameOf 61 = .ok (.iload_n 3, 1) := by decide +kernel
theorem dX12_isNameOf_62 : decode cX12_isNameOf 62 = .ok (.iadd, 1) := by decide +kernel
theorem dX12_isNameOf_63 : decode cX12_isNameOf 63 = .ok (.invokevirtual 137, 3) := by decide +kernel
theorem dX12_isNameOf_66 : decode cX12_isNameOf 66 = .ok (.goto 5, 3) := by decide +kernel
theorem dX12_isNameOf_69 : decode cX12_isNameOf 69 = .ok (.bipush 32, 2) := by decide +kernel
theorem dX12_isNameOf_71 : decode cX12_isNameOf 71 = .ok (.if_icmp .ne 7, 3) := by decide +kernel
theorem dX12_isNameOf_74 : decode cX12_isNameOf 74 = .ok (.iconst 1, 1) := by decide +kernel
theorem dX12_isNameOf_75 : decode cX12_isNameOf 75 = .ok (.goto 4, 3) := by decide +kernel
theorem dX12_isNameOf_78 : decode cX12_isNameOf 78 = .ok (.iconst 0, 1) := by decide +kernel
theorem dX12_isNameOf_79 : decode cX12_isNameOf 79 = .ok (.istore_n 2, 1) := by decide +kernel
theorem dX12_isNameOf_80 : decode cX12_isNameOf 80 = .ok (.iinc 3 1, 3) := by decide +kernel
theorem dX12_isNameOf_83 : decode cX12_isNameOf 83 = .ok (.goto (-61), 3) := by decide +kernel
theorem dX12_isNameOf_86 : decode cX12_isNameOf 86 = .ok (.iload_n 2, 1) := by decide +kernel
theorem dX12_isNameOf_87 : decode cX12_isNameOf 87 = .ok (.ireturn, 1) := by decide +kernel
def r_isNameOf_79 (a1 : Int32) (a3 : Int32) (s0 : Int32) (m : M) : Option ((Int32 × Int32) ⊕ ((Int32))) :=
  lt (a3 + (1 : Int32)) (fun w1 : Int32 => some (.inl (s0, w1)))
set_option maxRecDepth 20000 in
theorem t_r_isNameOf_79 {G : GG} {x : Cx} {K : ((Int32 × Int32) ⊕ ((Int32))) → Option (Option Value × M)} (E : En G x cX12_isNameOf "WreckBoardModel" 2 (some .boolean)) (hn : xn x = 4) (a1 : Int32) (a3 : Int32) (s0 : Int32) (m : M) (hb : ∀ z : Int32 × Int32, Sm G x 22 [(0, .ref (G.2.1 76)), (1, .int a1), (2, .int z.1), (3, .int z.2)] [] m (some (.inl z)) K) (hx0 : ∀ z : Int32, Sm G x 86 [(2, .int z)] [] m (some (.inr z)) K) : Sm G x 79 [(0, .ref (G.2.1 76)), (1, .int a1), (3, .int a3)] [.int s0] m (r_isNameOf_79 a1 a3 s0 m) K := by
  unfold r_isNameOf_79
  refine s_istore_n (lv' := [(0, .ref (G.2.1 76)), (1, .int a1), (2, .int s0), (3, .int a3)]) [1, 2, 0, 3] E dX12_isNameOf_79 rfl (by rw [hn]; decide) rfl ?_
  refine s_iincL (v := (1 : Int32)) 3 [1, 2, 3, 0] (fun w1 => [(0, .ref (G.2.1 76)), (1, .int a1), (2, .int s0), (3, .int w1)]) E dX12_isNameOf_80 rfl (by decide) (by rw [hn]; decide) (fun _ => rfl) (fun w1 => ?_)
  refine s_goto 22 E dX12_isNameOf_83 (by decide) ?_
  exact hb (s0, w1)
def r_isNameOf_71 (a1 : Int32) (a3 : Int32) (s0 : Int32) (s1 : Int32) (m : M) : Option ((Int32 × Int32) ⊕ ((Int32))) :=
  (if s0 = s1 then r_isNameOf_79 a1 a3 (1 : Int32) m else r_isNameOf_79 a1 a3 (0 : Int32) m)
set_option maxRecDepth 20000 in
theorem t_r_isNameOf_71 {G : GG} {x : Cx} {K : ((Int32 × Int32) ⊕ ((Int32))) → Option (Option Value × M)} (E : En G x cX12_isNameOf "WreckBoardModel" 2 (some .boolean)) (hn : xn x = 4) (a1 : Int32) (a3 : Int32) (s0 : Int32) (s1 : Int32) (m : M) (hb : ∀ z : Int32 × Int32, Sm G x 22 [(0, .ref (G.2.1 76)), (1, .int a1), (2, .int z.1), (3, .int z.2)] [] m (some (.inl z)) K) (hx0 : ∀ z : Int32, Sm G x 86 [(2, .int z)] [] m (some (.inr z)) K) : Sm G x 71 [(0, .ref (G.2.1 76)), (1, .int a1), (3, .int a3)] [.int s1, .int s0] m (r_isNameOf_71 a1 a3 s0 s1 m) K := by
  unfold r_isNameOf_71
  refine s_icmp_ne 78 E dX12_isNameOf_71 (by decide) ?_ ?_
  · refine s_iconst (v := (0 : Int32)) E dX12_isNameOf_78 (by decide) ?_
    exact t_r_isNameOf_79 E hn a1 a3 (0 : Int32) m hb hx0
  · refine s_iconst (v := (1 : Int32)) E dX12_isNameOf_74 (by decide) ?_
    refine s_goto 79 E dX12_isNameOf_75 (by decide) ?_
    exact t_r_isNameOf_79 E hn a1 a3 (1 : Int32) m hb hx0
def r_isNameOf_22b (a1 : Int32) (a2 : Int32) (a3 : Int32) (m : M) : Option ((Int32 × Int32) ⊕ ((Int32))) :=
  (if (8 : Int32) ≤ a3 then some (.inr a2) else (if a2 = 0 then some (.inr a2) else Option.bind (rdC m 82 (((8 : Int32) * a1) + a3)) (fun v1 => (if (m 76 8) ≤ ((m 76 9) + a3) then r_isNameOf_71 a1 a3 v1 (32 : Int32) m else Option.bind (r_byteAt ((m 76 9) + a3) m) (fun v2 => r_isNameOf_71 a1 a3 v1 v2 m)))))
set_option maxRecDepth 20000 in
theorem t_r_isNameOf_22b {G : GG} {x : Cx} {K : ((Int32 × Int32) ⊕ ((Int32))) → Option (Option Value × M)} (E : En G x cX12_isNameOf "WreckBoardModel" 2 (some .boolean)) (hn : xn x = 4) (a1 : Int32) (a2 : Int32) (a3 : Int32) (m : M) (hb : ∀ z : Int32 × Int32, Sm G x 22 [(0, .ref (G.2.1 76)), (1, .int a1), (2, .int z.1), (3, .int z.2)] [] m (some (.inl z)) K) (hx0 : ∀ z : Int32, Sm G x 86 [(2, .int z)] [] m (some (.inr z)) K) : Sm G x 22 [(0, .ref (G.2.1 76)), (1, .int a1), (2, .int a2), (3, .int a3)] [] m (r_isNameOf_22b a1 a2 a3 m) K := by
  unfold r_isNameOf_22b
  refine s_iload_n 3 E dX12_isNameOf_22 rfl rfl ?_
  refine s_bipush (v := (8 : Int32)) E dX12_isNameOf_23 (by decide) ?_
  refine s_icmp_ge 86 E dX12_isNameOf_25 (by decide) ?_ ?_
  · refine s_sub (lv' := [(2, .int a2)]) [2] rfl ?_
    exact hx0 a2
  · refine s_iload_n 2 E dX12_isNameOf_28 rfl rfl ?_
    refine s_if_eq 86 E dX12_isNameOf_29 (by decide) ?_ ?_
    · refine s_sub (lv' := [(2, .int a2)]) [2] rfl ?_
      exact hx0 a2
    · refine s_aload_n 0 E dX12_isNameOf_32 rfl rfl ?_
      refine s_getr (k := 7) (T := TX12) 76 E rfl rfl rfl inX12 (by decide) W1246 dX12_isNameOf_33 ?_
      refine s_bipush (v := (8 : Int32)) E dX12_isNameOf_36 (by decide) ?_
      refine s_iload_n 1 E dX12_isNameOf_38 rfl rfl ?_
      refine s_imul E dX12_isNameOf_39 ?_
      refine s_iload_n 3 E dX12_isNameOf_40 rfl rfl ?_
      refine s_iadd E dX12_isNameOf_41 ?_
      refine s_cald E dX12_isNameOf_42 (fun v1 => ?_)
      refine s_aload_n 0 E dX12_isNameOf_43 rfl rfl ?_
      refine s_geti (k := 9) (T := TX12) 76 E rfl rfl rfl inX12 (by decide) W1248 dX12_isNameOf_44 ?_
      refine s_iload_n 3 E dX12_isNameOf_47 rfl rfl ?_
      refine s_iadd E dX12_isNameOf_48 ?_
      refine s_aload_n 0 E dX12_isNameOf_49 rfl rfl ?_
      refine s_geti (k := 8) (T := TX12) 76 E rfl rfl rfl inX12 (by decide) W1247 dX12_isNameOf_50 ?_
      refine s_icmp_ge 69 E dX12_isNameOf_53 (by decide) ?_ ?_
      · refine s_bipush (v := (32 : Int32)) E dX12_isNameOf_69 (by decide) ?_
        refine s_sub (lv' := [(0, .ref (G.2.1 76)), (1, .int a1), (3, .int a3)]) [0, 1, 3] rfl ?_
        exact t_r_isNameOf_71 E hn a1 a3 v1 (32 : Int32) m hb hx0
      · refine s_aload_n 0 E dX12_isNameOf_56 rfl rfl ?_
        refine s_aload_n 0 E dX12_isNameOf_57 rfl rfl ?_
        refine s_geti (k := 9) (T := TX12) 76 E rfl rfl rfl inX12 (by decide) W1248 dX12_isNameOf_58 ?_
        refine s_iload_n 3 E dX12_isNameOf_61 rfl rfl ?_
        refine s_iadd E dX12_isNameOf_62 ?_
        refine s_bd (fun v2 hz => ?_)
        refine s_cV (rest := [.int v1]) E (C_r_byteAt (xl x) G ((m 76 9) + a3) m hz) mdX12_byteAt W1371 W1373 W29 W103 W1374 rfl rfl rfl rfl (Nat.le_of_ble_eq_true rfl) ⟨by decide, by decide⟩ dX12_isNameOf_63 ?_
        refine s_goto 71 E dX12_isNameOf_66 (by decide) ?_
        refine s_sub (lv' := [(0, .ref (G.2.1 76)), (1, .int a1), (3, .int a3)]) [0, 1, 3] rfl ?_
        exact t_r_isNameOf_71 E hn a1 a3 v1 v2 m hb hx0
def r_isNameOf_22 (a1 : Int32) (a2 : Int32) (a3 : Int32) (m : M) : Option (Int32) :=
  Option.bind (iter (fun z => r_isNameOf_22b a1 z.1 z.2 m) FU (a2, a3)) (fun r => some (r &&& 1))
set_option maxRecDepth 20000 in
theorem t_r_isNameOf_22 {G : GG} {x : Cx} (E : En G x cX12_isNameOf "WreckBoardModel" 2 (some .boolean)) (hn : xn x = 4) (a1 : Int32) (a2 : Int32) (a3 : Int32) (m : M) : Sm G x 22 [(0, .ref (G.2.1 76)), (1, .int a1), (2, .int a2), (3, .int a3)] [] m (r_isNameOf_22 a1 a2 a3 m) (KRi m) := by
  unfold r_isNameOf_22
  refine s_loop (fun z => [(0, .ref (G.2.1 76)), (1, .int a1), (2, .int z.1), (3, .int z.2)]) (fun z => m) (fun K2 hb2 hr2 z => ?_) FU (a2, a3)
  refine t_r_isNameOf_22b (K := K2) E hn a1 z.1 z.2 m hb2 (fun r => s_out (hr2 r) ?_)
  · refine s_iload_n 0 E dX12_isNameOf_86 rfl rfl ?_
    exact s_zretN E rfl dX12_isNameOf_87
def r_isNameOf_19 (a1 : Int32) (s0 : Int32) (m : M) : Option (Int32) :=
  r_isNameOf_22 a1 s0 (0 : Int32) m
set_option maxRecDepth 20000 in
theorem t_r_isNameOf_19 {G : GG} {x : Cx} (E : En G x cX12_isNameOf "WreckBoardModel" 2 (some .boolean)) (hn : xn x = 4) (a1 : Int32) (s0 : Int32) (m : M) : Sm G x 19 [(0, .ref (G.2.1 76)), (1, .int a1)] [.int s0] m (r_isNameOf_19 a1 s0 m) (KRi m) := by
  unfold r_isNameOf_19
  refine s_istore_n (lv' := [(0, .ref (G.2.1 76)), (1, .int a1), (2, .int s0)]) [1, 2, 0] E dX12_isNameOf_19 rfl (by rw [hn]; decide) rfl ?_
  refine s_iconst (v := (0 : Int32)) E dX12_isNameOf_20 (by decide) ?_
  refine s_istore_n (lv' := [(0, .ref (G.2.1 76)), (1, .int a1), (2, .int s0), (3, .int (0 : Int32))]) [1, 2, 3, 0] E dX12_isNameOf_21 rfl (by rw [hn]; decide) rfl ?_
  exact t_r_isNameOf_22 E hn a1 s0 (0 : Int32) m
def r_isNameOf (a1 : Int32) (m : M) : Option (Int32) :=
  (if (8 : Int32) < ((m 76 8) - (m 76 9)) then r_isNameOf_19 a1 (0 : Int32) m else r_isNameOf_19 a1 (1 : Int32) m)
set_option maxRecDepth 20000 in
theorem t_r_isNameOf {G : GG} {x : Cx} (E : En G x cX12_isNameOf "WreckBoardModel" 2 (some .boolean)) (hn : xn x = 4) (a1 : Int32) (m : M) : Sm G x 0 [(0, .ref (G.2.1 76)), (1, .int a1)] [] m (r_isNameOf a1 m) (KRi m) := by
  unfold r_isNameOf
  refine s_aload_n 0 E dX12_isNameOf_0 rfl rfl ?_
  refine s_geti (k := 8) (T := TX12) 76 E rfl rfl rfl inX12 (by decide) W1247 dX12_isNameOf_1 ?_
  refine s_aload_n 0 E dX12_isNameOf_4 rfl rfl ?_
  refine s_geti (k := 9) (T := TX12) 76 E rfl rfl rfl inX12 (by decide) W1248 dX12_isNameOf_5 ?_
  refine s_isub E dX12_isNameOf_8 ?_
  refine s_bipush (v := (8 : Int32)) E dX12_isNameOf_9 (by decide) ?_
  refine s_icmp_gt 18 E dX12_isNameOf_11 (by decide) ?_ ?_
  · refine s_iconst (v := (0 : Int32)) E dX12_isNameOf_18 (by decide) ?_
    exact t_r_isNameOf_19 E hn a1 (0 : Int32) m
  · refine s_iconst (v := (1 : Int32)) E dX12_isNameOf_14 (by decide) ?_
    refine s_goto 19 E dX12_isNameOf_15 (by decide) ?_
    exact t_r_isNameOf_19 E hn a1 (1 : Int32) m
set_option maxRecDepth 20000 in
theorem C_r_isNameOf (l : Launch) (G : GG) (a1 : Int32) (m : M) {z : Int32} (hz : r_isNameOf a1 m = some z) : Ct l G yX12_isNameOf cX12_isNameOf 4 (some .boolean) 2 [.ref (G.2.1 76), .int a1] m (some (.int z)) m :=
  ct_of (K := (KRi m)) (by decide) (Nat.le_of_ble_eq_true rfl) (congrArg (fun q => Option.bind q _) hz) (fun x hl hn E => (t_r_isNameOf E hn a1 m))
theorem mdX12_isNameOf : mdq yX12_isNameOf 1 := ⟨by decide, by decide, by decide +kernel⟩
theorem dX12_readsName_0 : decode cX12_readsName 0 = .ok (.aload_n 0, 1) := by decide +kernel
theorem dX12_readsName_1 : decode cX12_readsName 1 = .ok (.aload_n 0, 1) := by decide +kernel
theorem dX12_readsName_2 : decode cX12_readsName 2 = .ok (.getfield 131, 3) := by decide +kernel
theorem dX12_readsName_5 : decode cX12_readsName 5 = .ok (.invokevirtual 137, 3) := by decide +kernel
theorem dX12_readsName_8 : decode cX12_readsName 8 = .ok (.bipush 97, 2) := by decide +kernel
theorem dX12_readsName_10 : decode cX12_readsName 10 = .ok (.bipush 122, 2) := by decide +kernel
theorem dX12_readsName_12 : decode cX12_readsName 12 = .ok (.invokestatic 71, 3) := by decide +kernel
theorem dX12_readsName_15 : decode cX12_readsName 15 = .ok (.ifCond .eq 16, 3) := by decide +kernel
theorem dX12_readsName_18 : decode cX12_readsName 18 = .ok (.aload_n 0, 1) := by decide +kernel
theorem dX12_readsName_19 : decode cX12_readsName 19 = .ok (.dup, 1) := by decide +kernel
theorem dX12_readsName_20 : decode cX12_readsName 20 = .ok (.getfield 131, 3) := by decide +kernel
theorem dX12_readsName_23 : decode cX12_readsName 23 = .ok (.iconst 1, 1) := by decide +kernel
theorem dX12_readsName_24 : decode cX12_readsName 24 = .ok (.iadd, 1) := by decide +kernel
theorem dX12_readsName_25 : decode cX12_readsName 25 = .ok (.putfield 131, 3) := by decide +kernel
theorem dX12_readsName_28 : decode cX12_readsName 28 = .ok (.goto (-28), 3) := by decide +kernel
theorem dX12_readsName_31 : decode cX12_readsName 31 = .ok (.aload_n 0, 1) := by decide +kernel
theorem dX12_readsName_32 : decode cX12_readsName 32 = .ok (.bipush 101, 2) := by decide +kernel
theorem dX12_readsName_34 : decode cX12_readsName 34 = .ok (.putfield 140, 3) := by decide +kernel
theorem dX12_readsName_37 : decode cX12_readsName 37 = .ok (.iconst 0, 1) := by decide +kernel
theorem dX12_readsName_38 : decode cX12_readsName 38 = .ok (.istore_n 1, 1) := by decide +kernel
theorem dX12_readsName_39 : decode cX12_readsName 39 = .ok (.iload_n 1, 1) := by decide +kernel
theorem dX12_readsName_40 : decode cX12_readsName 40 = .ok (.bipush 18, 2) := by decide +kernel
theorem dX12_readsName_42 : decode cX12_readsName 42 = .ok (.if_icmp .ge 29, 3) := by decide +kernel
theorem dX12_readsName_45 : decode cX12_readsName 45 = .ok (.aload_n 0, 1) := by decide +kernel
theorem dX12_readsName_46 : decode cX12_readsName 46 = .ok (.aload_n 0, 1) := by decide +kernel
theorem dX12_readsName_47 : decode cX12_readsName 47 = .ok (.iload_n 1, 1) := by decide +kernel
theorem dX12_readsName_48 : decode cX12_readsName 48 = .ok (.invokevirtual 143, 3) := by decide +kernel
theorem dX12_readsName_51 : decode cX12_readsName 51 = .ok (.ifCond .eq 7, 3) := by decide +kernel
theorem dX12_readsName_54 : decode cX12_readsName 54 = .ok (.iload_n 1, 1) := by decide +kernel
theorem dX12_readsName_55 : decode cX12_readsName 55 = .ok (.goto 7, 3) := by decide +kernel
theorem dX12_readsName_58 : decode cX12_readsName 58 = .ok (.aload_n 0, 1) := by decide +kernel
theorem dX12_readsName_59 : decode cX12_readsName 59 = .ok (.getfield 140, 3) := by decide +kernel
theorem dX12_readsName_62 : decode cX12_readsName 62 = .ok (.putfield 140, 3) := by decide +kernel
theorem dX12_readsName_65 : decode cX12_readsName 65 = .ok (.iinc 1 1, 3) := by decide +kernel
theorem dX12_readsName_68 : decode cX12_readsName 68 = .ok (.goto (-29), 3) := by decide +kernel
theorem dX12_readsName_71 : decode cX12_readsName 71 = .ok (.return_, 1) := by decide +kernel
def r_readsName_0b  (m : M) : Option ((M) ⊕ ((M))) :=
  Option.bind (r_byteAt (m 76 8) m) (fun v1 => Option.bind (r_in1 v1 (97 : Int32) (122 : Int32) m) (fun v2 => (if v2 = 0 then some (.inr m) else lt (wrF m 76 8 ((m 76 8) + (1 : Int32))) (fun m3 => some (.inl m3)))))
set_option maxRecDepth 20000 in
theorem t_r_readsName_0b {G : GG} {x : Cx} {K : ((M) ⊕ ((M))) → Option (Option Value × M)} (E : En G x cX12_readsName "WreckBoardModel" 3 none) (hn : xn x = 2)  (m : M) (hb : ∀ z : M, Sm G x 0 [(0, .ref (G.2.1 76))] [] z (some (.inl z)) K) (hx0 : ∀ z : M, Sm G x 31 [(0, .ref (G.2.1 76))] [] z (some (.inr z)) K) : Sm G x 0 [(0, .ref (G.2.1 76))] [] m (r_readsName_0b m) K := by
  unfold r_readsName_0b
  refine s_aload_n 0 E dX12_readsName_0 rfl rfl ?_
  refine s_aload_n 0 E dX12_readsName_1 rfl rfl ?_
  refine s_geti (k := 8) (T := TX12) 76 E rfl rfl rfl inX12 (by decide) W1247 dX12_readsName_2 ?_
  refine s_bd (fun v1 hz => ?_)
  refine s_cV (rest := []) E (C_r_byteAt (xl x) G (m 76 8) m hz) mdX12_byteAt W1371 W1373 W29 W103 W1374 rfl rfl rfl rfl (Nat.le_of_ble_eq_true rfl) ⟨by decide, by decide⟩ dX12_readsName_5 ?_
  refine s_bipush (v := (97 : Int32)) E dX12_readsName_8 (by decide) ?_
  refine s_bipush (v := (122 : Int32)) E dX12_readsName_10 (by decide) ?_
  refine s_bd (fun v2 hz => ?_)
  refine s_cS (rest := []) E (C_r_in1 (xl x) G v1 (97 : Int32) (122 : Int32) m hz) mdX12_in1 W1359 W1360 W103 W1361 rfl rfl (Nat.le_of_ble_eq_true rfl) ⟨by decide, by decide⟩ dX12_readsName_12 ?_
  refine s_if_eq 31 E dX12_readsName_15 (by decide) ?_ ?_
  · exact hx0 m
  · refine s_aload_n 0 E dX12_readsName_18 rfl rfl ?_
    refine s_dup E dX12_readsName_19 rfl ?_
    refine s_geti (k := 8) (T := TX12) 76 E rfl rfl rfl inX12 (by decide) W1247 dX12_readsName_20 ?_
    refine s_iconst (v := (1 : Int32)) E dX12_readsName_23 (by decide) ?_
    refine s_iadd E dX12_readsName_24 ?_
    refine s_put (k := 8) (T := TX12) (ty := .int) 76 E rfl rfl rfl inX12 tyX12 tyX12_ok nmX12 (by decide) W1247 rfl (by decide +kernel) rfl rfl dX12_readsName_25 ?_
    refine s_ltm rfl (fun m3 => ?_)
    refine s_goto 0 E dX12_readsName_28 (by decide) ?_
    exact hb m3
def r_readsName_62 (a1 : Int32) (s1 : Int32) (m : M) : Option ((Int32 × M) ⊕ ((M))) :=
  lt (wrF m 76 10 s1) (fun m1 => lt (a1 + (1 : Int32)) (fun w2 : Int32 => some (.inl (w2, m1))))
set_option maxRecDepth 20000 in
theorem t_r_readsName_62 {G : GG} {x : Cx} {K : ((Int32 × M) ⊕ ((M))) → Option (Option Value × M)} (E : En G x cX12_readsName "WreckBoardModel" 3 none) (hn : xn x = 2) (a1 : Int32) (s1 : Int32) (m : M) (hb : ∀ z : Int32 × M, Sm G x 39 [(0, .ref (G.2.1 76)), (1, .int z.1)] [] z.2 (some (.inl z)) K) (hx0 : ∀ z : M, Sm G x 71 [] [] z (some (.inr z)) K) : Sm G x 62 [(0, .ref (G.2.1 76)), (1, .int a1)] [.int s1, .ref (G.2.1 76)] m (r_readsName_62 a1 s1 m) K := by
  unfold r_readsName_62
  refine s_put (k := 10) (T := TX12) (ty := .int) 76 E rfl rfl rfl inX12 tyX12 tyX12_ok nmX12 (by decide) W1249 rfl (by decide +kernel) rfl rfl dX12_readsName_62 ?_
  refine s_ltm rfl (fun m1 => ?_)
  refine s_iincL (v := (1 : Int32)) 1 [1, 0] (fun w2 => [(0, .ref (G.2.1 76)), (1, .int w2)]) E dX12_readsName_65 rfl (by decide) (by rw [hn]; decide) (fun _ => rfl) (fun w2 => ?_)
  refine s_goto 39 E dX12_readsName_68 (by decide) ?_
  exact hb (w2, m1)
def r_readsName_39b (a1 : Int32) (m : M) : Option ((Int32 × M) ⊕ ((M))) :=
  (if (18 : Int32) ≤ a1 then some (.inr m) else Option.bind (r_isNameOf a1 m) (fun v1 => (if v1 = 0 then r_readsName_62 a1 (m 76 10) m else r_readsName_62 a1 a1 m)))
set_option maxRecDepth 20000 in
theorem t_r_readsName_39b {G : GG} {x : Cx} {K : ((Int32 × M) ⊕ ((M))) → Option (Option Value × M)} (E : En G x cX12_readsName "WreckBoardModel" 3 none) (hn : xn x = 2) (a1 : Int32) (m : M) (hb : ∀ z : Int32 × M, Sm G x 39 [(0, .ref (G.2.1 76)), (1, .int z.1)] [] z.2 (some (.inl z)) K) (hx0 : ∀ z : M, Sm G x 71 [] [] z (some (.inr z)) K) : Sm G x 39 [(0, .ref (G.2.1 76)), (1, .int a1)] [] m (r_readsName_39b a1 m) K := by
  unfold r_readsName_39b
  refine s_iload_n 1 E dX12_readsName_39 rfl rfl ?_
  refine s_bipush (v := (18 : Int32)) E dX12_readsName_40 (by decide) ?_
  refine s_icmp_ge 71 E dX12_readsName_42 (by decide) ?_ ?_
  · refine s_sub (lv' := []) [] rfl ?_
    exact hx0 m
  · refine s_aload_n 0 E dX12_readsName_45 rfl rfl ?_
    refine s_aload_n 0 E dX12_readsName_46 rfl rfl ?_
    refine s_iload_n 1 E dX12_readsName_47 rfl rfl ?_
    refine s_bd (fun v1 hz => ?_)
    refine s_cV (rest := [.ref (G.2.1 76)]) E (C_r_isNameOf (xl x) G a1 m hz) mdX12_isNameOf W1379 W1381 W31 W103 W1382 rfl rfl rfl rfl (Nat.le_of_ble_eq_true rfl) ⟨by decide, by decide⟩ dX12_readsName_48 ?_
    refine s_if_eq 58 E dX12_readsName_51 (by decide) ?_ ?_
    · refine s_aload_n 0 E dX12_readsName_58 rfl rfl ?_
      refine s_geti (k := 10) (T := TX12) 76 E rfl rfl rfl inX12 (by decide) W1249 dX12_readsName_59 ?_
      exact t_r_readsName_62 E hn a1 (m 76 10) m hb hx0
    · refine s_iload_n 1 E dX12_readsName_54 rfl rfl ?_
      refine s_goto 62 E dX12_readsName_55 (by decide) ?_
      exact t_r_readsName_62 E hn a1 a1 m hb hx0
def r_readsName_39 (a1 : Int32) (m : M) : Option (M) :=
  Option.bind (iter (fun z => r_readsName_39b z.1 z.2) FU (a1, m)) (fun r => some r)
set_option maxRecDepth 20000 in
theorem t_r_readsName_39 {G : GG} {x : Cx} (E : En G x cX12_readsName "WreckBoardModel" 3 none) (hn : xn x = 2) (a1 : Int32) (m : M) : Sm G x 39 [(0, .ref (G.2.1 76)), (1, .int a1)] [] m (r_readsName_39 a1 m) KWv := by
  unfold r_readsName_39
  refine s_loop (fun z => [(0, .ref (G.2.1 76)), (1, .int z.1)]) (fun z => z.2) (fun K2 hb2 hr2 z => ?_) FU (a1, m)
  refine t_r_readsName_39b (K := K2) E hn z.1 z.2 hb2 (fun r => s_out (hr2 r) ?_)
  · exact s_vret E rfl dX12_readsName_71
def r_readsName  (m : M) : Option (M) :=
  Option.bind (iter (fun z => r_readsName_0b z) FU m) (fun r => lt (wrF r 76 10 (101 : Int32)) (fun m4 => r_readsName_39 (0 : Int32) m4))
set_option maxRecDepth 20000 in
theorem t_r_readsName {G : GG} {x : Cx} (E : En G x cX12_readsName "WreckBoardModel" 3 none) (hn : xn x = 2)  (m : M) : Sm G x 0 [(0, .ref (G.2.1 76))] [] m (r_readsName m) KWv := by
  unfold r_readsName
  refine s_loop (fun z => [(0, .ref (G.2.1 76))]) (fun z => z) (fun K2 hb2 hr2 z => ?_) FU m
  refine t_r_readsName_0b (K := K2) E hn z hb2 (fun r => s_out (hr2 r) ?_)
  · refine s_aload_n 0 E dX12_readsName_31 rfl rfl ?_
    refine s_bipush (v := (101 : Int32)) E dX12_readsName_32 (by decide) ?_
    refine s_put (k := 10) (T := TX12) (ty := .int) 76 E rfl rfl rfl inX12 tyX12 tyX12_ok nmX12 (by decide) W1249 rfl (by decide +kernel) rfl rfl dX12_readsName_34 ?_
    refine s_ltm rfl (fun m4 => ?_)
    refine s_iconst (v := (0 : Int32)) E dX12_readsName_37 (by decide) ?_
    refine s_istore_n (lv' := [(0, .ref (G.2.1 76)), (1, .int (0 : Int32))]) [1, 0] E dX12_readsName_38 rfl (by rw [hn]; decide) rfl ?_
    exact t_r_readsName_39 E hn (0 : Int32) m4
set_option maxRecDepth 20000 in
theorem C_r_readsName (l : Launch) (G : GG)  (m : M) {z : M} (hz : r_readsName m = some z) : Ct l G yX12_readsName cX12_readsName 2 none 3 [.ref (G.2.1 76)] m none z :=
  ct_of (K := KWv) (by decide) (Nat.le_of_ble_eq_true rfl) (congrArg (fun q => Option.bind q _) hz) (fun x hl hn E => (t_r_readsName E hn  m))
theorem mdX12_readsName : mdq yX12_readsName 0 := ⟨by decide, by decide, by decide +kernel⟩
theorem dX12_next_0 : decode cX12_next 0 = .ok (.aload_n 0, 1) := by decide +kernel
theorem dX12_next_1 : decode cX12_next 1 = .ok (.aload_n 0, 1) := by decide +kernel
theorem dX12_next_2 : decode cX12_next 2 = .ok (.getfield 131, 3) := by decide +kernel
theorem dX12_next_5 : decode cX12_next 5 = .ok (.invokevirtual 137, 3) := by decide +kernel
theorem dX12_next_8 : decode cX12_next 8 = .ok (.bipush 32, 2) := by decide +kernel
theorem dX12_next_10 : decode cX12_next 10 = .ok (.if_icmp .ne 16, 3) := by decide +kernel
theorem dX12_next_13 : decode cX12_next 13 = .ok (.aload_n 0, 1) := by decide +kernel
theorem dX12_next_14 : decode cX12_next 14 = .ok (.dup, 1) := by decide +kernel
theorem dX12_next_15 : decode cX12_next 15 = .ok (.getfield 131, 3) := by decide +kernel
theorem dX12_next_18 : decode cX12_next 18 = .ok (.iconst 1, 1) := by decide +kernel
theorem dX12_next_19 : decode cX12_next 19 = .ok (.iadd, 1) := by decide +kernel
theorem dX12_next_20 : decode cX12_next 20 = .ok (.putfield 131, 3) := by decide +kernel
theorem dX12_next_23 : decode cX12_next 23 = .ok (.goto (-23), 3) := by decide +kernel
theorem dX12_next_26 : decode cX12_next 26 = .ok (.aload_n 0, 1) := by decide +kernel
theorem dX12_next_27 : decode cX12_next 27 = .ok (.aload_n 0, 1) := by decide +kernel
theorem dX12_next_28 : decode cX12_next 28 = .ok (.getfield 131, 3) := by decide +kernel
theorem dX12_next_31 : decode cX12_next 31 = .ok (.putfield 134, 3) := by decide +kernel
theorem dX12_next_34 : decode cX12_next 34 = .ok (.aload_n 0, 1) := by decide +kernel
theorem dX12_next_35 : decode cX12_next 35 = .ok (.aload_n 0, 1) := by decide +kernel
theorem dX12_next_36 : decode cX12_next 36 = .ok (.getfield 131, 3) := by decide +kernel
theorem dX12_next_39 : decode cX12_next 39 = .ok (.invokevirtual 137, 3) := by decide +kernel
theorem dX12_next_42 : decode cX12_next 42 = .ok (.istore_n 1, 1) := by decide +kernel
theorem dX12_next_43 : decode cX12_next 43 = .ok (.iload_n 1, 1) := by decide +kernel
theorem dX12_next_44 : decode cX12_next 44 = .ok (.ifCond .ge 11, 3) := by decide +kernel
theorem dX12_next_47 : decode cX12_next 47 = .ok (.aload_n 0, 1) := by decide +kernel
theorem dX12_next_48 : decode cX12_next 48 = .ok (.iconst (-1), 1) := by decide +kernel
theorem dX12_next_49 : decode cX12_next 49 = .ok (.putfield 140, 3) := by decide +kernel
theorem dX12_next_52 : decode cX12_next 52 = .ok (.goto 58, 3) := by decide +kernel
theorem dX12_next_55 : decode cX12_next 55 = .ok (.iload_n 1, 1) := by decide +kernel
theorem dX12_next_56 : decode cX12_next 56 = .ok (.bipush 97, 2) := by decide +kernel
theorem dX12_next_58 : decode cX12_next 58 = .ok (.bipush 122, 2) := by decide +kernel
theorem dX12_next_60 : decode cX12_next 60 = .ok (.invokestatic 71, 3) := by decide +kernel
theorem dX12_next_63 : decode cX12_next 63 = .ok (.ifCond .eq 10, 3) := by decide +kernel
theorem dX12_next_66 : decode cX12_next 66 = .ok (.aload_n 0, 1) := by decide +kernel
theorem dX12_next_67 : decode cX12_next 67 = .ok (.invokevirtual 149, 3) := by decide +kernel
theorem dX12_next_70 : decode cX12_next 70 = .ok (.goto 40, 3) := by decide +kernel
theorem dX12_next_73 : decode cX12_next 73 = .ok (.iload_n 1, 1) := by decide +kernel
theorem dX12_next_74 : decode cX12_next 74 = .ok (.bipush 48, 2) := by decide +kernel
theorem dX12_next_76 : decode cX12_next 76 = .ok (.bipush 57, 2) := by decide +kernel
theorem dX12_next_78 : decode cX12_next 78 = .ok (.invokestatic 71, 3) := by decide +kernel
theorem dX12_next_81 : decode cX12_next 81 = .ok (.ifCond .eq 10, 3) := by decide +kernel
theorem dX12_next_84 : decode cX12_next 84 = .ok (.aload_n 0, 1) := by decide +kernel
theorem dX12_next_85 : decode cX12_next 85 = .ok (.invokevirtual 152, 3) := by decide +kernel
theorem dX12_next_88 : decode cX12_next 88 = .ok (.goto 22, 3) := by decide +kernel
theorem dX12_next_91 : decode cX12_next 91 = .ok (.aload_n 0, 1) := by decide +kernel
theorem dX12_next_92 : decode cX12_next 92 = .ok (.sipush 200, 3) := by decide +kernel
theorem dX12_next_95 : decode cX12_next 95 = .ok (.iload_n 1, 1) := by decide +kernel
theorem dX12_next_96 : decode cX12_next 96 = .ok (.iadd, 1) := by decide +kernel
theorem dX12_next_97 : decode cX12_next 97 = .ok (.putfield 140, 3) := by decide +kernel
theorem dX12_next_100 : decode cX12_next 100 = .ok (.aload_n 0, 1) := by decide +kernel
theorem dX12_next_101 : decode cX12_next 101 = .ok (.dup, 1) := by decide +kernel
theorem dX12_next_102 : decode cX12_next 102 = .ok (.getfield 131, 3) := by decide +kernel
theorem dX12_next_105 : decode cX12_next 105 = .ok (.iconst 1, 1) := by decide +kernel
theorem dX12_next_106 : decode cX12_next 106 = .ok (.iadd, 1) := by decide +kernel
theorem dX12_next_107 : decode cX12_next 107 = .ok (.putfield 131, 3) := by decide +kernel
theorem dX12_next_110 : decode cX12_next 110 = .ok (.return_, 1) := by decide +kernel
def r_next_0b  (m : M) : Option ((M) ⊕ ((M))) :=
  Option.bind (r_byteAt (m 76 8) m) (fun v1 => (if v1 = (32 : Int32) then lt (wrF m 76 8 ((m 76 8) + (1 : Int32))) (fun m2 => some (.inl m2)) else some (.inr m)))
set_option maxRecDepth 20000 in
theorem t_r_next_0b {G : GG} {x : Cx} {K : ((M) ⊕ ((M))) → Option (Option Value × M)} (E : En G x cX12_next "WreckBoardModel" 4 none) (hn : xn x = 2)  (m : M) (hb : ∀ z : M, Sm G x 0 [(0, .ref (G.2.1 76))] [] z (some (.inl z)) K) (hx0 : ∀ z : M, Sm G x 26 [(0, .ref (G.2.1 76))] [] z (some (.inr z)) K) : Sm G x 0 [(0, .ref (G.2.1 76))] [] m (r_next_0b m) K := by
  unfold r_next_0b
  refine s_aload_n 0 E dX12_next_0 rfl rfl ?_
  refine s_aload_n 0 E dX12_next_1 rfl rfl ?_
  refine s_geti (k := 8) (T := TX12) 76 E rfl rfl rfl inX12 (by decide) W1247 dX12_next_2 ?_
  refine s_bd (fun v1 hz => ?_)
  refine s_cV (rest := []) E (C_r_byteAt (xl x) G (m 76 8) m hz) mdX12_byteAt W1371 W1373 W29 W103 W1374 rfl rfl rfl rfl (Nat.le_of_ble_eq_true rfl) ⟨by decide, by decide⟩ dX12_next_5 ?_
  refine s_bipush (v := (32 : Int32)) E dX12_next_8 (by decide) ?_
  refine s_icmp_ne 26 E dX12_next_10 (by decide) ?_ ?_
  · exact hx0 m
  · refine s_aload_n 0 E dX12_next_13 rfl rfl ?_
    refine s_dup E dX12_next_14 rfl ?_
    refine s_geti (k := 8) (T := TX12) 76 E rfl rfl rfl inX12 (by decide) W1247 dX12_next_15 ?_
    refine s_iconst (v := (1 : Int32)) E dX12_next_18 (by decide) ?_
    refine s_iadd E dX12_next_19 ?_
    refine s_put (k := 8) (T := TX12) (ty := .int) 76 E rfl rfl rfl inX12 tyX12 tyX12_ok nmX12 (by decide) W1247 rfl (by decide +kernel) rfl rfl dX12_next_20 ?_
    refine s_ltm rfl (fun m2 => ?_)
    refine s_goto 0 E dX12_next_23 (by decide) ?_
    exact hb m2
def r_next  (m : M) : Option (M) :=
  Option.bind (iter (fun z => r_next_0b z) FU m) (fun r => lt (wrF r 76 9 (r 76 8)) (fun m3 => Option.bind (r_byteAt (m3 76 8) m3) (fun v4 => (if 0 ≤ v4 then Option.bind (r_in1 v4 (97 : Int32) (122 : Int32) m3) (fun v5 => (if v5 = 0 then Option.bind (r_in1 v4 (48 : Int32) (57 : Int32) m3) (fun v6 => (if v6 = 0 then lt (wrF m3 76 10 ((200 : Int32) + v4)) (fun m7 => lt (wrF m7 76 8 ((m7 76 8) + (1 : Int32))) (fun m8 => some m8)) else Option.bind (r_readsNumber m3) (fun m9 => some m9))) else Option.bind (r_readsName m3) (fun m10 => some m10))) else lt (wrF m3 76 10 (-1 : Int32)) (fun m11 => some m11)))))
set_option maxRecDepth 20000 in
theorem t_r_next {G : GG} {x : Cx} (E : En G x cX12_next "WreckBoardModel" 4 none) (hn : xn x = 2)  (m : M) : Sm G x 0 [(0, .ref (G.2.1 76))] [] m (r_next m) KWv := by
  unfold r_next
  refine s_loop (fun z => [(0, .ref (G.2.1 76))]) (fun z => z) (fun K2 hb2 hr2 z => ?_) FU m
  refine t_r_next_0b (K := K2) E hn z hb2 (fun r => s_out (hr2 r) ?_)
  · refine s_aload_n 0 E dX12_next_26 rfl rfl ?_
    refine s_aload_n 0 E dX12_next_27 rfl rfl ?_
    refine s_geti (k := 8) (T := TX12) 76 E rfl rfl rfl inX12 (by decide) W1247 dX12_next_28 ?_
    refine s_put (k := 9) (T := TX12) (ty := .int) 76 E rfl rfl rfl inX12 tyX12 tyX12_ok nmX12 (by decide) W1248 rfl (by decide +kernel) rfl rfl dX12_next_31 ?_
    refine s_ltm rfl (fun m3 => ?_)
    refine s_aload_n 0 E dX12_next_34 rfl rfl ?_
    refine s_aload_n 0 E dX12_next_35 rfl rfl ?_
    refine s_geti (k := 8) (T := TX12) 76 E rfl rfl rfl inX12 (by decide) W1247 dX12_next_36 ?_
    refine s_bd (fun v4 hz => ?_)
    refine s_cV (rest := []) E (C_r_byteAt (xl x) G (m3 76 8) m3 hz) mdX12_byteAt W1371 W1373 W29 W103 W1374 rfl rfl rfl rfl (Nat.le_of_ble_eq_true rfl) ⟨by decide, by decide⟩ dX12_next_39 ?_
    refine s_istore_n (lv' := [(0, .ref (G.2.1 76)), (1, .int v4)]) [1, 0] E dX12_next_42 rfl (by rw [hn]; decide) rfl ?_
    refine s_iload_n 1 E dX12_next_43 rfl rfl ?_
    refine s_if_ge 55 E dX12_next_44 (by decide) ?_ ?_
    · refine s_iload_n 1 E dX12_next_55 rfl rfl ?_
      refine s_bipush (v := (97 : Int32)) E dX12_next_56 (by decide) ?_
      refine s_bipush (v := (122 : Int32)) E dX12_next_58 (by decide) ?_
      refine s_bd (fun v5 hz => ?_)
      refine s_cS (rest := []) E (C_r_in1 (xl x) G v4 (97 : Int32) (122 : Int32) m3 hz) mdX12_in1 W1359 W1360 W103 W1361 rfl rfl (Nat.le_of_ble_eq_true rfl) ⟨by decide, by decide⟩ dX12_next_60 ?_
      refine s_if_eq 73 E dX12_next_63 (by decide) ?_ ?_
      · refine s_iload_n 1 E dX12_next_73 rfl rfl ?_
        refine s_bipush (v := (48 : Int32)) E dX12_next_74 (by decide) ?_
        refine s_bipush (v := (57 : Int32)) E dX12_next_76 (by decide) ?_
        refine s_bd (fun v6 hz => ?_)
        refine s_cS (rest := []) E (C_r_in1 (xl x) G v4 (48 : Int32) (57 : Int32) m3 hz) mdX12_in1 W1359 W1360 W103 W1361 rfl rfl (Nat.le_of_ble_eq_true rfl) ⟨by decide, by decide⟩ dX12_next_78 ?_
        refine s_if_eq 91 E dX12_next_81 (by decide) ?_ ?_
        · refine s_aload_n 0 E dX12_next_91 rfl rfl ?_
          refine s_sipush (v := (200 : Int32)) E dX12_next_92 (by decide) ?_
          refine s_iload_n 1 E dX12_next_95 rfl rfl ?_
          refine s_iadd E dX12_next_96 ?_
          refine s_put (k := 10) (T := TX12) (ty := .int) 76 E rfl rfl rfl inX12 tyX12 tyX12_ok nmX12 (by decide) W1249 rfl (by decide +kernel) rfl rfl dX12_next_97 ?_
          refine s_ltm rfl (fun m7 => ?_)
          refine s_aload_n 0 E dX12_next_100 rfl rfl ?_
          refine s_dup E dX12_next_101 rfl ?_
          refine s_geti (k := 8) (T := TX12) 76 E rfl rfl rfl inX12 (by decide) W1247 dX12_next_102 ?_
          refine s_iconst (v := (1 : Int32)) E dX12_next_105 (by decide) ?_
          refine s_iadd E dX12_next_106 ?_
          refine s_put (k := 8) (T := TX12) (ty := .int) 76 E rfl rfl rfl inX12 tyX12 tyX12_ok nmX12 (by decide) W1247 rfl (by decide +kernel) rfl rfl dX12_next_107 ?_
          refine s_ltm rfl (fun m8 => ?_)
          exact s_vret E rfl dX12_next_110
        · refine s_aload_n 0 E dX12_next_84 rfl rfl ?_
          refine s_bd (fun m9 hz => ?_)
          refine s_cV (rest := []) E (C_r_readsNumber (xl x) G  m3 hz) mdX12_readsNumber W1383 W1385 W32 W103 W1386 rfl rfl rfl rfl (Nat.le_of_ble_eq_true rfl) ⟨by decide, by decide⟩ dX12_next_85 ?_
          refine s_goto 110 E dX12_next_88 (by decide) ?_
          exact s_vret E rfl dX12_next_110
      · refine s_aload_n 0 E dX12_next_66 rfl rfl ?_
        refine s_bd (fun m10 hz => ?_)
        refine s_cV (rest := []) E (C_r_readsName (xl x) G  m3 hz) mdX12_readsName W1375 W1377 W30 W103 W1378 rfl rfl rfl rfl (Nat.le_of_ble_eq_true rfl) ⟨by decide, by decide⟩ dX12_next_67 ?_
        refine s_goto 110 E dX12_next_70 (by decide) ?_
        exact s_vret E rfl dX12_next_110
    · refine s_aload_n 0 E dX12_next_47 rfl rfl ?_
      refine s_iconst (v := (-1 : Int32)) E dX12_next_48 (by decide) ?_
      refine s_put (k := 10) (T := TX12) (ty := .int) 76 E rfl rfl rfl inX12 tyX12 tyX12_ok nmX12 (by decide) W1249 rfl (by decide +kernel) rfl rfl dX12_next_49 ?_
      refine s_ltm rfl (fun m11 => ?_)
      refine s_goto 110 E dX12_next_52 (by decide) ?_
      exact s_vret E rfl dX12_next_110
set_option maxRecDepth 20000 in
theorem C_r_next (l : Launch) (G : GG)  (m : M) {z : M} (hz : r_next m = some z) : Ct l G yX12_next cX12_next 2 none 4 [.ref (G.2.1 76)] m none z :=
  ct_of (K := KWv) (by decide) (Nat.le_of_ble_eq_true rfl) (congrArg (fun q => Option.bind q _) hz) (fun x hl hn E => (t_r_next E hn  m))
theorem mdX12_next : mdq yX12_next 0 := ⟨by decide, by decide, by decide +kernel⟩
theorem dX12_takes_0 : decode cX12_takes 0 = .ok (.aload_n 0, 1) := by decide +kernel
theorem dX12_takes_1 : decode cX12_takes 1 = .ok (.getfield 140, 3) := by decide +kernel
theorem dX12_takes_4 : decode cX12_takes 4 = .ok (.iload_n 1, 1) := by decide +kernel
theorem dX12_takes_5 : decode cX12_takes 5 = .ok (.if_icmp .ne 7, 3) := by decide +kernel
theorem dX12_takes_8 : decode cX12_takes 8 = .ok (.iconst 1, 1) := by decide +kernel
theorem dX12_takes_9 : decode cX12_takes 9 = .ok (.goto 4, 3) := by decide +kernel
theorem dX12_takes_12 : decode cX12_takes 12 = .ok (.iconst 0, 1) := by decide +kernel
theorem dX12_takes_13 : decode cX12_takes 13 = .ok (.istore_n 2, 1) := by decide +kernel
theorem dX12_takes_14 : decode cX12_takes 14 = .ok (.iload_n 2, 1) := by decide +kernel
theorem dX12_takes_15 : decode cX12_takes 15 = .ok (.ifCond .eq 7, 3) := by decide +kernel
theorem dX12_takes_18 : decode cX12_takes 18 = .ok (.aload_n 0, 1) := by decide +kernel
theorem dX12_takes_19 : decode cX12_takes 19 = .ok (.invokevirtual 155, 3) := by decide +kernel
theorem dX12_takes_22 : decode cX12_takes 22 = .ok (.iload_n 2, 1) := by decide +kernel
theorem dX12_takes_23 : decode cX12_takes 23 = .ok (.ireturn, 1) := by decide +kernel
def r_takes_13 (s0 : Int32) (m : M) : Option (Int32 × M) :=
  (if s0 = 0 then some ((s0 &&& 1), m) else Option.bind (r_next m) (fun m1 => some ((s0 &&& 1), m1)))
set_option maxRecDepth 20000 in
theorem t_r_takes_13 {G : GG} {x : Cx} (E : En G x cX12_takes "WreckBoardModel" 5 (some .boolean)) (hn : xn x = 3) (s0 : Int32) (m : M) : Sm G x 13 [(0, .ref (G.2.1 76))] [.int s0] m (r_takes_13 s0 m) KWi := by
  unfold r_takes_13
  refine s_istore_n (lv' := [(0, .ref (G.2.1 76)), (2, .int s0)]) [1, 0] E dX12_takes_13 rfl (by rw [hn]; decide) rfl ?_
  refine s_iload_n 1 E dX12_takes_14 rfl rfl ?_
  refine s_if_eq 22 E dX12_takes_15 (by decide) ?_ ?_
  · refine s_iload_n 1 E dX12_takes_22 rfl rfl ?_
    exact s_zretN E rfl dX12_takes_23
  · refine s_aload_n 0 E dX12_takes_18 rfl rfl ?_
    refine s_bd (fun m1 hz => ?_)
    refine s_cV (rest := []) E (C_r_next (xl x) G  m hz) mdX12_next W1367 W1369 W28 W103 W1370 rfl rfl rfl rfl (Nat.le_of_ble_eq_true rfl) ⟨by decide, by decide⟩ dX12_takes_19 ?_
    refine s_iload_n 1 E dX12_takes_22 rfl rfl ?_
    exact s_zretN E rfl dX12_takes_23
def r_takes (a1 : Int32) (m : M) : Option (Int32 × M) :=
  (if (m 76 10) = a1 then r_takes_13 (1 : Int32) m else r_takes_13 (0 : Int32) m)
set_option maxRecDepth 20000 in
theorem t_r_takes {G : GG} {x : Cx} (E : En G x cX12_takes "WreckBoardModel" 5 (some .boolean)) (hn : xn x = 3) (a1 : Int32) (m : M) : Sm G x 0 [(0, .ref (G.2.1 76)), (1, .int a1)] [] m (r_takes a1 m) KWi := by
  unfold r_takes
  refine s_aload_n 0 E dX12_takes_0 rfl rfl ?_
  refine s_geti (k := 10) (T := TX12) 76 E rfl rfl rfl inX12 (by decide) W1249 dX12_takes_1 ?_
  refine s_iload_n 1 E dX12_takes_4 rfl rfl ?_
  refine s_icmp_ne 12 E dX12_takes_5 (by decide) ?_ ?_
  · refine s_iconst (v := (0 : Int32)) E dX12_takes_12 (by decide) ?_
    refine s_sub (lv' := [(0, .ref (G.2.1 76))]) [0] rfl ?_
    exact t_r_takes_13 E hn (0 : Int32) m
  · refine s_iconst (v := (1 : Int32)) E dX12_takes_8 (by decide) ?_
    refine s_goto 13 E dX12_takes_9 (by decide) ?_
    refine s_sub (lv' := [(0, .ref (G.2.1 76))]) [0] rfl ?_
    exact t_r_takes_13 E hn (1 : Int32) m
set_option maxRecDepth 20000 in
theorem C_r_takes (l : Launch) (G : GG) (a1 : Int32) (m : M) {z : Int32 × M} (hz : r_takes a1 m = some z) : Ct l G yX12_takes cX12_takes 3 (some .boolean) 5 [.ref (G.2.1 76), .int a1] m (some (.int z.1)) z.2 :=
  ct_of (K := KWi) (by decide) (Nat.le_of_ble_eq_true rfl) (congrArg (fun q => Option.bind q _) hz) (fun x hl hn E => (t_r_takes E hn a1 m))
theorem mdX12_takes : mdq yX12_takes 1 := ⟨by decide, by decide, by decide +kernel⟩
theorem dX12_lays_0 : decode cX12_lays 0 = .ok (.aload_n 0, 1) := by decide +kernel
theorem dX12_lays_1 : decode cX12_lays 1 = .ok (.getfield 29, 3) := by decide +kernel
theorem dX12_lays_4 : decode cX12_lays 4 = .ok (.aload_n 0, 1) := by decide +kernel
theorem dX12_lays_5 : decode cX12_lays 5 = .ok (.getfield 158, 3) := by decide +kernel
theorem dX12_lays_8 : decode cX12_lays 8 = .ok (.iload_n 1, 1) := by decide +kernel
theorem dX12_lays_9 : decode cX12_lays 9 = .ok (.iastore, 1) := by decide +kernel
theorem dX12_lays_10 : decode cX12_lays 10 = .ok (.aload_n 0, 1) := by decide +kernel
theorem dX12_lays_11 : decode cX12_lays 11 = .ok (.dup, 1) := by decide +kernel
theorem dX12_lays_12 : decode cX12_lays 12 = .ok (.getfield 158, 3) := by decide +kernel
theorem dX12_lays_15 : decode cX12_lays 15 = .ok (.iconst 1, 1) := by decide +kernel
theorem dX12_lays_16 : decode cX12_lays 16 = .ok (.iadd, 1) := by decide +kernel
theorem dX12_lays_17 : decode cX12_lays 17 = .ok (.putfield 158, 3) := by decide +kernel
theorem dX12_lays_20 : decode cX12_lays 20 = .ok (.return_, 1) := by decide +kernel
def r_lays (a1 : Int32) (m : M) : Option (M) :=
  Option.bind (wrI m 83 (m 76 13) a1) (fun m1 => lt (wrF m1 76 13 ((m1 76 13) + (1 : Int32))) (fun m2 => some m2))
set_option maxRecDepth 20000 in
theorem t_r_lays {G : GG} {x : Cx} (E : En G x cX12_lays "WreckBoardModel" 1 none) (hn : xn x = 2) (a1 : Int32) (m : M) : Sm G x 0 [(0, .ref (G.2.1 76)), (1, .int a1)] [] m (r_lays a1 m) KWv := by
  unfold r_lays
  refine s_aload_n 0 E dX12_lays_0 rfl rfl ?_
  refine s_getr (k := 14) (T := TX12) 76 E rfl rfl rfl inX12 (by decide) W1253 dX12_lays_1 ?_
  refine s_aload_n 0 E dX12_lays_4 rfl rfl ?_
  refine s_geti (k := 13) (T := TX12) 76 E rfl rfl rfl inX12 (by decide) W1252 dX12_lays_5 ?_
  refine s_iload_n 1 E dX12_lays_8 rfl rfl ?_
  refine s_iast E dX12_lays_9 (fun m1 => ?_)
  refine s_aload_n 0 E dX12_lays_10 rfl rfl ?_
  refine s_dup E dX12_lays_11 rfl ?_
  refine s_geti (k := 13) (T := TX12) 76 E rfl rfl rfl inX12 (by decide) W1252 dX12_lays_12 ?_
  refine s_iconst (v := (1 : Int32)) E dX12_lays_15 (by decide) ?_
  refine s_iadd E dX12_lays_16 ?_
  refine s_put (k := 13) (T := TX12) (ty := .int) 76 E rfl rfl rfl inX12 tyX12 tyX12_ok nmX12 (by decide) W1252 rfl (by decide +kernel) rfl rfl dX12_lays_17 ?_
  refine s_ltm rfl (fun m2 => ?_)
  exact s_vret E rfl dX12_lays_20
set_option maxRecDepth 20000 in
theorem C_r_lays (l : Launch) (G : GG) (a1 : Int32) (m : M) {z : M} (hz : r_lays a1 m = some z) : Ct l G yX12_lays cX12_lays 2 none 1 [.ref (G.2.1 76), .int a1] m none z :=
  ct_of (K := KWv) (by decide) (Nat.le_of_ble_eq_true rfl) (congrArg (fun q => Option.bind q _) hz) (fun x hl hn E => (t_r_lays E hn a1 m))
theorem mdX12_lays : mdq yX12_lays 1 := ⟨by decide, by decide, by decide +kernel⟩
theorem dX12_readsValue_0 : decode cX12_readsValue 0 = .ok (.aload_n 0, 1) := by decide +kernel
theorem dX12_readsValue_1 : decode cX12_readsValue 1 = .ok (.getfield 140, 3) := by decide +kernel
theorem dX12_readsValue_4 : decode cX12_readsValue 4 = .ok (.bipush 100, 2) := by decide +kernel
theorem dX12_readsValue_6 : decode cX12_readsValue 6 = .ok (.if_icmp .eq 17, 3) := by decide +kernel
theorem dX12_readsValue_9 : decode cX12_readsValue 9 = .ok (.aload_n 0, 1) := by decide +kernel
theorem dX12_readsValue_10 : decode cX12_readsValue 10 = .ok (.getfield 140, 3) := by decide +kernel
theorem dX12_readsValue_13 : decode cX12_readsValue 13 = .ok (.bipush 13, 2) := by decide +kernel
theorem dX12_readsValue_15 : decode cX12_readsValue 15 = .ok (.bipush 17, 2) := by decide +kernel
theorem dX12_readsValue_17 : decode cX12_readsValue 17 = .ok (.invokestatic 71, 3) := by decide +kernel
theorem dX12_readsValue_20 : decode cX12_readsValue 20 = .ok (.ifCond .eq 7, 3) := by decide +kernel
theorem dX12_readsValue_23 : decode cX12_readsValue 23 = .ok (.iconst 1, 1) := by decide +kernel
theorem dX12_readsValue_24 : decode cX12_readsValue 24 = .ok (.goto 4, 3) := by decide +kernel
theorem dX12_readsValue_27 : decode cX12_readsValue 27 = .ok (.iconst 0, 1) := by decide +kernel
theorem dX12_readsValue_28 : decode cX12_readsValue 28 = .ok (.istore_n 1, 1) := by decide +kernel
theorem dX12_readsValue_29 : decode cX12_readsValue 29 = .ok (.iload_n 1, 1) := by decide +kernel
theorem dX12_readsValue_30 : decode cX12_readsValue 30 = .ok (.ifCond .eq 38, 3) := by decide +kernel
theorem dX12_readsValue_33 : decode cX12_readsValue 33 = .ok (.aload_n 0, 1) := by decide +kernel
theorem dX12_readsValue_34 : decode cX12_readsValue 34 = .ok (.aload_n 0, 1) := by decide +kernel
theorem dX12_readsValue_35 : decode cX12_readsValue 35 = .ok (.getfield 140, 3) := by decide +kernel
theorem dX12_readsValue_38 : decode cX12_readsValue 38 = .ok (.bipush 100, 2) := by decide +kernel
theorem dX12_readsValue_40 : decode cX12_readsValue 40 = .ok (.if_icmp .ne 10, 3) := by decide +kernel
theorem dX12_readsValue_43 : decode cX12_readsValue 43 = .ok (.aload_n 0, 1) := by decide +kernel
theorem dX12_readsValue_44 : decode cX12_readsValue 44 = .ok (.getfield 146, 3) := by decide +kernel
theorem dX12_readsValue_47 : decode cX12_readsValue 47 = .ok (.goto 14, 3) := by decide +kernel
theorem dX12_readsValue_50 : decode cX12_readsValue 50 = .ok (.sipush 10000, 3) := by decide +kernel
theorem dX12_readsValue_53 : decode cX12_readsValue 53 = .ok (.aload_n 0, 1) := by decide +kernel
theorem dX12_readsValue_54 : decode cX12_readsValue 54 = .ok (.getfield 140, 3) := by decide +kernel
theorem dX12_readsValue_57 : decode cX12_readsValue 57 = .ok (.iadd, 1) := by decide +kernel
theorem dX12_readsValue_58 : decode cX12_readsValue 58 = .ok (.bipush 13, 2) := by decide +kernel
theorem dX12_readsValue_60 : decode cX12_readsValue 60 = .ok (.isub, 1) := by decide +kernel
theorem dX12_readsValue_61 : decode cX12_readsValue 61 = .ok (.invokevirtual 161, 3) := by decide +kernel
theorem dX12_readsValue_64 : decode cX12_readsValue 64 = .ok (.aload_n 0, 1) := by decide +kernel
theorem dX12_readsValue_65 : decode cX12_readsValue 65 = .ok (.invokevirtual 155, 3) := by decide +kernel
theorem dX12_readsValue_68 : decode cX12_readsValue 68 = .ok (.iload_n 1, 1) := by decide +kernel
theorem dX12_readsValue_69 : decode cX12_readsValue 69 = .ok (.ireturn, 1) := by decide +kernel
def r_readsValue_61 (a1 : Int32) (s1 : Int32) (m : M) : Option (Int32 × M) :=
  Option.bind (r_lays s1 m) (fun m1 => Option.bind (r_next m1) (fun m2 => some ((a1 &&& 1), m2)))
set_option maxRecDepth 20000 in
theorem t_r_readsValue_61 {G : GG} {x : Cx} (E : En G x cX12_readsValue "WreckBoardModel" 5 (some .boolean)) (hn : xn x = 2) (a1 : Int32) (s1 : Int32) (m : M) : Sm G x 61 [(0, .ref (G.2.1 76)), (1, .int a1)] [.int s1, .ref (G.2.1 76)] m (r_readsValue_61 a1 s1 m) KWi := by
  unfold r_readsValue_61
  refine s_bd (fun m1 hz => ?_)
  refine s_cV (rest := []) E (C_r_lays (xl x) G s1 m hz) mdX12_lays W1419 W1421 W41 W103 W1422 rfl rfl rfl rfl (Nat.le_of_ble_eq_true rfl) ⟨by decide, by decide⟩ dX12_readsValue_61 ?_
  refine s_aload_n 0 E dX12_readsValue_64 rfl rfl ?_
  refine s_bd (fun m2 hz => ?_)
  refine s_cV (rest := []) E (C_r_next (xl x) G  m1 hz) mdX12_next W1367 W1369 W28 W103 W1370 rfl rfl rfl rfl (Nat.le_of_ble_eq_true rfl) ⟨by decide, by decide⟩ dX12_readsValue_65 ?_
  refine s_iload_n 1 E dX12_readsValue_68 rfl rfl ?_
  exact s_zretN E rfl dX12_readsValue_69
def r_readsValue_28 (s0 : Int32) (m : M) : Option (Int32 × M) :=
  (if s0 = 0 then some ((s0 &&& 1), m) else (if (m 76 10) = (100 : Int32) then r_readsValue_61 s0 (m 76 11) m else r_readsValue_61 s0 (((10000 : Int32) + (m 76 10)) - (13 : Int32)) m))
set_option maxRecDepth 20000 in
theorem t_r_readsValue_28 {G : GG} {x : Cx} (E : En G x cX12_readsValue "WreckBoardModel" 5 (some .boolean)) (hn : xn x = 2) (s0 : Int32) (m : M) : Sm G x 28 [(0, .ref (G.2.1 76))] [.int s0] m (r_readsValue_28 s0 m) KWi := by
  unfold r_readsValue_28
  refine s_istore_n (lv' := [(0, .ref (G.2.1 76)), (1, .int s0)]) [1, 0] E dX12_readsValue_28 rfl (by rw [hn]; decide) rfl ?_
  refine s_iload_n 1 E dX12_readsValue_29 rfl rfl ?_
  refine s_if_eq 68 E dX12_readsValue_30 (by decide) ?_ ?_
  · refine s_iload_n 1 E dX12_readsValue_68 rfl rfl ?_
    exact s_zretN E rfl dX12_readsValue_69
  · refine s_aload_n 0 E dX12_readsValue_33 rfl rfl ?_
    refine s_aload_n 0 E dX12_readsValue_34 rfl rfl ?_
    refine s_geti (k := 10) (T := TX12) 76 E rfl rfl rfl inX12 (by decide) W1249 dX12_readsValue_35 ?_
    refine s_bipush (v := (100 : Int32)) E dX12_readsValue_38 (by decide) ?_
    refine s_icmp_ne 50 E dX12_readsValue_40 (by decide) ?_ ?_
    · refine s_sipush (v := (10000 : Int32)) E dX12_readsValue_50 (by decide) ?_
      refine s_aload_n 0 E dX12_readsValue_53 rfl rfl ?_
      refine s_geti (k := 10) (T := TX12) 76 E rfl rfl rfl inX12 (by decide) W1249 dX12_readsValue_54 ?_
      refine s_iadd E dX12_readsValue_57 ?_
      refine s_bipush (v := (13 : Int32)) E dX12_readsValue_58 (by decide) ?_
      refine s_isub E dX12_readsValue_60 ?_
      exact t_r_readsValue_61 E hn s0 (((10000 : Int32) + (m 76 10)) - (13 : Int32)) m
    · refine s_aload_n 0 E dX12_readsValue_43 rfl rfl ?_
      refine s_geti (k := 11) (T := TX12) 76 E rfl rfl rfl inX12 (by decide) W1250 dX12_readsValue_44 ?_
      refine s_goto 61 E dX12_readsValue_47 (by decide) ?_
      exact t_r_readsValue_61 E hn s0 (m 76 11) m
def r_readsValue_23  (m : M) : Option (Int32 × M) :=
  r_readsValue_28 (1 : Int32) m
set_option maxRecDepth 20000 in
theorem t_r_readsValue_23 {G : GG} {x : Cx} (E : En G x cX12_readsValue "WreckBoardModel" 5 (some .boolean)) (hn : xn x = 2)  (m : M) : Sm G x 23 [(0, .ref (G.2.1 76))] [] m (r_readsValue_23 m) KWi := by
  unfold r_readsValue_23
  refine s_iconst (v := (1 : Int32)) E dX12_readsValue_23 (by decide) ?_
  refine s_goto 28 E dX12_readsValue_24 (by decide) ?_
  exact t_r_readsValue_28 E hn (1 : Int32) m
def r_readsValue  (m : M) : Option (Int32 × M) :=
  (if (m 76 10) = (100 : Int32) then r_readsValue_23 m else Option.bind (r_in1 (m 76 10) (13 : Int32) (17 : Int32) m) (fun v1 => (if v1 = 0 then r_readsValue_28 (0 : Int32) m else r_readsValue_23 m)))
set_option maxRecDepth 20000 in
theorem t_r_readsValue {G : GG} {x : Cx} (E : En G x cX12_readsValue "WreckBoardModel" 5 (some .boolean)) (hn : xn x = 2)  (m : M) : Sm G x 0 [(0, .ref (G.2.1 76))] [] m (r_readsValue m) KWi := by
  unfold r_readsValue
  refine s_aload_n 0 E dX12_readsValue_0 rfl rfl ?_
  refine s_geti (k := 10) (T := TX12) 76 E rfl rfl rfl inX12 (by decide) W1249 dX12_readsValue_1 ?_
  refine s_bipush (v := (100 : Int32)) E dX12_readsValue_4 (by decide) ?_
  refine s_icmp_eq 23 E dX12_readsValue_6 (by decide) ?_ ?_
  · exact t_r_readsValue_23 E hn m
  · refine s_aload_n 0 E dX12_readsValue_9 rfl rfl ?_
    refine s_geti (k := 10) (T := TX12) 76 E rfl rfl rfl inX12 (by decide) W1249 dX12_readsValue_10 ?_
    refine s_bipush (v := (13 : Int32)) E dX12_readsValue_13 (by decide) ?_
    refine s_bipush (v := (17 : Int32)) E dX12_readsValue_15 (by decide) ?_
    refine s_bd (fun v1 hz => ?_)
    refine s_cS (rest := []) E (C_r_in1 (xl x) G (m 76 10) (13 : Int32) (17 : Int32) m hz) mdX12_in1 W1359 W1360 W103 W1361 rfl rfl (Nat.le_of_ble_eq_true rfl) ⟨by decide, by decide⟩ dX12_readsValue_17 ?_
    refine s_if_eq 27 E dX12_readsValue_20 (by decide) ?_ ?_
    · refine s_iconst (v := (0 : Int32)) E dX12_readsValue_27 (by decide) ?_
      exact t_r_readsValue_28 E hn (0 : Int32) m
    · exact t_r_readsValue_23 E hn m
set_option maxRecDepth 20000 in
theorem C_r_readsValue (l : Launch) (G : GG)  (m : M) {z : Int32 × M} (hz : r_readsValue m = some z) : Ct l G yX12_readsValue cX12_readsValue 2 (some .boolean) 5 [.ref (G.2.1 76)] m (some (.int z.1)) z.2 :=
  ct_of (K := KWi) (by decide) (Nat.le_of_ble_eq_true rfl) (congrArg (fun q => Option.bind q _) hz) (fun x hl hn E => (t_r_readsValue E hn  m))
theorem mdX12_readsValue : mdq yX12_readsValue 0 := ⟨by decide, by decide, by decide +kernel⟩
theorem dX12_readsLike_0 : decode cX12_readsLike 0 = .ok (.aload_n 0, 1) := by decide +kernel
theorem dX12_readsLike_1 : decode cX12_readsLike 1 = .ok (.invokevirtual 165, 3) := by decide +kernel
theorem dX12_readsLike_4 : decode cX12_readsLike 4 = .ok (.ifCond .ne 5, 3) := by decide +kernel
theorem dX12_readsLike_7 : decode cX12_readsLike 7 = .ok (.iconst 0, 1) := by decide +kernel
theorem dX12_readsLike_8 : decode cX12_readsLike 8 = .ok (.ireturn, 1) := by decide +kernel
theorem dX12_readsLike_9 : decode cX12_readsLike 9 = .ok (.aload_n 0, 1) := by decide +kernel
theorem dX12_readsLike_10 : decode cX12_readsLike 10 = .ok (.getfield 140, 3) := by decide +kernel
theorem dX12_readsLike_13 : decode cX12_readsLike 13 = .ok (.sipush 260, 3) := by decide +kernel
theorem dX12_readsLike_16 : decode cX12_readsLike 16 = .ok (.if_icmp .ne 9, 3) := by decide +kernel
theorem dX12_readsLike_19 : decode cX12_readsLike 19 = .ok (.sipush 10010, 3) := by decide +kernel
theorem dX12_readsLike_22 : decode cX12_readsLike 22 = .ok (.goto 36, 3) := by decide +kernel
theorem dX12_readsLike_25 : decode cX12_readsLike 25 = .ok (.aload_n 0, 1) := by decide +kernel
theorem dX12_readsLike_26 : decode cX12_readsLike 26 = .ok (.getfield 140, 3) := by decide +kernel
theorem dX12_readsLike_29 : decode cX12_readsLike 29 = .ok (.sipush 261, 3) := by decide +kernel
theorem dX12_readsLike_32 : decode cX12_readsLike 32 = .ok (.if_icmp .ne 9, 3) := by decide +kernel
theorem dX12_readsLike_35 : decode cX12_readsLike 35 = .ok (.sipush 10011, 3) := by decide +kernel
theorem dX12_readsLike_38 : decode cX12_readsLike 38 = .ok (.goto 20, 3) := by decide +kernel
theorem dX12_readsLike_41 : decode cX12_readsLike 41 = .ok (.aload_n 0, 1) := by decide +kernel
theorem dX12_readsLike_42 : decode cX12_readsLike 42 = .ok (.getfield 140, 3) := by decide +kernel
theorem dX12_readsLike_45 : decode cX12_readsLike 45 = .ok (.sipush 262, 3) := by decide +kernel
theorem dX12_readsLike_48 : decode cX12_readsLike 48 = .ok (.if_icmp .ne 9, 3) := by decide +kernel
theorem dX12_readsLike_51 : decode cX12_readsLike 51 = .ok (.sipush 10012, 3) := by decide +kernel
theorem dX12_readsLike_54 : decode cX12_readsLike 54 = .ok (.goto 4, 3) := by decide +kernel
theorem dX12_readsLike_57 : decode cX12_readsLike 57 = .ok (.iconst 0, 1) := by decide +kernel
theorem dX12_readsLike_58 : decode cX12_readsLike 58 = .ok (.istore_n 1, 1) := by decide +kernel
theorem dX12_readsLike_59 : decode cX12_readsLike 59 = .ok (.iload_n 1, 1) := by decide +kernel
theorem dX12_readsLike_60 : decode cX12_readsLike 60 = .ok (.ifCond .ne 5, 3) := by decide +kernel
theorem dX12_readsLike_63 : decode cX12_readsLike 63 = .ok (.iconst 0, 1) := by decide +kernel
theorem dX12_readsLike_64 : decode cX12_readsLike 64 = .ok (.ireturn, 1) := by decide +kernel
theorem dX12_readsLike_65 : decode cX12_readsLike 65 = .ok (.aload_n 0, 1) := by decide +kernel
theorem dX12_readsLike_66 : decode cX12_readsLike 66 = .ok (.invokevirtual 155, 3) := by decide +kernel
theorem dX12_readsLike_69 : decode cX12_readsLike 69 = .ok (.aload_n 0, 1) := by decide +kernel
theorem dX12_readsLike_70 : decode cX12_readsLike 70 = .ok (.invokevirtual 165, 3) := by decide +kernel
theorem dX12_readsLike_73 : decode cX12_readsLike 73 = .ok (.ifCond .ne 5, 3) := by decide +kernel
theorem dX12_readsLike_76 : decode cX12_readsLike 76 = .ok (.iconst 0, 1) := by decide +kernel
theorem dX12_readsLike_77 : decode cX12_readsLike 77 = .ok (.ireturn, 1) := by decide +kernel
theorem dX12_readsLike_78 : decode cX12_readsLike 78 = .ok (.aload_n 0, 1) := by decide +kernel
theorem dX12_readsLike_79 : decode cX12_readsLike 79 = .ok (.iload_n 1, 1) := by decide +kernel
theorem dX12_readsLike_80 : decode cX12_readsLike 80 = .ok (.invokevirtual 161, 3) := by decide +kernel
theorem dX12_readsLike_83 : decode cX12_readsLike 83 = .ok (.iconst 1, 1) := by decide +kernel
theorem dX12_readsLike_84 : decode cX12_readsLike 84 = .ok (.ireturn, 1) := by decide +kernel
def r_readsLike_58 (s0 : Int32) (m : M) : Option (Int32 × M) :=
  (if s0 = 0 then some ((0 : Int32), m) else Option.bind (r_next m) (fun m1 => Option.bind (r_readsValue m1) (fun z2 => (if z2.1 = 0 then some ((0 : Int32), z2.2) else Option.bind (r_lays s0 z2.2) (fun m3 => some ((1 : Int32), m3))))))
set_option maxRecDepth 20000 in
theorem t_r_readsLike_58 {G : GG} {x : Cx} (E : En G x cX12_readsLike "WreckBoardModel" 6 (some .boolean)) (hn : xn x = 2) (s0 : Int32) (m : M) : Sm G x 58 [(0, .ref (G.2.1 76))] [.int s0] m (r_readsLike_58 s0 m) KWi := by
  unfold r_readsLike_58
  refine s_istore_n (lv' := [(0, .ref (G.2.1 76)), (1, .int s0)]) [1, 0] E dX12_readsLike_58 rfl (by rw [hn]; decide) rfl ?_
  refine s_iload_n 1 E dX12_readsLike_59 rfl rfl ?_
  refine s_if_ne 65 E dX12_readsLike_60 (by decide) ?_ ?_
  · refine s_aload_n 0 E dX12_readsLike_65 rfl rfl ?_
    refine s_bd (fun m1 hz => ?_)
    refine s_cV (rest := []) E (C_r_next (xl x) G  m hz) mdX12_next W1367 W1369 W28 W103 W1370 rfl rfl rfl rfl (Nat.le_of_ble_eq_true rfl) ⟨by decide, by decide⟩ dX12_readsLike_66 ?_
    refine s_aload_n 0 E dX12_readsLike_69 rfl rfl ?_
    refine s_bd (fun z2 hz => ?_)
    refine s_cV (rest := []) E (C_r_readsValue (xl x) G  m1 hz) mdX12_readsValue W1415 W1417 W40 W103 W1418 rfl rfl rfl rfl (Nat.le_of_ble_eq_true rfl) ⟨by decide, by decide⟩ dX12_readsLike_70 ?_
    refine s_if_ne 78 E dX12_readsLike_73 (by decide) ?_ ?_
    · refine s_aload_n 0 E dX12_readsLike_78 rfl rfl ?_
      refine s_iload_n 1 E dX12_readsLike_79 rfl rfl ?_
      refine s_bd (fun m3 hz => ?_)
      refine s_cV (rest := []) E (C_r_lays (xl x) G s0 z2.2 hz) mdX12_lays W1419 W1421 W41 W103 W1422 rfl rfl rfl rfl (Nat.le_of_ble_eq_true rfl) ⟨by decide, by decide⟩ dX12_readsLike_80 ?_
      refine s_iconst (v := (1 : Int32)) E dX12_readsLike_83 (by decide) ?_
      exact s_zret E (by decide) rfl dX12_readsLike_84
    · refine s_iconst (v := (0 : Int32)) E dX12_readsLike_76 (by decide) ?_
      exact s_zret E (by decide) rfl dX12_readsLike_77
  · refine s_iconst (v := (0 : Int32)) E dX12_readsLike_63 (by decide) ?_
    exact s_zret E (by decide) rfl dX12_readsLike_64
def r_readsLike  (m : M) : Option (Int32 × M) :=
  Option.bind (r_readsValue m) (fun z1 => (if z1.1 = 0 then some ((0 : Int32), z1.2) else (if (z1.2 76 10) = (260 : Int32) then r_readsLike_58 (10010 : Int32) z1.2 else (if (z1.2 76 10) = (261 : Int32) then r_readsLike_58 (10011 : Int32) z1.2 else (if (z1.2 76 10) = (262 : Int32) then r_readsLike_58 (10012 : Int32) z1.2 else r_readsLike_58 (0 : Int32) z1.2)))))
set_option maxRecDepth 20000 in
theorem t_r_readsLike {G : GG} {x : Cx} (E : En G x cX12_readsLike "WreckBoardModel" 6 (some .boolean)) (hn : xn x = 2)  (m : M) : Sm G x 0 [(0, .ref (G.2.1 76))] [] m (r_readsLike m) KWi := by
  unfold r_readsLike
  refine s_aload_n 0 E dX12_readsLike_0 rfl rfl ?_
  refine s_bd (fun z1 hz => ?_)
  refine s_cV (rest := []) E (C_r_readsValue (xl x) G  m hz) mdX12_readsValue W1415 W1417 W40 W103 W1418 rfl rfl rfl rfl (Nat.le_of_ble_eq_true rfl) ⟨by decide, by decide⟩ dX12_readsLike_1 ?_
  refine s_if_ne 9 E dX12_readsLike_4 (by decide) ?_ ?_
  · refine s_aload_n 0 E dX12_readsLike_9 rfl rfl ?_
    refine s_geti (k := 10) (T := TX12) 76 E rfl rfl rfl inX12 (by decide) W1249 dX12_readsLike_10 ?_
    refine s_sipush (v := (260 : Int32)) E dX12_readsLike_13 (by decide) ?_
    refine s_icmp_ne 25 E dX12_readsLike_16 (by decide) ?_ ?_
    · refine s_aload_n 0 E dX12_readsLike_25 rfl rfl ?_
      refine s_geti (k := 10) (T := TX12) 76 E rfl rfl rfl inX12 (by decide) W1249 dX12_readsLike_26 ?_
      refine s_sipush (v := (261 : Int32)) E dX12_readsLike_29 (by decide) ?_
      refine s_icmp_ne 41 E dX12_readsLike_32 (by decide) ?_ ?_
      · refine s_aload_n 0 E dX12_readsLike_41 rfl rfl ?_
        refine s_geti (k := 10) (T := TX12) 76 E rfl rfl rfl inX12 (by decide) W1249 dX12_readsLike_42 ?_
        refine s_sipush (v := (262 : Int32)) E dX12_readsLike_45 (by decide) ?_
        refine s_icmp_ne 57 E dX12_readsLike_48 (by decide) ?_ ?_
        · refine s_iconst (v := (0 : Int32)) E dX12_readsLike_57 (by decide) ?_
          exact t_r_readsLike_58 E hn (0 : Int32) z1.2
        · refine s_sipush (v := (10012 : Int32)) E dX12_readsLike_51 (by decide) ?_
          refine s_goto 58 E dX12_readsLike_54 (by decide) ?_
          exact t_r_readsLike_58 E hn (10012 : Int32) z1.2
      · refine s_sipush (v := (10011 : Int32)) E dX12_readsLike_35 (by decide) ?_
        refine s_goto 58 E dX12_readsLike_38 (by decide) ?_
        exact t_r_readsLike_58 E hn (10011 : Int32) z1.2
    · refine s_sipush (v := (10010 : Int32)) E dX12_readsLike_19 (by decide) ?_
      refine s_goto 58 E dX12_readsLike_22 (by decide) ?_
      exact t_r_readsLike_58 E hn (10010 : Int32) z1.2
  · refine s_iconst (v := (0 : Int32)) E dX12_readsLike_7 (by decide) ?_
    exact s_zret E (by decide) rfl dX12_readsLike_8
set_option maxRecDepth 20000 in
theorem C_r_readsLike (l : Launch) (G : GG)  (m : M) {z : Int32 × M} (hz : r_readsLike m = some z) : Ct l G yX12_readsLike cX12_readsLike 2 (some .boolean) 6 [.ref (G.2.1 76)] m (some (.int z.1)) z.2 :=
  ct_of (K := KWi) (by decide) (Nat.le_of_ble_eq_true rfl) (congrArg (fun q => Option.bind q _) hz) (fun x hl hn E => (t_r_readsLike E hn  m))
theorem mdX12_readsLike : mdq yX12_readsLike 0 := ⟨by decide, by decide, by decide +kernel⟩
theorem mdX12_readsCondition : mdq yX12_readsCondition 0 := ⟨by decide, by decide, by decide +kernel⟩
theorem mdX12_readsWithin : mdq yX12_readsWithin 0 := ⟨by decide, by decide, by decide +kernel⟩
theorem mdX12_readsOne : mdq yX12_readsOne 0 := ⟨by decide, by decide, by decide +kernel⟩
theorem mdX12_readsAll : mdq yX12_readsAll 0 := ⟨by decide, by decide, by decide +kernel⟩
theorem dX12_readsWithin_0 : decode cX12_readsWithin 0 = .ok (.aload_n 0, 1) := by decide +kernel
theorem dX12_readsWithin_1 : decode cX12_readsWithin 1 = .ok (.getfield 169, 3) := by decide +kernel
theorem dX12_readsWithin_4 : decode cX12_readsWithin 4 = .ok (.iconst 3, 1) := by decide +kernel
theorem dX12_readsWithin_5 : decode cX12_readsWithin 5 = .ok (.if_icmp .ne 5, 3) := by decide +kernel
theorem dX12_readsWithin_8 : decode cX12_readsWithin 8 = .ok (.iconst 0, 1) := by decide +kernel
theorem dX12_readsWithin_9 : decode cX12_readsWithin 9 = .ok (.ireturn, 1) := by decide +kernel
theorem dX12_readsWithin_10 : decode cX12_readsWithin 10 = .ok (.aload_n 0, 1) := by decide +kernel
theorem dX12_readsWithin_11 : decode cX12_readsWithin 11 = .ok (.dup, 1) := by decide +kernel
theorem dX12_readsWithin_12 : decode cX12_readsWithin 12 = .ok (.getfield 169, 3) := by decide +kernel
theorem dX12_readsWithin_15 : decode cX12_readsWithin 15 = .ok (.iconst 1, 1) := by decide +kernel
theorem dX12_readsWithin_16 : decode cX12_readsWithin 16 = .ok (.iadd, 1) := by decide +kernel
theorem dX12_readsWithin_17 : decode cX12_readsWithin 17 = .ok (.putfield 169, 3) := by decide +kernel
theorem dX12_readsWithin_20 : decode cX12_readsWithin 20 = .ok (.aload_n 0, 1) := by decide +kernel
theorem dX12_readsWithin_21 : decode cX12_readsWithin 21 = .ok (.invokevirtual 155, 3) := by decide +kernel
theorem dX12_readsWithin_24 : decode cX12_readsWithin 24 = .ok (.aload_n 0, 1) := by decide +kernel
theorem dX12_readsWithin_25 : decode cX12_readsWithin 25 = .ok (.invokevirtual 172, 3) := by decide +kernel
theorem dX12_readsWithin_28 : decode cX12_readsWithin 28 = .ok (.ifCond .eq 13, 3) := by decide +kernel
theorem dX12_readsWithin_31 : decode cX12_readsWithin 31 = .ok (.aload_n 0, 1) := by decide +kernel
theorem dX12_readsWithin_32 : decode cX12_readsWithin 32 = .ok (.sipush 241, 3) := by decide +kernel
theorem dX12_readsWithin_35 : decode cX12_readsWithin 35 = .ok (.invokevirtual 175, 3) := by decide +kernel
theorem dX12_readsWithin_38 : decode cX12_readsWithin 38 = .ok (.ifCond .ne 5, 3) := by decide +kernel
theorem dX12_readsWithin_41 : decode cX12_readsWithin 41 = .ok (.iconst 0, 1) := by decide +kernel
theorem dX12_readsWithin_42 : decode cX12_readsWithin 42 = .ok (.ireturn, 1) := by decide +kernel
theorem dX12_readsWithin_43 : decode cX12_readsWithin 43 = .ok (.aload_n 0, 1) := by decide +kernel
theorem dX12_readsWithin_44 : decode cX12_readsWithin 44 = .ok (.dup, 1) := by decide +kernel
theorem dX12_readsWithin_45 : decode cX12_readsWithin 45 = .ok (.getfield 169, 3) := by decide +kernel
theorem dX12_readsWithin_48 : decode cX12_readsWithin 48 = .ok (.iconst 1, 1) := by decide +kernel
theorem dX12_readsWithin_49 : decode cX12_readsWithin 49 = .ok (.isub, 1) := by decide +kernel
theorem dX12_readsWithin_50 : decode cX12_readsWithin 50 = .ok (.putfield 169, 3) := by decide +kernel
theorem dX12_readsWithin_53 : decode cX12_readsWithin 53 = .ok (.iconst 1, 1) := by decide +kernel
theorem dX12_readsWithin_54 : decode cX12_readsWithin 54 = .ok (.ireturn, 1) := by decide +kernel
def r_readsWithin (rec : M → Option (Int32 × M))  (m : M) : Option (Int32 × M) :=
  (if (m 76 12) = (3 : Int32) then some ((0 : Int32), m) else lt (wrF m 76 12 ((m 76 12) + (1 : Int32))) (fun m1 => Option.bind (r_next m1) (fun m2 => Option.bind (rec m2) (fun z3 => (if z3.1 = 0 then some ((0 : Int32), z3.2) else Option.bind (r_takes (241 : Int32) z3.2) (fun z4 => (if z4.1 = 0 then some ((0 : Int32), z4.2) else lt (wrF z4.2 76 12 ((z4.2 76 12) - (1 : Int32))) (fun m5 => some ((1 : Int32), m5)))))))))
set_option maxRecDepth 20000 in
theorem t_r_readsWithin {G : GG} {x : Cx} {lv0 : Nat} (E : En G x cX12_readsWithin "WreckBoardModel" (lv0 + 1) (some .boolean)) (hn : xn x = 1) (rec : M → Option (Int32 × M)) (hlb : 6 ≤ lv0) (hrec : ∀  (m : M) (z : Int32 × M), rec  m = some z → Ct (xl x) G yX12_readsCondition cX12_readsCondition 2 (some .boolean) lv0 [.ref (G.2.1 76)] m (some (.int z.1)) z.2)  (m : M) : Sm G x 0 [(0, .ref (G.2.1 76))] [] m (r_readsWithin rec m) KWi := by
  unfold r_readsWithin
  refine s_aload_n 0 E dX12_readsWithin_0 rfl rfl ?_
  refine s_geti (k := 12) (T := TX12) 76 E rfl rfl rfl inX12 (by decide) W1251 dX12_readsWithin_1 ?_
  refine s_iconst (v := (3 : Int32)) E dX12_readsWithin_4 (by decide) ?_
  refine s_icmp_ne 10 E dX12_readsWithin_5 (by decide) ?_ ?_
  · refine s_aload_n 0 E dX12_readsWithin_10 rfl rfl ?_
    refine s_dup E dX12_readsWithin_11 rfl ?_
    refine s_geti (k := 12) (T := TX12) 76 E rfl rfl rfl inX12 (by decide) W1251 dX12_readsWithin_12 ?_
    refine s_iconst (v := (1 : Int32)) E dX12_readsWithin_15 (by decide) ?_
    refine s_iadd E dX12_readsWithin_16 ?_
    refine s_put (k := 12) (T := TX12) (ty := .int) 76 E rfl rfl rfl inX12 tyX12 tyX12_ok nmX12 (by decide) W1251 rfl (by decide +kernel) rfl rfl dX12_readsWithin_17 ?_
    refine s_ltm rfl (fun m1 => ?_)
    refine s_aload_n 0 E dX12_readsWithin_20 rfl rfl ?_
    refine s_bd (fun m2 hz => ?_)
    refine s_cV (rest := []) E (C_r_next (xl x) G  m1 hz) mdX12_next W1367 W1369 W28 W103 W1370 rfl rfl rfl rfl (Nat.le_of_ble_eq_true rfl) ⟨by omega, by omega⟩ dX12_readsWithin_21 ?_
    refine s_aload_n 0 E dX12_readsWithin_24 rfl rfl ?_
    refine s_bd (fun z3 hz => ?_)
    refine s_cV (rest := []) E (hrec  m2 z3 hz) mdX12_readsCondition W1395 W1397 W35 W103 W1398 rfl rfl rfl rfl (Nat.le_of_ble_eq_true rfl) ⟨by omega, by omega⟩ dX12_readsWithin_25 ?_
    refine s_if_eq 41 E dX12_readsWithin_28 (by decide) ?_ ?_
    · refine s_iconst (v := (0 : Int32)) E dX12_readsWithin_41 (by decide) ?_
      exact s_zret E (by decide) rfl dX12_readsWithin_42
    · refine s_aload_n 0 E dX12_readsWithin_31 rfl rfl ?_
      refine s_sipush (v := (241 : Int32)) E dX12_readsWithin_32 (by decide) ?_
      refine s_bd (fun z4 hz => ?_)
      refine s_cV (rest := []) E (C_r_takes (xl x) G (241 : Int32) z3.2 hz) mdX12_takes W1391 W1393 W34 W103 W1394 rfl rfl rfl rfl (Nat.le_of_ble_eq_true rfl) ⟨by omega, by omega⟩ dX12_readsWithin_35 ?_
      refine s_if_ne 43 E dX12_readsWithin_38 (by decide) ?_ ?_
      · refine s_aload_n 0 E dX12_readsWithin_43 rfl rfl ?_
        refine s_dup E dX12_readsWithin_44 rfl ?_
        refine s_geti (k := 12) (T := TX12) 76 E rfl rfl rfl inX12 (by decide) W1251 dX12_readsWithin_45 ?_
        refine s_iconst (v := (1 : Int32)) E dX12_readsWithin_48 (by decide) ?_
        refine s_isub E dX12_readsWithin_49 ?_
        refine s_put (k := 12) (T := TX12) (ty := .int) 76 E rfl rfl rfl inX12 tyX12 tyX12_ok nmX12 (by decide) W1251 rfl (by decide +kernel) rfl rfl dX12_readsWithin_50 ?_
        refine s_ltm rfl (fun m5 => ?_)
        refine s_iconst (v := (1 : Int32)) E dX12_readsWithin_53 (by decide) ?_
        exact s_zret E (by decide) rfl dX12_readsWithin_54
      · refine s_iconst (v := (0 : Int32)) E dX12_readsWithin_41 (by decide) ?_
        exact s_zret E (by decide) rfl dX12_readsWithin_42
  · refine s_iconst (v := (0 : Int32)) E dX12_readsWithin_8 (by decide) ?_
    exact s_zret E (by decide) rfl dX12_readsWithin_9
set_option maxRecDepth 20000 in
theorem C_r_readsWithin (l : Launch) (G : GG) (rec : M → Option (Int32 × M)) {lv0 : Nat} (hlb : 6 ≤ lv0) (hrec : ∀  (m : M) (z : Int32 × M), rec  m = some z → Ct l G yX12_readsCondition cX12_readsCondition 2 (some .boolean) lv0 [.ref (G.2.1 76)] m (some (.int z.1)) z.2)  (m : M) {z : Int32 × M} (hz : r_readsWithin rec m = some z) : Ct l G yX12_readsWithin cX12_readsWithin 1 (some .boolean) (lv0 + 1) [.ref (G.2.1 76)] m (some (.int z.1)) z.2 :=
  ct_of (K := KWi) (by decide) (Nat.le_of_ble_eq_true rfl) (congrArg (fun q => Option.bind q _) hz) (fun x hl hn E => (t_r_readsWithin E hn rec hlb (by rw [hl]; exact hrec)  m))
theorem dX12_readsOne_0 : decode cX12_readsOne 0 = .ok (.iconst 0, 1) := by decide +kernel
theorem dX12_readsOne_1 : decode cX12_readsOne 1 = .ok (.istore_n 1, 1) := by decide +kernel
theorem dX12_readsOne_2 : decode cX12_readsOne 2 = .ok (.aload_n 0, 1) := by decide +kernel
theorem dX12_readsOne_3 : decode cX12_readsOne 3 = .ok (.bipush 10, 2) := by decide +kernel
theorem dX12_readsOne_5 : decode cX12_readsOne 5 = .ok (.invokevirtual 175, 3) := by decide +kernel
theorem dX12_readsOne_8 : decode cX12_readsOne 8 = .ok (.ifCond .eq 9, 3) := by decide +kernel
theorem dX12_readsOne_11 : decode cX12_readsOne 11 = .ok (.iinc 1 1, 3) := by decide +kernel
theorem dX12_readsOne_14 : decode cX12_readsOne 14 = .ok (.goto (-12), 3) := by decide +kernel
theorem dX12_readsOne_17 : decode cX12_readsOne 17 = .ok (.aload_n 0, 1) := by decide +kernel
theorem dX12_readsOne_18 : decode cX12_readsOne 18 = .ok (.getfield 140, 3) := by decide +kernel
theorem dX12_readsOne_21 : decode cX12_readsOne 21 = .ok (.sipush 240, 3) := by decide +kernel
theorem dX12_readsOne_24 : decode cX12_readsOne 24 = .ok (.if_icmp .ne 10, 3) := by decide +kernel
theorem dX12_readsOne_27 : decode cX12_readsOne 27 = .ok (.aload_n 0, 1) := by decide +kernel
theorem dX12_readsOne_28 : decode cX12_readsOne 28 = .ok (.invokevirtual 178, 3) := by decide +kernel
theorem dX12_readsOne_31 : decode cX12_readsOne 31 = .ok (.goto 7, 3) := by decide +kernel
theorem dX12_readsOne_34 : decode cX12_readsOne 34 = .ok (.aload_n 0, 1) := by decide +kernel
theorem dX12_readsOne_35 : decode cX12_readsOne 35 = .ok (.invokevirtual 181, 3) := by decide +kernel
theorem dX12_readsOne_38 : decode cX12_readsOne 38 = .ok (.istore_n 2, 1) := by decide +kernel
theorem dX12_readsOne_39 : decode cX12_readsOne 39 = .ok (.iconst 0, 1) := by decide +kernel
theorem dX12_readsOne_40 : decode cX12_readsOne 40 = .ok (.istore_n 3, 1) := by decide +kernel
theorem dX12_readsOne_41 : decode cX12_readsOne 41 = .ok (.iload_n 3, 1) := by decide +kernel
theorem dX12_readsOne_42 : decode cX12_readsOne 42 = .ok (.iload_n 1, 1) := by decide +kernel
theorem dX12_readsOne_43 : decode cX12_readsOne 43 = .ok (.if_icmp .ge 20, 3) := by decide +kernel
theorem dX12_readsOne_46 : decode cX12_readsOne 46 = .ok (.iload_n 2, 1) := by decide +kernel
theorem dX12_readsOne_47 : decode cX12_readsOne 47 = .ok (.ifCond .eq 16, 3) := by decide +kernel
theorem dX12_readsOne_50 : decode cX12_readsOne 50 = .ok (.aload_n 0, 1) := by decide +kernel
theorem dX12_readsOne_51 : decode cX12_readsOne 51 = .ok (.sipush 10015, 3) := by decide +kernel
theorem dX12_readsOne_54 : decode cX12_readsOne 54 = .ok (.invokevirtual 161, 3) := by decide +kernel
theorem dX12_readsOne_57 : decode cX12_readsOne 57 = .ok (.iinc 3 1, 3) := by decide +kernel
theorem dX12_readsOne_60 : decode cX12_readsOne 60 = .ok (.goto (-19), 3) := by decide +kernel
theorem dX12_readsOne_63 : decode cX12_readsOne 63 = .ok (.iload_n 2, 1) := by decide +kernel
theorem dX12_readsOne_64 : decode cX12_readsOne 64 = .ok (.ireturn, 1) := by decide +kernel
def r_readsOne_2b (rec : M → Option (Int32 × M)) (a1 : Int32) (m : M) : Option ((Int32 × M) ⊕ ((Int32 × M))) :=
  Option.bind (r_takes (10 : Int32) m) (fun z1 => (if z1.1 = 0 then some (.inr (a1, z1.2)) else lt (a1 + (1 : Int32)) (fun w2 : Int32 => some (.inl (w2, z1.2)))))
set_option maxRecDepth 20000 in
theorem t_r_readsOne_2b {G : GG} {x : Cx} {lv0 : Nat} {K : ((Int32 × M) ⊕ ((Int32 × M))) → Option (Option Value × M)} (E : En G x cX12_readsOne "WreckBoardModel" (lv0 + 2) (some .boolean)) (hn : xn x = 4) (rec : M → Option (Int32 × M)) (hlb : 6 ≤ lv0) (hrec : ∀  (m : M) (z : Int32 × M), rec  m = some z → Ct (xl x) G yX12_readsCondition cX12_readsCondition 2 (some .boolean) lv0 [.ref (G.2.1 76)] m (some (.int z.1)) z.2) (a1 : Int32) (m : M) (hb : ∀ z : Int32 × M, Sm G x 2 [(0, .ref (G.2.1 76)), (1, .int z.1)] [] z.2 (some (.inl z)) K) (hx0 : ∀ z : Int32 × M, Sm G x 17 [(0, .ref (G.2.1 76)), (1, .int z.1)] [] z.2 (some (.inr z)) K) : Sm G x 2 [(0, .ref (G.2.1 76)), (1, .int a1)] [] m (r_readsOne_2b rec a1 m) K := by
  unfold r_readsOne_2b
  refine s_aload_n 0 E dX12_readsOne_2 rfl rfl ?_
  refine s_bipush (v := (10 : Int32)) E dX12_readsOne_3 (by decide) ?_
  refine s_bd (fun z1 hz => ?_)
  refine s_cV (rest := []) E (C_r_takes (xl x) G (10 : Int32) m hz) mdX12_takes W1391 W1393 W34 W103 W1394 rfl rfl rfl rfl (Nat.le_of_ble_eq_true rfl) ⟨by omega, by omega⟩ dX12_readsOne_5 ?_
  refine s_if_eq 17 E dX12_readsOne_8 (by decide) ?_ ?_
  · exact hx0 (a1, z1.2)
  · refine s_iincL (v := (1 : Int32)) 1 [1, 0] (fun w2 => [(0, .ref (G.2.1 76)), (1, .int w2)]) E dX12_readsOne_11 rfl (by decide) (by rw [hn]; decide) (fun _ => rfl) (fun w2 => ?_)
    refine s_goto 2 E dX12_readsOne_14 (by decide) ?_
    exact hb (w2, z1.2)
def r_readsOne_41b (rec : M → Option (Int32 × M)) (a1 : Int32) (a2 : Int32) (a3 : Int32) (m : M) : Option ((Int32 × M) ⊕ ((M))) :=
  (if a1 ≤ a3 then some (.inr m) else (if a2 = 0 then some (.inr m) else Option.bind (r_lays (10015 : Int32) m) (fun m1 => lt (a3 + (1 : Int32)) (fun w2 : Int32 => some (.inl (w2, m1))))))
set_option maxRecDepth 20000 in
theorem t_r_readsOne_41b {G : GG} {x : Cx} {lv0 : Nat} {K : ((Int32 × M) ⊕ ((M))) → Option (Option Value × M)} (E : En G x cX12_readsOne "WreckBoardModel" (lv0 + 2) (some .boolean)) (hn : xn x = 4) (rec : M → Option (Int32 × M)) (hlb : 6 ≤ lv0) (hrec : ∀  (m : M) (z : Int32 × M), rec  m = some z → Ct (xl x) G yX12_readsCondition cX12_readsCondition 2 (some .boolean) lv0 [.ref (G.2.1 76)] m (some (.int z.1)) z.2) (a1 : Int32) (a2 : Int32) (a3 : Int32) (m : M) (hb : ∀ z : Int32 × M, Sm G x 41 [(0, .ref (G.2.1 76)), (1, .int a1), (2, .int a2), (3, .int z.1)] [] z.2 (some (.inl z)) K) (hx0 : ∀ z : M, Sm G x 63 [(2, .int a2)] [] z (some (.inr z)) K) : Sm G x 41 [(0, .ref (G.2.1 76)), (1, .int a1), (2, .int a2), (3, .int a3)] [] m (r_readsOne_41b rec a1 a2 a3 m) K := by
  unfold r_readsOne_41b
  refine s_iload_n 3 E dX12_readsOne_41 rfl rfl ?_
  refine s_iload_n 1 E dX12_readsOne_42 rfl rfl ?_
  refine s_icmp_ge 63 E dX12_readsOne_43 (by decide) ?_ ?_
  · refine s_sub (lv' := [(2, .int a2)]) [2] rfl ?_
    exact hx0 m
  · refine s_iload_n 2 E dX12_readsOne_46 rfl rfl ?_
    refine s_if_eq 63 E dX12_readsOne_47 (by decide) ?_ ?_
    · refine s_sub (lv' := [(2, .int a2)]) [2] rfl ?_
      exact hx0 m
    · refine s_aload_n 0 E dX12_readsOne_50 rfl rfl ?_
      refine s_sipush (v := (10015 : Int32)) E dX12_readsOne_51 (by decide) ?_
      refine s_bd (fun m1 hz => ?_)
      refine s_cV (rest := []) E (C_r_lays (xl x) G (10015 : Int32) m hz) mdX12_lays W1419 W1421 W41 W103 W1422 rfl rfl rfl rfl (Nat.le_of_ble_eq_true rfl) ⟨by omega, by omega⟩ dX12_readsOne_54 ?_
      refine s_iincL (v := (1 : Int32)) 3 [1, 2, 3, 0] (fun w2 => [(0, .ref (G.2.1 76)), (1, .int a1), (2, .int a2), (3, .int w2)]) E dX12_readsOne_57 rfl (by decide) (by rw [hn]; decide) (fun _ => rfl) (fun w2 => ?_)
      refine s_goto 41 E dX12_readsOne_60 (by decide) ?_
      exact hb (w2, m1)
def r_readsOne_41 (rec : M → Option (Int32 × M)) (a1 : Int32) (a2 : Int32) (a3 : Int32) (m : M) : Option (Int32 × M) :=
  Option.bind (iter (fun z => r_readsOne_41b rec a1 a2 z.1 z.2) FU (a3, m)) (fun r => some ((a2 &&& 1), r))
set_option maxRecDepth 20000 in
theorem t_r_readsOne_41 {G : GG} {x : Cx} {lv0 : Nat} (E : En G x cX12_readsOne "WreckBoardModel" (lv0 + 2) (some .boolean)) (hn : xn x = 4) (rec : M → Option (Int32 × M)) (hlb : 6 ≤ lv0) (hrec : ∀  (m : M) (z : Int32 × M), rec  m = some z → Ct (xl x) G yX12_readsCondition cX12_readsCondition 2 (some .boolean) lv0 [.ref (G.2.1 76)] m (some (.int z.1)) z.2) (a1 : Int32) (a2 : Int32) (a3 : Int32) (m : M) : Sm G x 41 [(0, .ref (G.2.1 76)), (1, .int a1), (2, .int a2), (3, .int a3)] [] m (r_readsOne_41 rec a1 a2 a3 m) KWi := by
  unfold r_readsOne_41
  refine s_loop (fun z => [(0, .ref (G.2.1 76)), (1, .int a1), (2, .int a2), (3, .int z.1)]) (fun z => z.2) (fun K2 hb2 hr2 z => ?_) FU (a3, m)
  refine t_r_readsOne_41b (K := K2) E hn rec hlb hrec a1 a2 z.1 z.2 hb2 (fun r => s_out (hr2 r) ?_)
  · refine s_iload_n 0 E dX12_readsOne_63 rfl rfl ?_
    exact s_zretN E rfl dX12_readsOne_64
def r_readsOne_38 (rec : M → Option (Int32 × M)) (a1 : Int32) (s0 : Int32) (m : M) : Option (Int32 × M) :=
  r_readsOne_41 rec a1 s0 (0 : Int32) m
set_option maxRecDepth 20000 in
theorem t_r_readsOne_38 {G : GG} {x : Cx} {lv0 : Nat} (E : En G x cX12_readsOne "WreckBoardModel" (lv0 + 2) (some .boolean)) (hn : xn x = 4) (rec : M → Option (Int32 × M)) (hlb : 6 ≤ lv0) (hrec : ∀  (m : M) (z : Int32 × M), rec  m = some z → Ct (xl x) G yX12_readsCondition cX12_readsCondition 2 (some .boolean) lv0 [.ref (G.2.1 76)] m (some (.int z.1)) z.2) (a1 : Int32) (s0 : Int32) (m : M) : Sm G x 38 [(0, .ref (G.2.1 76)), (1, .int a1)] [.int s0] m (r_readsOne_38 rec a1 s0 m) KWi := by
  unfold r_readsOne_38
  refine s_istore_n (lv' := [(0, .ref (G.2.1 76)), (1, .int a1), (2, .int s0)]) [1, 2, 0] E dX12_readsOne_38 rfl (by rw [hn]; decide) rfl ?_
  refine s_iconst (v := (0 : Int32)) E dX12_readsOne_39 (by decide) ?_
  refine s_istore_n (lv' := [(0, .ref (G.2.1 76)), (1, .int a1), (2, .int s0), (3, .int (0 : Int32))]) [1, 2, 3, 0] E dX12_readsOne_40 rfl (by rw [hn]; decide) rfl ?_
  exact t_r_readsOne_41 E hn rec hlb hrec a1 s0 (0 : Int32) m
def r_readsOne_2 (rec : M → Option (Int32 × M)) (a1 : Int32) (m : M) : Option (Int32 × M) :=
  Option.bind (iter (fun z => r_readsOne_2b rec z.1 z.2) FU (a1, m)) (fun r => (if (r.2 76 10) = (240 : Int32) then Option.bind (r_readsWithin rec r.2) (fun z4 => r_readsOne_38 rec r.1 z4.1 z4.2) else Option.bind (r_readsLike r.2) (fun z3 => r_readsOne_38 rec r.1 z3.1 z3.2)))
set_option maxRecDepth 20000 in
theorem t_r_readsOne_2 {G : GG} {x : Cx} {lv0 : Nat} (E : En G x cX12_readsOne "WreckBoardModel" (lv0 + 2) (some .boolean)) (hn : xn x = 4) (rec : M → Option (Int32 × M)) (hlb : 6 ≤ lv0) (hrec : ∀  (m : M) (z : Int32 × M), rec  m = some z → Ct (xl x) G yX12_readsCondition cX12_readsCondition 2 (some .boolean) lv0 [.ref (G.2.1 76)] m (some (.int z.1)) z.2) (a1 : Int32) (m : M) : Sm G x 2 [(0, .ref (G.2.1 76)), (1, .int a1)] [] m (r_readsOne_2 rec a1 m) KWi := by
  unfold r_readsOne_2
  refine s_loop (fun z => [(0, .ref (G.2.1 76)), (1, .int z.1)]) (fun z => z.2) (fun K2 hb2 hr2 z => ?_) FU (a1, m)
  refine t_r_readsOne_2b (K := K2) E hn rec hlb hrec z.1 z.2 hb2 (fun r => s_out (hr2 r) ?_)
  · refine s_aload_n 0 E dX12_readsOne_17 rfl rfl ?_
    refine s_geti (k := 10) (T := TX12) 76 E rfl rfl rfl inX12 (by decide) W1249 dX12_readsOne_18 ?_
    refine s_sipush (v := (240 : Int32)) E dX12_readsOne_21 (by decide) ?_
    refine s_icmp_ne 34 E dX12_readsOne_24 (by decide) ?_ ?_
    · refine s_aload_n 0 E dX12_readsOne_34 rfl rfl ?_
      refine s_bd (fun z3 hz => ?_)
      refine s_cV (rest := []) E (C_r_readsLike (xl x) G  r.2 hz) mdX12_readsLike W1411 W1413 W39 W103 W1414 rfl rfl rfl rfl (Nat.le_of_ble_eq_true rfl) ⟨by omega, by omega⟩ dX12_readsOne_35 ?_
      exact t_r_readsOne_38 E hn rec hlb hrec r.1 z3.1 z3.2
    · refine s_aload_n 0 E dX12_readsOne_27 rfl rfl ?_
      refine s_bd (fun z4 hz => ?_)
      refine s_cV (rest := []) E (C_r_readsWithin (xl x) G rec hlb hrec  r.2 hz) mdX12_readsWithin W1407 W1409 W38 W103 W1410 rfl rfl rfl rfl (Nat.le_of_ble_eq_true rfl) ⟨by omega, by omega⟩ dX12_readsOne_28 ?_
      refine s_goto 38 E dX12_readsOne_31 (by decide) ?_
      exact t_r_readsOne_38 E hn rec hlb hrec r.1 z4.1 z4.2
def r_readsOne (rec : M → Option (Int32 × M))  (m : M) : Option (Int32 × M) :=
  r_readsOne_2 rec (0 : Int32) m
set_option maxRecDepth 20000 in
theorem t_r_readsOne {G : GG} {x : Cx} {lv0 : Nat} (E : En G x cX12_readsOne "WreckBoardModel" (lv0 + 2) (some .boolean)) (hn : xn x = 4) (rec : M → Option (Int32 × M)) (hlb : 6 ≤ lv0) (hrec : ∀  (m : M) (z : Int32 × M), rec  m = some z → Ct (xl x) G yX12_readsCondition cX12_readsCondition 2 (some .boolean) lv0 [.ref (G.2.1 76)] m (some (.int z.1)) z.2)  (m : M) : Sm G x 0 [(0, .ref (G.2.1 76))] [] m (r_readsOne rec m) KWi := by
  unfold r_readsOne
  refine s_iconst (v := (0 : Int32)) E dX12_readsOne_0 (by decide) ?_
  refine s_istore_n (lv' := [(0, .ref (G.2.1 76)), (1, .int (0 : Int32))]) [1, 0] E dX12_readsOne_1 rfl (by rw [hn]; decide) rfl ?_
  exact t_r_readsOne_2 E hn rec hlb hrec (0 : Int32) m
set_option maxRecDepth 20000 in
theorem C_r_readsOne (l : Launch) (G : GG) (rec : M → Option (Int32 × M)) {lv0 : Nat} (hlb : 6 ≤ lv0) (hrec : ∀  (m : M) (z : Int32 × M), rec  m = some z → Ct l G yX12_readsCondition cX12_readsCondition 2 (some .boolean) lv0 [.ref (G.2.1 76)] m (some (.int z.1)) z.2)  (m : M) {z : Int32 × M} (hz : r_readsOne rec m = some z) : Ct l G yX12_readsOne cX12_readsOne 4 (some .boolean) (lv0 + 2) [.ref (G.2.1 76)] m (some (.int z.1)) z.2 :=
  ct_of (K := KWi) (by decide) (Nat.le_of_ble_eq_true rfl) (congrArg (fun q => Option.bind q _) hz) (fun x hl hn E => (t_r_readsOne E hn rec hlb (by rw [hl]; exact hrec)  m))
theorem dX12_readsAll_0 : decode cX12_readsAll 0 = .ok (.aload_n 0, 1) := by decide +kernel
theorem dX12_readsAll_1 : decode cX12_readsAll 1 = .ok (.invokevirtual 184, 3) := by decide +kernel
theorem dX12_readsAll_4 : decode cX12_readsAll 4 = .ok (.istore_n 1, 1) := by decide +kernel
theorem dX12_readsAll_5 : decode cX12_readsAll 5 = .ok (.iload_n 1, 1) := by decide +kernel
theorem dX12_readsAll_6 : decode cX12_readsAll 6 = .ok (.ifCond .eq 31, 3) := by decide +kernel
theorem dX12_readsAll_9 : decode cX12_readsAll 9 = .ok (.aload_n 0, 1) := by decide +kernel
theorem dX12_readsAll_10 : decode cX12_readsAll 10 = .ok (.bipush 11, 2) := by decide +kernel
theorem dX12_readsAll_12 : decode cX12_readsAll 12 = .ok (.invokevirtual 175, 3) := by decide +kernel
theorem dX12_readsAll_15 : decode cX12_readsAll 15 = .ok (.ifCond .eq 22, 3) := by decide +kernel
theorem dX12_readsAll_18 : decode cX12_readsAll 18 = .ok (.aload_n 0, 1) := by decide +kernel
theorem dX12_readsAll_19 : decode cX12_readsAll 19 = .ok (.invokevirtual 184, 3) := by decide +kernel
theorem dX12_readsAll_22 : decode cX12_readsAll 22 = .ok (.istore_n 1, 1) := by decide +kernel
theorem dX12_readsAll_23 : decode cX12_readsAll 23 = .ok (.iload_n 1, 1) := by decide +kernel
theorem dX12_readsAll_24 : decode cX12_readsAll 24 = .ok (.ifCond .eq (-19), 3) := by decide +kernel
theorem dX12_readsAll_27 : decode cX12_readsAll 27 = .ok (.aload_n 0, 1) := by decide +kernel
theorem dX12_readsAll_28 : decode cX12_readsAll 28 = .ok (.sipush 10013, 3) := by decide +kernel
theorem dX12_readsAll_31 : decode cX12_readsAll 31 = .ok (.invokevirtual 161, 3) := by decide +kernel
theorem dX12_readsAll_34 : decode cX12_readsAll 34 = .ok (.goto (-29), 3) := by decide +kernel
theorem dX12_readsAll_37 : decode cX12_readsAll 37 = .ok (.iload_n 1, 1) := by decide +kernel
theorem dX12_readsAll_38 : decode cX12_readsAll 38 = .ok (.ireturn, 1) := by decide +kernel
def r_readsAll_5b (rec : M → Option (Int32 × M)) (a1 : Int32) (m : M) : Option ((Int32 × M) ⊕ ((Int32 × M))) :=
  (if a1 = 0 then some (.inr (a1, m)) else Option.bind (r_takes (11 : Int32) m) (fun z1 => (if z1.1 = 0 then some (.inr (a1, z1.2)) else Option.bind (r_readsOne rec z1.2) (fun z2 => (if z2.1 = 0 then some (.inl (z2.1, z2.2)) else Option.bind (r_lays (10013 : Int32) z2.2) (fun m3 => some (.inl (z2.1, m3))))))))
set_option maxRecDepth 20000 in
theorem t_r_readsAll_5b {G : GG} {x : Cx} {lv0 : Nat} {K : ((Int32 × M) ⊕ ((Int32 × M))) → Option (Option Value × M)} (E : En G x cX12_readsAll "WreckBoardModel" (lv0 + 3) (some .boolean)) (hn : xn x = 2) (rec : M → Option (Int32 × M)) (hlb : 6 ≤ lv0) (hrec : ∀  (m : M) (z : Int32 × M), rec  m = some z → Ct (xl x) G yX12_readsCondition cX12_readsCondition 2 (some .boolean) lv0 [.ref (G.2.1 76)] m (some (.int z.1)) z.2) (a1 : Int32) (m : M) (hb : ∀ z : Int32 × M, Sm G x 5 [(0, .ref (G.2.1 76)), (1, .int z.1)] [] z.2 (some (.inl z)) K) (hx0 : ∀ z : Int32 × M, Sm G x 37 [(1, .int z.1)] [] z.2 (some (.inr z)) K) : Sm G x 5 [(0, .ref (G.2.1 76)), (1, .int a1)] [] m (r_readsAll_5b rec a1 m) K := by
  unfold r_readsAll_5b
  refine s_iload_n 1 E dX12_readsAll_5 rfl rfl ?_
  refine s_if_eq 37 E dX12_readsAll_6 (by decide) ?_ ?_
  · refine s_sub (lv' := [(1, .int a1)]) [1] rfl ?_
    exact hx0 (a1, m)
  · refine s_aload_n 0 E dX12_readsAll_9 rfl rfl ?_
    refine s_bipush (v := (11 : Int32)) E dX12_readsAll_10 (by decide) ?_
    refine s_bd (fun z1 hz => ?_)
    refine s_cV (rest := []) E (C_r_takes (xl x) G (11 : Int32) m hz) mdX12_takes W1391 W1393 W34 W103 W1394 rfl rfl rfl rfl (Nat.le_of_ble_eq_true rfl) ⟨by omega, by omega⟩ dX12_readsAll_12 ?_
    refine s_if_eq 37 E dX12_readsAll_15 (by decide) ?_ ?_
    · refine s_sub (lv' := [(1, .int a1)]) [1] rfl ?_
      exact hx0 (a1, z1.2)
    · refine s_aload_n 0 E dX12_readsAll_18 rfl rfl ?_
      refine s_bd (fun z2 hz => ?_)
      refine s_cV (rest := []) E (C_r_readsOne (xl x) G rec hlb hrec  z1.2 hz) mdX12_readsOne W1403 W1405 W37 W103 W1406 rfl rfl rfl rfl (Nat.le_of_ble_eq_true rfl) ⟨by omega, by omega⟩ dX12_readsAll_19 ?_
      refine s_istore_n (lv' := [(0, .ref (G.2.1 76)), (1, .int z2.1)]) [1, 0] E dX12_readsAll_22 rfl (by rw [hn]; decide) rfl ?_
      refine s_iload_n 1 E dX12_readsAll_23 rfl rfl ?_
      refine s_if_eq 5 E dX12_readsAll_24 (by decide) ?_ ?_
      · exact hb (z2.1, z2.2)
      · refine s_aload_n 0 E dX12_readsAll_27 rfl rfl ?_
        refine s_sipush (v := (10013 : Int32)) E dX12_readsAll_28 (by decide) ?_
        refine s_bd (fun m3 hz => ?_)
        refine s_cV (rest := []) E (C_r_lays (xl x) G (10013 : Int32) z2.2 hz) mdX12_lays W1419 W1421 W41 W103 W1422 rfl rfl rfl rfl (Nat.le_of_ble_eq_true rfl) ⟨by omega, by omega⟩ dX12_readsAll_31 ?_
        refine s_goto 5 E dX12_readsAll_34 (by decide) ?_
        exact hb (z2.1, m3)
def r_readsAll_5 (rec : M → Option (Int32 × M)) (a1 : Int32) (m : M) : Option (Int32 × M) :=
  Option.bind (iter (fun z => r_readsAll_5b rec z.1 z.2) FU (a1, m)) (fun r => some ((r.1 &&& 1), r.2))
set_option maxRecDepth 20000 in
theorem t_r_readsAll_5 {G : GG} {x : Cx} {lv0 : Nat} (E : En G x cX12_readsAll "WreckBoardModel" (lv0 + 3) (some .boolean)) (hn : xn x = 2) (rec : M → Option (Int32 × M)) (hlb : 6 ≤ lv0) (hrec : ∀  (m : M) (z : Int32 × M), rec  m = some z → Ct (xl x) G yX12_readsCondition cX12_readsCondition 2 (some .boolean) lv0 [.ref (G.2.1 76)] m (some (.int z.1)) z.2) (a1 : Int32) (m : M) : Sm G x 5 [(0, .ref (G.2.1 76)), (1, .int a1)] [] m (r_readsAll_5 rec a1 m) KWi := by
  unfold r_readsAll_5
  refine s_loop (fun z => [(0, .ref (G.2.1 76)), (1, .int z.1)]) (fun z => z.2) (fun K2 hb2 hr2 z => ?_) FU (a1, m)
  refine t_r_readsAll_5b (K := K2) E hn rec hlb hrec z.1 z.2 hb2 (fun r => s_out (hr2 r) ?_)
  · refine s_iload_n 0 E dX12_readsAll_37 rfl rfl ?_
    exact s_zretN E rfl dX12_readsAll_38
def r_readsAll (rec : M → Option (Int32 × M))  (m : M) : Option (Int32 × M) :=
  Option.bind (r_readsOne rec m) (fun z1 => r_readsAll_5 rec z1.1 z1.2)
set_option maxRecDepth 20000 in
theorem t_r_readsAll {G : GG} {x : Cx} {lv0 : Nat} (E : En G x cX12_readsAll "WreckBoardModel" (lv0 + 3) (some .boolean)) (hn : xn x = 2) (rec : M → Option (Int32 × M)) (hlb : 6 ≤ lv0) (hrec : ∀  (m : M) (z : Int32 × M), rec  m = some z → Ct (xl x) G yX12_readsCondition cX12_readsCondition 2 (some .boolean) lv0 [.ref (G.2.1 76)] m (some (.int z.1)) z.2)  (m : M) : Sm G x 0 [(0, .ref (G.2.1 76))] [] m (r_readsAll rec m) KWi := by
  unfold r_readsAll
  refine s_aload_n 0 E dX12_readsAll_0 rfl rfl ?_
  refine s_bd (fun z1 hz => ?_)
  refine s_cV (rest := []) E (C_r_readsOne (xl x) G rec hlb hrec  m hz) mdX12_readsOne W1403 W1405 W37 W103 W1406 rfl rfl rfl rfl (Nat.le_of_ble_eq_true rfl) ⟨by omega, by omega⟩ dX12_readsAll_1 ?_
  refine s_istore_n (lv' := [(0, .ref (G.2.1 76)), (1, .int z1.1)]) [1, 0] E dX12_readsAll_4 rfl (by rw [hn]; decide) rfl ?_
  exact t_r_readsAll_5 E hn rec hlb hrec z1.1 z1.2
set_option maxRecDepth 20000 in
theorem C_r_readsAll (l : Launch) (G : GG) (rec : M → Option (Int32 × M)) {lv0 : Nat} (hlb : 6 ≤ lv0) (hrec : ∀  (m : M) (z : Int32 × M), rec  m = some z → Ct l G yX12_readsCondition cX12_readsCondition 2 (some .boolean) lv0 [.ref (G.2.1 76)] m (some (.int z.1)) z.2)  (m : M) {z : Int32 × M} (hz : r_readsAll rec m = some z) : Ct l G yX12_readsAll cX12_readsAll 2 (some .boolean) (lv0 + 3) [.ref (G.2.1 76)] m (some (.int z.1)) z.2 :=
  ct_of (K := KWi) (by decide) (Nat.le_of_ble_eq_true rfl) (congrArg (fun q => Option.bind q _) hz) (fun x hl hn E => (t_r_readsAll E hn rec hlb (by rw [hl]; exact hrec)  m))
theorem dX12_readsCondition_0 : decode cX12_readsCondition 0 = .ok (.aload_n 0, 1) := by decide +kernel
theorem dX12_readsCondition_1 : decode cX12_readsCondition 1 = .ok (.invokevirtual 187, 3) := by decide +kernel
theorem dX12_readsCondition_4 : decode cX12_readsCondition 4 = .ok (.istore_n 1, 1) := by decide +kernel
theorem dX12_readsCondition_5 : decode cX12_readsCondition 5 = .ok (.iload_n 1, 1) := by decide +kernel
theorem dX12_readsCondition_6 : decode cX12_readsCondition 6 = .ok (.ifCond .eq 31, 3) := by decide +kernel
theorem dX12_readsCondition_9 : decode cX12_readsCondition 9 = .ok (.aload_n 0, 1) := by decide +kernel
theorem dX12_readsCondition_10 : decode cX12_readsCondition 10 = .ok (.bipush 12, 2) := by decide +kernel
theorem dX12_readsCondition_12 : decode cX12_readsCondition 12 = .ok (.invokevirtual 175, 3) := by decide +kernel
theorem dX12_readsCondition_15 : decode cX12_readsCondition 15 = .ok (.ifCond .eq 22, 3) := by decide +kernel
theorem dX12_readsCondition_18 : decode cX12_readsCondition 18 = .ok (.aload_n 0, 1) := by decide +kernel
theorem dX12_readsCondition_19 : decode cX12_readsCondition 19 = .ok (.invokevirtual 187, 3) := by decide +kernel
theorem dX12_readsCondition_22 : decode cX12_readsCondition 22 = .ok (.istore_n 1, 1) := by decide +kernel
theorem dX12_readsCondition_23 : decode cX12_readsCondition 23 = .ok (.iload_n 1, 1) := by decide +kernel
theorem dX12_readsCondition_24 : decode cX12_readsCondition 24 = .ok (.ifCond .eq (-19), 3) := by decide +kernel
theorem dX12_readsCondition_27 : decode cX12_readsCondition 27 = .ok (.aload_n 0, 1) := by decide +kernel
theorem dX12_readsCondition_28 : decode cX12_readsCondition 28 = .ok (.sipush 10014, 3) := by decide +kernel
theorem dX12_readsCondition_31 : decode cX12_readsCondition 31 = .ok (.invokevirtual 161, 3) := by decide +kernel
theorem dX12_readsCondition_34 : decode cX12_readsCondition 34 = .ok (.goto (-29), 3) := by decide +kernel
theorem dX12_readsCondition_37 : decode cX12_readsCondition 37 = .ok (.iload_n 1, 1) := by decide +kernel
theorem dX12_readsCondition_38 : decode cX12_readsCondition 38 = .ok (.ireturn, 1) := by decide +kernel
def r_readsCondition_5b (rec : M → Option (Int32 × M)) (a1 : Int32) (m : M) : Option ((Int32 × M) ⊕ ((Int32 × M))) :=
  (if a1 = 0 then some (.inr (a1, m)) else Option.bind (r_takes (12 : Int32) m) (fun z1 => (if z1.1 = 0 then some (.inr (a1, z1.2)) else Option.bind (r_readsAll rec z1.2) (fun z2 => (if z2.1 = 0 then some (.inl (z2.1, z2.2)) else Option.bind (r_lays (10014 : Int32) z2.2) (fun m3 => some (.inl (z2.1, m3))))))))
set_option maxRecDepth 20000 in
theorem t_r_readsCondition_5b {G : GG} {x : Cx} {lv0 : Nat} {K : ((Int32 × M) ⊕ ((Int32 × M))) → Option (Option Value × M)} (E : En G x cX12_readsCondition "WreckBoardModel" (lv0 + 4) (some .boolean)) (hn : xn x = 2) (rec : M → Option (Int32 × M)) (hlb : 6 ≤ lv0) (hrec : ∀  (m : M) (z : Int32 × M), rec  m = some z → Ct (xl x) G yX12_readsCondition cX12_readsCondition 2 (some .boolean) lv0 [.ref (G.2.1 76)] m (some (.int z.1)) z.2) (a1 : Int32) (m : M) (hb : ∀ z : Int32 × M, Sm G x 5 [(0, .ref (G.2.1 76)), (1, .int z.1)] [] z.2 (some (.inl z)) K) (hx0 : ∀ z : Int32 × M, Sm G x 37 [(1, .int z.1)] [] z.2 (some (.inr z)) K) : Sm G x 5 [(0, .ref (G.2.1 76)), (1, .int a1)] [] m (r_readsCondition_5b rec a1 m) K := by
  unfold r_readsCondition_5b
  refine s_iload_n 1 E dX12_readsCondition_5 rfl rfl ?_
  refine s_if_eq 37 E dX12_readsCondition_6 (by decide) ?_ ?_
  · refine s_sub (lv' := [(1, .int a1)]) [1] rfl ?_
    exact hx0 (a1, m)
  · refine s_aload_n 0 E dX12_readsCondition_9 rfl rfl ?_
    refine s_bipush (v := (12 : Int32)) E dX12_readsCondition_10 (by decide) ?_
    refine s_bd (fun z1 hz => ?_)
    refine s_cV (rest := []) E (C_r_takes (xl x) G (12 : Int32) m hz) mdX12_takes W1391 W1393 W34 W103 W1394 rfl rfl rfl rfl (Nat.le_of_ble_eq_true rfl) ⟨by omega, by omega⟩ dX12_readsCondition_12 ?_
    refine s_if_eq 37 E dX12_readsCondition_15 (by decide) ?_ ?_
    · refine s_sub (lv' := [(1, .int a1)]) [1] rfl ?_
      exact hx0 (a1, z1.2)
    · refine s_aload_n 0 E dX12_readsCondition_18 rfl rfl ?_
      refine s_bd (fun z2 hz => ?_)
      refine s_cV (rest := []) E (C_r_readsAll (xl x) G rec hlb hrec  z1.2 hz) mdX12_readsAll W1399 W1401 W36 W103 W1402 rfl rfl rfl rfl (Nat.le_of_ble_eq_true rfl) ⟨by omega, by omega⟩ dX12_readsCondition_19 ?_
      refine s_istore_n (lv' := [(0, .ref (G.2.1 76)), (1, .int z2.1)]) [1, 0] E dX12_readsCondition_22 rfl (by rw [hn]; decide) rfl ?_
      refine s_iload_n 1 E dX12_readsCondition_23 rfl rfl ?_
      refine s_if_eq 5 E dX12_readsCondition_24 (by decide) ?_ ?_
      · exact hb (z2.1, z2.2)
      · refine s_aload_n 0 E dX12_readsCondition_27 rfl rfl ?_
        refine s_sipush (v := (10014 : Int32)) E dX12_readsCondition_28 (by decide) ?_
        refine s_bd (fun m3 hz => ?_)
        refine s_cV (rest := []) E (C_r_lays (xl x) G (10014 : Int32) z2.2 hz) mdX12_lays W1419 W1421 W41 W103 W1422 rfl rfl rfl rfl (Nat.le_of_ble_eq_true rfl) ⟨by omega, by omega⟩ dX12_readsCondition_31 ?_
        refine s_goto 5 E dX12_readsCondition_34 (by decide) ?_
        exact hb (z2.1, m3)
def r_readsCondition_5 (rec : M → Option (Int32 × M)) (a1 : Int32) (m : M) : Option (Int32 × M) :=
  Option.bind (iter (fun z => r_readsCondition_5b rec z.1 z.2) FU (a1, m)) (fun r => some ((r.1 &&& 1), r.2))
set_option maxRecDepth 20000 in
theorem t_r_readsCondition_5 {G : GG} {x : Cx} {lv0 : Nat} (E : En G x cX12_readsCondition "WreckBoardModel" (lv0 + 4) (some .boolean)) (hn : xn x = 2) (rec : M → Option (Int32 × M)) (hlb : 6 ≤ lv0) (hrec : ∀  (m : M) (z : Int32 × M), rec  m = some z → Ct (xl x) G yX12_readsCondition cX12_readsCondition 2 (some .boolean) lv0 [.ref (G.2.1 76)] m (some (.int z.1)) z.2) (a1 : Int32) (m : M) : Sm G x 5 [(0, .ref (G.2.1 76)), (1, .int a1)] [] m (r_readsCondition_5 rec a1 m) KWi := by
  unfold r_readsCondition_5
  refine s_loop (fun z => [(0, .ref (G.2.1 76)), (1, .int z.1)]) (fun z => z.2) (fun K2 hb2 hr2 z => ?_) FU (a1, m)
  refine t_r_readsCondition_5b (K := K2) E hn rec hlb hrec z.1 z.2 hb2 (fun r => s_out (hr2 r) ?_)
  · refine s_iload_n 0 E dX12_readsCondition_37 rfl rfl ?_
    exact s_zretN E rfl dX12_readsCondition_38
def r_readsCondition (rec : M → Option (Int32 × M))  (m : M) : Option (Int32 × M) :=
  Option.bind (r_readsAll rec m) (fun z1 => r_readsCondition_5 rec z1.1 z1.2)
set_option maxRecDepth 20000 in
theorem t_r_readsCondition {G : GG} {x : Cx} {lv0 : Nat} (E : En G x cX12_readsCondition "WreckBoardModel" (lv0 + 4) (some .boolean)) (hn : xn x = 2) (rec : M → Option (Int32 × M)) (hlb : 6 ≤ lv0) (hrec : ∀  (m : M) (z : Int32 × M), rec  m = some z → Ct (xl x) G yX12_readsCondition cX12_readsCondition 2 (some .boolean) lv0 [.ref (G.2.1 76)] m (some (.int z.1)) z.2)  (m : M) : Sm G x 0 [(0, .ref (G.2.1 76))] [] m (r_readsCondition rec m) KWi := by
  unfold r_readsCondition
  refine s_aload_n 0 E dX12_readsCondition_0 rfl rfl ?_
  refine s_bd (fun z1 hz => ?_)
  refine s_cV (rest := []) E (C_r_readsAll (xl x) G rec hlb hrec  m hz) mdX12_readsAll W1399 W1401 W36 W103 W1402 rfl rfl rfl rfl (Nat.le_of_ble_eq_true rfl) ⟨by omega, by omega⟩ dX12_readsCondition_1 ?_
  refine s_istore_n (lv' := [(0, .ref (G.2.1 76)), (1, .int z1.1)]) [1, 0] E dX12_readsCondition_4 rfl (by rw [hn]; decide) rfl ?_
  exact t_r_readsCondition_5 E hn rec hlb hrec z1.1 z1.2
set_option maxRecDepth 20000 in
theorem C_r_readsCondition (l : Launch) (G : GG) (rec : M → Option (Int32 × M)) {lv0 : Nat} (hlb : 6 ≤ lv0) (hrec : ∀  (m : M) (z : Int32 × M), rec  m = some z → Ct l G yX12_readsCondition cX12_readsCondition 2 (some .boolean) lv0 [.ref (G.2.1 76)] m (some (.int z.1)) z.2)  (m : M) {z : Int32 × M} (hz : r_readsCondition rec m = some z) : Ct l G yX12_readsCondition cX12_readsCondition 2 (some .boolean) (lv0 + 4) [.ref (G.2.1 76)] m (some (.int z.1)) z.2 :=
  ct_of (K := KWi) (by decide) (Nat.le_of_ble_eq_true rfl) (congrArg (fun q => Option.bind q _) hz) (fun x hl hn E => (t_r_readsCondition E hn rec hlb (by rw [hl]; exact hrec)  m))
def r_readsCondition_d : Nat → M → Option (Int32 × M)
  | 0 => fun  _ => none
  | d + 1 => fun  m => r_readsCondition (r_readsCondition_d d)  m
theorem C_r_readsCondition_d (l : Launch) (G : GG) : ∀ (d : Nat)  (m : M) {z : Int32 × M}, r_readsCondition_d d  m = some z → Ct l G yX12_readsCondition cX12_readsCondition 2 (some .boolean) (6 + 4 * d) [.ref (G.2.1 76)] m (some (.int z.1)) z.2 := by
  intro d
  induction d with
  | zero => intro  m z hz; cases hz
  | succ d ih =>
    intro  m z hz
    exact C_r_readsCondition l G (r_readsCondition_d d) (lv0 := 6 + 4 * d) (by omega) (fun  m z h => ih  m h)  m hz
theorem dX12_readsRule_0 : decode cX12_readsRule 0 = .ok (.iload_n 1, 1) := by decide +kernel
theorem dX12_readsRule_1 : decode cX12_readsRule 1 = .ok (.bipush 8, 2) := by decide +kernel
theorem dX12_readsRule_3 : decode cX12_readsRule 3 = .ok (.if_icmp .eq 15, 3) := by decide +kernel
theorem dX12_readsRule_6 : decode cX12_readsRule 6 = .ok (.aload_n 0, 1) := by decide +kernel
theorem dX12_readsRule_7 : decode cX12_readsRule 7 = .ok (.getfield 140, 3) := by decide +kernel
theorem dX12_readsRule_10 : decode cX12_readsRule 10 = .ok (.iconst 0, 1) := by decide +kernel
theorem dX12_readsRule_11 : decode cX12_readsRule 11 = .ok (.iconst 5, 1) := by decide +kernel
theorem dX12_readsRule_12 : decode cX12_readsRule 12 = .ok (.invokestatic 71, 3) := by decide +kernel
theorem dX12_readsRule_15 : decode cX12_readsRule 15 = .ok (.ifCond .ne 5, 3) := by decide +kernel
theorem dX12_readsRule_18 : decode cX12_readsRule 18 = .ok (.iconst 0, 1) := by decide +kernel
theorem dX12_readsRule_19 : decode cX12_readsRule 19 = .ok (.ireturn, 1) := by decide +kernel
theorem dX12_readsRule_20 : decode cX12_readsRule 20 = .ok (.aload_n 0, 1) := by decide +kernel
theorem dX12_readsRule_21 : decode cX12_readsRule 21 = .ok (.getfield 32, 3) := by decide +kernel
theorem dX12_readsRule_24 : decode cX12_readsRule 24 = .ok (.iconst 3, 1) := by decide +kernel
theorem dX12_readsRule_25 : decode cX12_readsRule 25 = .ok (.iload_n 1, 1) := by decide +kernel
theorem dX12_readsRule_26 : decode cX12_readsRule 26 = .ok (.imul, 1) := by decide +kernel
theorem dX12_readsRule_27 : decode cX12_readsRule 27 = .ok (.aload_n 0, 1) := by decide +kernel
theorem dX12_readsRule_28 : decode cX12_readsRule 28 = .ok (.getfield 140, 3) := by decide +kernel
theorem dX12_readsRule_31 : decode cX12_readsRule 31 = .ok (.iastore, 1) := by decide +kernel
theorem dX12_readsRule_32 : decode cX12_readsRule 32 = .ok (.aload_n 0, 1) := by decide +kernel
theorem dX12_readsRule_33 : decode cX12_readsRule 33 = .ok (.invokevirtual 155, 3) := by decide +kernel
theorem dX12_readsRule_36 : decode cX12_readsRule 36 = .ok (.aload_n 0, 1) := by decide +kernel
theorem dX12_readsRule_37 : decode cX12_readsRule 37 = .ok (.iconst 0, 1) := by decide +kernel
theorem dX12_readsRule_38 : decode cX12_readsRule 38 = .ok (.putfield 169, 3) := by decide +kernel
theorem dX12_readsRule_41 : decode cX12_readsRule 41 = .ok (.aload_n 0, 1) := by decide +kernel
theorem dX12_readsRule_42 : decode cX12_readsRule 42 = .ok (.bipush 9, 2) := by decide +kernel
theorem dX12_readsRule_44 : decode cX12_readsRule 44 = .ok (.invokevirtual 175, 3) := by decide +kernel
theorem dX12_readsRule_47 : decode cX12_readsRule 47 = .ok (.ifCond .eq 12, 3) := by decide +kernel
theorem dX12_readsRule_50 : decode cX12_readsRule 50 = .ok (.aload_n 0, 1) := by decide +kernel
theorem dX12_readsRule_51 : decode cX12_readsRule 51 = .ok (.invokevirtual 172, 3) := by decide +kernel
theorem dX12_readsRule_54 : decode cX12_readsRule 54 = .ok (.ifCond .ne 5, 3) := by decide +kernel
theorem dX12_readsRule_57 : decode cX12_readsRule 57 = .ok (.iconst 0, 1) := by decide +kernel
theorem dX12_readsRule_58 : decode cX12_readsRule 58 = .ok (.ireturn, 1) := by decide +kernel
theorem dX12_readsRule_59 : decode cX12_readsRule 59 = .ok (.aload_n 0, 1) := by decide +kernel
theorem dX12_readsRule_60 : decode cX12_readsRule 60 = .ok (.getfield 140, 3) := by decide +kernel
theorem dX12_readsRule_63 : decode cX12_readsRule 63 = .ok (.bipush 6, 2) := by decide +kernel
theorem dX12_readsRule_65 : decode cX12_readsRule 65 = .ok (.bipush 8, 2) := by decide +kernel
theorem dX12_readsRule_67 : decode cX12_readsRule 67 = .ok (.invokestatic 71, 3) := by decide +kernel
theorem dX12_readsRule_70 : decode cX12_readsRule 70 = .ok (.ifCond .ne 5, 3) := by decide +kernel
theorem dX12_readsRule_73 : decode cX12_readsRule 73 = .ok (.iconst 0, 1) := by decide +kernel
theorem dX12_readsRule_74 : decode cX12_readsRule 74 = .ok (.ireturn, 1) := by decide +kernel
theorem dX12_readsRule_75 : decode cX12_readsRule 75 = .ok (.aload_n 0, 1) := by decide +kernel
theorem dX12_readsRule_76 : decode cX12_readsRule 76 = .ok (.getfield 32, 3) := by decide +kernel
theorem dX12_readsRule_79 : decode cX12_readsRule 79 = .ok (.iconst 3, 1) := by decide +kernel
theorem dX12_readsRule_80 : decode cX12_readsRule 80 = .ok (.iload_n 1, 1) := by decide +kernel
theorem dX12_readsRule_81 : decode cX12_readsRule 81 = .ok (.imul, 1) := by decide +kernel
theorem dX12_readsRule_82 : decode cX12_readsRule 82 = .ok (.iconst 1, 1) := by decide +kernel
theorem dX12_readsRule_83 : decode cX12_readsRule 83 = .ok (.iadd, 1) := by decide +kernel
theorem dX12_readsRule_84 : decode cX12_readsRule 84 = .ok (.aload_n 0, 1) := by decide +kernel
theorem dX12_readsRule_85 : decode cX12_readsRule 85 = .ok (.getfield 140, 3) := by decide +kernel
theorem dX12_readsRule_88 : decode cX12_readsRule 88 = .ok (.bipush 6, 2) := by decide +kernel
theorem dX12_readsRule_90 : decode cX12_readsRule 90 = .ok (.isub, 1) := by decide +kernel
theorem dX12_readsRule_91 : decode cX12_readsRule 91 = .ok (.iastore, 1) := by decide +kernel
theorem dX12_readsRule_92 : decode cX12_readsRule 92 = .ok (.aload_n 0, 1) := by decide +kernel
theorem dX12_readsRule_93 : decode cX12_readsRule 93 = .ok (.getfield 32, 3) := by decide +kernel
theorem dX12_readsRule_96 : decode cX12_readsRule 96 = .ok (.iconst 3, 1) := by decide +kernel
theorem dX12_readsRule_97 : decode cX12_readsRule 97 = .ok (.iload_n 1, 1) := by decide +kernel
theorem dX12_readsRule_98 : decode cX12_readsRule 98 = .ok (.imul, 1) := by decide +kernel
theorem dX12_readsRule_99 : decode cX12_readsRule 99 = .ok (.iconst 2, 1) := by decide +kernel
theorem dX12_readsRule_100 : decode cX12_readsRule 100 = .ok (.iadd, 1) := by decide +kernel
theorem dX12_readsRule_101 : decode cX12_readsRule 101 = .ok (.aload_n 0, 1) := by decide +kernel
theorem dX12_readsRule_102 : decode cX12_readsRule 102 = .ok (.getfield 158, 3) := by decide +kernel
theorem dX12_readsRule_105 : decode cX12_readsRule 105 = .ok (.iastore, 1) := by decide +kernel
theorem dX12_readsRule_106 : decode cX12_readsRule 106 = .ok (.aload_n 0, 1) := by decide +kernel
theorem dX12_readsRule_107 : decode cX12_readsRule 107 = .ok (.invokevirtual 155, 3) := by decide +kernel
theorem dX12_readsRule_110 : decode cX12_readsRule 110 = .ok (.aload_n 0, 1) := by decide +kernel
theorem dX12_readsRule_111 : decode cX12_readsRule 111 = .ok (.sipush 259, 3) := by decide +kernel
theorem dX12_readsRule_114 : decode cX12_readsRule 114 = .ok (.invokevirtual 175, 3) := by decide +kernel
theorem dX12_readsRule_117 : decode cX12_readsRule 117 = .ok (.ireturn, 1) := by decide +kernel
def r_readsRule_59 (a1 : Int32) (m : M) : Option (Int32 × M) :=
  Option.bind (r_in1 (m 76 10) (6 : Int32) (8 : Int32) m) (fun v1 => (if v1 = 0 then some ((0 : Int32), m) else Option.bind (wrI m 84 (((3 : Int32) * a1) + (1 : Int32)) ((m 76 10) - (6 : Int32))) (fun m2 => Option.bind (wrI m2 84 (((3 : Int32) * a1) + (2 : Int32)) (m2 76 13)) (fun m3 => Option.bind (r_next m3) (fun m4 => Option.bind (r_takes (259 : Int32) m4) (fun z5 => some ((z5.1 &&& 1), z5.2)))))))
set_option maxRecDepth 20000 in
theorem t_r_readsRule_59 {G : GG} {x : Cx} (E : En G x cX12_readsRule "WreckBoardModel" 31 (some .boolean)) (hn : xn x = 2) (a1 : Int32) (m : M) : Sm G x 59 [(0, .ref (G.2.1 76)), (1, .int a1)] [] m (r_readsRule_59 a1 m) KWi := by
  unfold r_readsRule_59
  refine s_aload_n 0 E dX12_readsRule_59 rfl rfl ?_
  refine s_geti (k := 10) (T := TX12) 76 E rfl rfl rfl inX12 (by decide) W1249 dX12_readsRule_60 ?_
  refine s_bipush (v := (6 : Int32)) E dX12_readsRule_63 (by decide) ?_
  refine s_bipush (v := (8 : Int32)) E dX12_readsRule_65 (by decide) ?_
  refine s_bd (fun v1 hz => ?_)
  refine s_cS (rest := []) E (C_r_in1 (xl x) G (m 76 10) (6 : Int32) (8 : Int32) m hz) mdX12_in1 W1359 W1360 W103 W1361 rfl rfl (Nat.le_of_ble_eq_true rfl) ⟨by decide, by decide⟩ dX12_readsRule_67 ?_
  refine s_if_ne 75 E dX12_readsRule_70 (by decide) ?_ ?_
  · refine s_aload_n 0 E dX12_readsRule_75 rfl rfl ?_
    refine s_getr (k := 15) (T := TX12) 76 E rfl rfl rfl inX12 (by decide) W1254 dX12_readsRule_76 ?_
    refine s_iconst (v := (3 : Int32)) E dX12_readsRule_79 (by decide) ?_
    refine s_iload_n 1 E dX12_readsRule_80 rfl rfl ?_
    refine s_imul E dX12_readsRule_81 ?_
    refine s_iconst (v := (1 : Int32)) E dX12_readsRule_82 (by decide) ?_
    refine s_iadd E dX12_readsRule_83 ?_
    refine s_aload_n 0 E dX12_readsRule_84 rfl rfl ?_
    refine s_geti (k := 10) (T := TX12) 76 E rfl rfl rfl inX12 (by decide) W1249 dX12_readsRule_85 ?_
    refine s_bipush (v := (6 : Int32)) E dX12_readsRule_88 (by decide) ?_
    refine s_isub E dX12_readsRule_90 ?_
    refine s_iast E dX12_readsRule_91 (fun m2 => ?_)
    refine s_aload_n 0 E dX12_readsRule_92 rfl rfl ?_
    refine s_getr (k := 15) (T := TX12) 76 E rfl rfl rfl inX12 (by decide) W1254 dX12_readsRule_93 ?_
    refine s_iconst (v := (3 : Int32)) E dX12_readsRule_96 (by decide) ?_
    refine s_iload_n 1 E dX12_readsRule_97 rfl rfl ?_
    refine s_imul E dX12_readsRule_98 ?_
    refine s_iconst (v := (2 : Int32)) E dX12_readsRule_99 (by decide) ?_
    refine s_iadd E dX12_readsRule_100 ?_
    refine s_aload_n 0 E dX12_readsRule_101 rfl rfl ?_
    refine s_geti (k := 13) (T := TX12) 76 E rfl rfl rfl inX12 (by decide) W1252 dX12_readsRule_102 ?_
    refine s_iast E dX12_readsRule_105 (fun m3 => ?_)
    refine s_aload_n 0 E dX12_readsRule_106 rfl rfl ?_
    refine s_bd (fun m4 hz => ?_)
    refine s_cV (rest := []) E (C_r_next (xl x) G  m3 hz) mdX12_next W1367 W1369 W28 W103 W1370 rfl rfl rfl rfl (Nat.le_of_ble_eq_true rfl) ⟨by decide, by decide⟩ dX12_readsRule_107 ?_
    refine s_aload_n 0 E dX12_readsRule_110 rfl rfl ?_
    refine s_sipush (v := (259 : Int32)) E dX12_readsRule_111 (by decide) ?_
    refine s_bd (fun z5 hz => ?_)
    refine s_cV (rest := []) E (C_r_takes (xl x) G (259 : Int32) m4 hz) mdX12_takes W1391 W1393 W34 W103 W1394 rfl rfl rfl rfl (Nat.le_of_ble_eq_true rfl) ⟨by decide, by decide⟩ dX12_readsRule_114 ?_
    exact s_zretN E rfl dX12_readsRule_117
  · refine s_iconst (v := (0 : Int32)) E dX12_readsRule_73 (by decide) ?_
    exact s_zret E (by decide) rfl dX12_readsRule_74
def r_readsRule (a1 : Int32) (m : M) : Option (Int32 × M) :=
  (if a1 = (8 : Int32) then some ((0 : Int32), m) else Option.bind (r_in1 (m 76 10) (0 : Int32) (5 : Int32) m) (fun v1 => (if v1 = 0 then some ((0 : Int32), m) else Option.bind (wrI m 84 ((3 : Int32) * a1) (m 76 10)) (fun m2 => Option.bind (r_next m2) (fun m3 => lt (wrF m3 76 12 (0 : Int32)) (fun m4 => Option.bind (r_takes (9 : Int32) m4) (fun z5 => (if z5.1 = 0 then r_readsRule_59 a1 z5.2 else Option.bind (r_readsCondition_d 6 z5.2) (fun z6 => (if z6.1 = 0 then some ((0 : Int32), z6.2) else r_readsRule_59 a1 z6.2))))))))))
set_option maxRecDepth 20000 in
theorem t_r_readsRule {G : GG} {x : Cx} (E : En G x cX12_readsRule "WreckBoardModel" 31 (some .boolean)) (hn : xn x = 2) (a1 : Int32) (m : M) : Sm G x 0 [(0, .ref (G.2.1 76)), (1, .int a1)] [] m (r_readsRule a1 m) KWi := by
  unfold r_readsRule
  refine s_iload_n 1 E dX12_readsRule_0 rfl rfl ?_
  refine s_bipush (v := (8 : Int32)) E dX12_readsRule_1 (by decide) ?_
  refine s_icmp_eq 18 E dX12_readsRule_3 (by decide) ?_ ?_
  · refine s_iconst (v := (0 : Int32)) E dX12_readsRule_18 (by decide) ?_
    exact s_zret E (by decide) rfl dX12_readsRule_19
  · refine s_aload_n 0 E dX12_readsRule_6 rfl rfl ?_
    refine s_geti (k := 10) (T := TX12) 76 E rfl rfl rfl inX12 (by decide) W1249 dX12_readsRule_7 ?_
    refine s_iconst (v := (0 : Int32)) E dX12_readsRule_10 (by decide) ?_
    refine s_iconst (v := (5 : Int32)) E dX12_readsRule_11 (by decide) ?_
    refine s_bd (fun v1 hz => ?_)
    refine s_cS (rest := []) E (C_r_in1 (xl x) G (m 76 10) (0 : Int32) (5 : Int32) m hz) mdX12_in1 W1359 W1360 W103 W1361 rfl rfl (Nat.le_of_ble_eq_true rfl) ⟨by decide, by decide⟩ dX12_readsRule_12 ?_
    refine s_if_ne 20 E dX12_readsRule_15 (by decide) ?_ ?_
    · refine s_aload_n 0 E dX12_readsRule_20 rfl rfl ?_
      refine s_getr (k := 15) (T := TX12) 76 E rfl rfl rfl inX12 (by decide) W1254 dX12_readsRule_21 ?_
      refine s_iconst (v := (3 : Int32)) E dX12_readsRule_24 (by decide) ?_
      refine s_iload_n 1 E dX12_readsRule_25 rfl rfl ?_
      refine s_imul E dX12_readsRule_26 ?_
      refine s_aload_n 0 E dX12_readsRule_27 rfl rfl ?_
      refine s_geti (k := 10) (T := TX12) 76 E rfl rfl rfl inX12 (by decide) W1249 dX12_readsRule_28 ?_
      refine s_iast E dX12_readsRule_31 (fun m2 => ?_)
      refine s_aload_n 0 E dX12_readsRule_32 rfl rfl ?_
      refine s_bd (fun m3 hz => ?_)
      refine s_cV (rest := []) E (C_r_next (xl x) G  m2 hz) mdX12_next W1367 W1369 W28 W103 W1370 rfl rfl rfl rfl (Nat.le_of_ble_eq_true rfl) ⟨by decide, by decide⟩ dX12_readsRule_33 ?_
      refine s_aload_n 0 E dX12_readsRule_36 rfl rfl ?_
      refine s_iconst (v := (0 : Int32)) E dX12_readsRule_37 (by decide) ?_
      refine s_put (k := 12) (T := TX12) (ty := .int) 76 E rfl rfl rfl inX12 tyX12 tyX12_ok nmX12 (by decide) W1251 rfl (by decide +kernel) rfl rfl dX12_readsRule_38 ?_
      refine s_ltm rfl (fun m4 => ?_)
      refine s_aload_n 0 E dX12_readsRule_41 rfl rfl ?_
      refine s_bipush (v := (9 : Int32)) E dX12_readsRule_42 (by decide) ?_
      refine s_bd (fun z5 hz => ?_)
      refine s_cV (rest := []) E (C_r_takes (xl x) G (9 : Int32) m4 hz) mdX12_takes W1391 W1393 W34 W103 W1394 rfl rfl rfl rfl (Nat.le_of_ble_eq_true rfl) ⟨by decide, by decide⟩ dX12_readsRule_44 ?_
      refine s_if_eq 59 E dX12_readsRule_47 (by decide) ?_ ?_
      · exact t_r_readsRule_59 E hn a1 z5.2
      · refine s_aload_n 0 E dX12_readsRule_50 rfl rfl ?_
        refine s_bd (fun z6 hz => ?_)
        refine s_cV (rest := []) E (C_r_readsCondition_d (xl x) G 6  z5.2 hz) mdX12_readsCondition W1395 W1397 W35 W103 W1398 rfl rfl rfl rfl (Nat.le_of_ble_eq_true rfl) ⟨by decide, by decide⟩ dX12_readsRule_51 ?_
        refine s_if_ne 59 E dX12_readsRule_54 (by decide) ?_ ?_
        · exact t_r_readsRule_59 E hn a1 z6.2
        · refine s_iconst (v := (0 : Int32)) E dX12_readsRule_57 (by decide) ?_
          exact s_zret E (by decide) rfl dX12_readsRule_58
    · refine s_iconst (v := (0 : Int32)) E dX12_readsRule_18 (by decide) ?_
      exact s_zret E (by decide) rfl dX12_readsRule_19
set_option maxRecDepth 20000 in
theorem C_r_readsRule (l : Launch) (G : GG) (a1 : Int32) (m : M) {z : Int32 × M} (hz : r_readsRule a1 m = some z) : Ct l G yX12_readsRule cX12_readsRule 2 (some .boolean) 31 [.ref (G.2.1 76), .int a1] m (some (.int z.1)) z.2 :=
  ct_of (K := KWi) (by decide) (Nat.le_of_ble_eq_true rfl) (congrArg (fun q => Option.bind q _) hz) (fun x hl hn E => (t_r_readsRule E hn a1 m))
theorem mdX12_readsRule : mdq yX12_readsRule 1 := ⟨by decide, by decide, by decide +kernel⟩
theorem dX12_rules_0 : decode cX12_rules 0 = .ok (.aload_n 0, 1) := by decide +kernel
theorem dX12_rules_1 : decode cX12_rules 1 = .ok (.iconst 0, 1) := by decide +kernel
theorem dX12_rules_2 : decode cX12_rules 2 = .ok (.putfield 131, 3) := by decide +kernel
theorem dX12_rules_5 : decode cX12_rules 5 = .ok (.aload_n 0, 1) := by decide +kernel
theorem dX12_rules_6 : decode cX12_rules 6 = .ok (.iconst 0, 1) := by decide +kernel
theorem dX12_rules_7 : decode cX12_rules 7 = .ok (.putfield 158, 3) := by decide +kernel
theorem dX12_rules_10 : decode cX12_rules 10 = .ok (.iconst 0, 1) := by decide +kernel
theorem dX12_rules_11 : decode cX12_rules 11 = .ok (.istore_n 1, 1) := by decide +kernel
theorem dX12_rules_12 : decode cX12_rules 12 = .ok (.aload_n 0, 1) := by decide +kernel
theorem dX12_rules_13 : decode cX12_rules 13 = .ok (.invokevirtual 155, 3) := by decide +kernel
theorem dX12_rules_16 : decode cX12_rules 16 = .ok (.iconst 1, 1) := by decide +kernel
theorem dX12_rules_17 : decode cX12_rules 17 = .ok (.istore_n 2, 1) := by decide +kernel
theorem dX12_rules_18 : decode cX12_rules 18 = .ok (.iload_n 2, 1) := by decide +kernel
theorem dX12_rules_19 : decode cX12_rules 19 = .ok (.ifCond .eq 23, 3) := by decide +kernel
theorem dX12_rules_22 : decode cX12_rules 22 = .ok (.aload_n 0, 1) := by decide +kernel
theorem dX12_rules_23 : decode cX12_rules 23 = .ok (.getfield 140, 3) := by decide +kernel
theorem dX12_rules_26 : decode cX12_rules 26 = .ok (.iconst (-1), 1) := by decide +kernel
theorem dX12_rules_27 : decode cX12_rules 27 = .ok (.if_icmp .eq 15, 3) := by decide +kernel
theorem dX12_rules_30 : decode cX12_rules 30 = .ok (.aload_n 0, 1) := by decide +kernel
theorem dX12_rules_31 : decode cX12_rules 31 = .ok (.iload_n 1, 1) := by decide +kernel
theorem dX12_rules_32 : decode cX12_rules 32 = .ok (.invokevirtual 192, 3) := by decide +kernel
theorem dX12_rules_35 : decode cX12_rules 35 = .ok (.istore_n 2, 1) := by decide +kernel
theorem dX12_rules_36 : decode cX12_rules 36 = .ok (.iinc 1 1, 3) := by decide +kernel
theorem dX12_rules_39 : decode cX12_rules 39 = .ok (.goto (-21), 3) := by decide +kernel
theorem dX12_rules_42 : decode cX12_rules 42 = .ok (.aload_n 0, 1) := by decide +kernel
theorem dX12_rules_43 : decode cX12_rules 43 = .ok (.iconst 0, 1) := by decide +kernel
theorem dX12_rules_44 : decode cX12_rules 44 = .ok (.putfield 127, 3) := by decide +kernel
theorem dX12_rules_47 : decode cX12_rules 47 = .ok (.iload_n 2, 1) := by decide +kernel
theorem dX12_rules_48 : decode cX12_rules 48 = .ok (.ifCond .ne 11, 3) := by decide +kernel
theorem dX12_rules_51 : decode cX12_rules 51 = .ok (.bipush (-100), 2) := by decide +kernel
theorem dX12_rules_53 : decode cX12_rules 53 = .ok (.aload_n 0, 1) := by decide +kernel
theorem dX12_rules_54 : decode cX12_rules 54 = .ok (.getfield 134, 3) := by decide +kernel
theorem dX12_rules_57 : decode cX12_rules 57 = .ok (.isub, 1) := by decide +kernel
theorem dX12_rules_58 : decode cX12_rules 58 = .ok (.ireturn, 1) := by decide +kernel
theorem dX12_rules_59 : decode cX12_rules 59 = .ok (.aload_n 0, 1) := by decide +kernel
theorem dX12_rules_60 : decode cX12_rules 60 = .ok (.getfield 9, 3) := by decide +kernel
theorem dX12_rules_63 : decode cX12_rules 63 = .ok (.bipush 7, 2) := by decide +kernel
theorem dX12_rules_65 : decode cX12_rules 65 = .ok (.iload_n 1, 1) := by decide +kernel
theorem dX12_rules_66 : decode cX12_rules 66 = .ok (.iastore, 1) := by decide +kernel
theorem dX12_rules_67 : decode cX12_rules 67 = .ok (.iconst 0, 1) := by decide +kernel
theorem dX12_rules_68 : decode cX12_rules 68 = .ok (.istore_n 3, 1) := by decide +kernel
theorem dX12_rules_69 : decode cX12_rules 69 = .ok (.iload_n 3, 1) := by decide +kernel
theorem dX12_rules_70 : decode cX12_rules 70 = .ok (.iconst 3, 1) := by decide +kernel
theorem dX12_rules_71 : decode cX12_rules 71 = .ok (.iload_n 1, 1) := by decide +kernel
theorem dX12_rules_72 : decode cX12_rules 72 = .ok (.imul, 1) := by decide +kernel
theorem dX12_rules_73 : decode cX12_rules 73 = .ok (.if_icmp .ge 24, 3) := by decide +kernel
theorem dX12_rules_76 : decode cX12_rules 76 = .ok (.aload_n 0, 1) := by decide +kernel
theorem dX12_rules_77 : decode cX12_rules 77 = .ok (.getfield 9, 3) := by decide +kernel
theorem dX12_rules_80 : decode cX12_rules 80 = .ok (.bipush 91, 2) := by decide +kernel
theorem dX12_rules_82 : decode cX12_rules 82 = .ok (.iload_n 3, 1) := by decide +kernel
theorem dX12_rules_83 : decode cX12_rules 83 = .ok (.iadd, 1) := by decide +kernel
theorem dX12_rules_84 : decode cX12_rules 84 = .ok (.aload_n 0, 1) := by decide +kernel
theorem dX12_rules_85 : decode cX12_rules 85 = .ok (.getfield 32, 3) := by decide +kernel
theorem dX12_rules_88 : decode cX12_rules 88 = .ok (.iload_n 3, 1) := by decide +kernel
theorem dX12_rules_89 : decode cX12_rules 89 = .ok (.iaload, 1) := by decide +kernel
theorem dX12_rules_90 : decode cX12_rules 90 = .ok (.iastore, 1) := by decide +kernel
theorem dX12_rules_91 : decode cX12_rules 91 = .ok (.iinc 3 1, 3) := by decide +kernel
theorem dX12_rules_94 : decode cX12_rules 94 = .ok (.goto (-25), 3) := by decide +kernel
theorem dX12_rules_97 : decode cX12_rules 97 = .ok (.iconst 0, 1) := by decide +kernel
theorem dX12_rules_98 : decode cX12_rules 98 = .ok (.istore_n 3, 1) := by decide +kernel
theorem dX12_rules_99 : decode cX12_rules 99 = .ok (.iload_n 3, 1) := by decide +kernel
theorem dX12_rules_100 : decode cX12_rules 100 = .ok (.aload_n 0, 1) := by decide +kernel
theorem dX12_rules_101 : decode cX12_rules 101 = .ok (.getfield 158, 3) := by decide +kernel
theorem dX12_rules_104 : decode cX12_rules 104 = .ok (.if_icmp .ge 24, 3) := by decide +kernel
theorem dX12_rules_107 : decode cX12_rules 107 = .ok (.aload_n 0, 1) := by decide +kernel
theorem dX12_rules_108 : decode cX12_rules 108 = .ok (.getfield 9, 3) := by decide +kernel
theorem dX12_rules_111 : decode cX12_rules 111 = .ok (.bipush 115, 2) := by decide +kernel
theorem dX12_rules_113 : decode cX12_rules 113 = .ok (.iload_n 3, 1) := by decide +kernel
theorem dX12_rules_114 : decode cX12_rules 114 = .ok (.iadd, 1) := by decide +kernel
theorem dX12_rules_115 : decode cX12_rules 115 = .ok (.aload_n 0, 1) := by decide +kernel
theorem dX12_rules_116 : decode cX12_rules 116 = .ok (.getfield 29, 3) := by decide +kernel
theorem dX12_rules_119 : decode cX12_rules 119 = .ok (.iload_n 3, 1) := by decide +kernel
theorem dX12_rules_120 : decode cX12_rules 120 = .ok (.iaload, 1) := by decide +kernel
theorem dX12_rules_121 : decode cX12_rules 121 = .ok (.iastore, 1) := by decide +kernel
theorem dX12_rules_122 : decode cX12_rules 122 = .ok (.iinc 3 1, 3) := by decide +kernel
theorem dX12_rules_125 : decode cX12_rules 125 = .ok (.goto (-26), 3) := by decide +kernel
theorem dX12_rules_128 : decode cX12_rules 128 = .ok (.iload_n 1, 1) := by decide +kernel
theorem dX12_rules_129 : decode cX12_rules 129 = .ok (.ireturn, 1) := by decide +kernel
def r_rules_18b (a1 : Int32) (a2 : Int32) (m : M) : Option ((Int32 × Int32 × M) ⊕ ((Int32 × Int32 × M))) :=
  (if a2 = 0 then some (.inr (a1, a2, m)) else (if (m 76 10) = (-1 : Int32) then some (.inr (a1, a2, m)) else Option.bind (r_readsRule a1 m) (fun z1 => lt (a1 + (1 : Int32)) (fun w2 : Int32 => some (.inl (w2, z1.1, z1.2))))))
set_option maxRecDepth 20000 in
theorem t_r_rules_18b {G : GG} {x : Cx} {K : ((Int32 × Int32 × M) ⊕ ((Int32 × Int32 × M))) → Option (Option Value × M)} (E : En G x cX12_rules "WreckBoardModel" 32 (some .int)) (hn : xn x = 4) (a1 : Int32) (a2 : Int32) (m : M) (hb : ∀ z : Int32 × Int32 × M, Sm G x 18 [(0, .ref (G.2.1 76)), (1, .int z.1), (2, .int z.2.1)] [] z.2.2 (some (.inl z)) K) (hx0 : ∀ z : Int32 × Int32 × M, Sm G x 42 [(0, .ref (G.2.1 76)), (1, .int z.1), (2, .int z.2.1)] [] z.2.2 (some (.inr z)) K) : Sm G x 18 [(0, .ref (G.2.1 76)), (1, .int a1), (2, .int a2)] [] m (r_rules_18b a1 a2 m) K := by
  unfold r_rules_18b
  refine s_iload_n 2 E dX12_rules_18 rfl rfl ?_
  refine s_if_eq 42 E dX12_rules_19 (by decide) ?_ ?_
  · exact hx0 (a1, a2, m)
  · refine s_aload_n 0 E dX12_rules_22 rfl rfl ?_
    refine s_geti (k := 10) (T := TX12) 76 E rfl rfl rfl inX12 (by decide) W1249 dX12_rules_23 ?_
    refine s_iconst (v := (-1 : Int32)) E dX12_rules_26 (by decide) ?_
    refine s_icmp_eq 42 E dX12_rules_27 (by decide) ?_ ?_
    · exact hx0 (a1, a2, m)
    · refine s_aload_n 0 E dX12_rules_30 rfl rfl ?_
      refine s_iload_n 1 E dX12_rules_31 rfl rfl ?_
      refine s_bd (fun z1 hz => ?_)
      refine s_cV (rest := []) E (C_r_readsRule (xl x) G a1 m hz) mdX12_readsRule W1387 W1389 W33 W103 W1390 rfl rfl rfl rfl (Nat.le_of_ble_eq_true rfl) ⟨by decide, by decide⟩ dX12_rules_32 ?_
      refine s_istore_n (lv' := [(0, .ref (G.2.1 76)), (1, .int a1), (2, .int z1.1)]) [1, 2, 0] E dX12_rules_35 rfl (by rw [hn]; decide) rfl ?_
      refine s_iincL (v := (1 : Int32)) 1 [1, 0, 2] (fun w2 => [(0, .ref (G.2.1 76)), (1, .int w2), (2, .int z1.1)]) E dX12_rules_36 rfl (by decide) (by rw [hn]; decide) (fun _ => rfl) (fun w2 => ?_)
      refine s_goto 18 E dX12_rules_39 (by decide) ?_
      exact hb (w2, z1.1, z1.2)
def r_rules_69b (a1 : Int32) (a3 : Int32) (m : M) : Option ((Int32 × M) ⊕ ((M))) :=
  (if ((3 : Int32) * a1) ≤ a3 then some (.inr m) else Option.bind (rdI m 84 a3) (fun v1 => Option.bind (wrI m 77 ((91 : Int32) + a3) v1) (fun m2 => lt (a3 + (1 : Int32)) (fun w3 : Int32 => some (.inl (w3, m2))))))
set_option maxRecDepth 20000 in
theorem t_r_rules_69b {G : GG} {x : Cx} {K : ((Int32 × M) ⊕ ((M))) → Option (Option Value × M)} (E : En G x cX12_rules "WreckBoardModel" 32 (some .int)) (hn : xn x = 4) (a1 : Int32) (a3 : Int32) (m : M) (hb : ∀ z : Int32 × M, Sm G x 69 [(0, .ref (G.2.1 76)), (1, .int a1), (3, .int z.1)] [] z.2 (some (.inl z)) K) (hx0 : ∀ z : M, Sm G x 97 [(0, .ref (G.2.1 76)), (1, .int a1)] [] z (some (.inr z)) K) : Sm G x 69 [(0, .ref (G.2.1 76)), (1, .int a1), (3, .int a3)] [] m (r_rules_69b a1 a3 m) K := by
  unfold r_rules_69b
  refine s_iload_n 2 E dX12_rules_69 rfl rfl ?_
  refine s_iconst (v := (3 : Int32)) E dX12_rules_70 (by decide) ?_
  refine s_iload_n 1 E dX12_rules_71 rfl rfl ?_
  refine s_imul E dX12_rules_72 ?_
  refine s_icmp_ge 97 E dX12_rules_73 (by decide) ?_ ?_
  · refine s_sub (lv' := [(0, .ref (G.2.1 76)), (1, .int a1)]) [0, 1] rfl ?_
    exact hx0 m
  · refine s_aload_n 0 E dX12_rules_76 rfl rfl ?_
    refine s_getr (k := 0) (T := TX12) 76 E rfl rfl rfl inX12 (by decide) W1239 dX12_rules_77 ?_
    refine s_bipush (v := (91 : Int32)) E dX12_rules_80 (by decide) ?_
    refine s_iload_n 2 E dX12_rules_82 rfl rfl ?_
    refine s_iadd E dX12_rules_83 ?_
    refine s_aload_n 0 E dX12_rules_84 rfl rfl ?_
    refine s_getr (k := 15) (T := TX12) 76 E rfl rfl rfl inX12 (by decide) W1254 dX12_rules_85 ?_
    refine s_iload_n 2 E dX12_rules_88 rfl rfl ?_
    refine s_iald E dX12_rules_89 (fun v1 => ?_)
    refine s_iast E dX12_rules_90 (fun m2 => ?_)
    refine s_iincL (v := (1 : Int32)) 2 [1, 2, 0] (fun w3 => [(0, .ref (G.2.1 76)), (1, .int a1), (3, .int w3)]) E dX12_rules_91 rfl (by decide) (by rw [hn]; decide) (fun _ => rfl) (fun w3 => ?_)
    refine s_goto 69 E dX12_rules_94 (by decide) ?_
    exact hb (w3, m2)
def r_rules_99b (a1 : Int32) (a3 : Int32) (m : M) : Option ((Int32 × M) ⊕ ((M))) :=
  (if (m 76 13) ≤ a3 then some (.inr m) else Option.bind (rdI m 83 a3) (fun v1 => Option.bind (wrI m 77 ((115 : Int32) + a3) v1) (fun m2 => lt (a3 + (1 : Int32)) (fun w3 : Int32 => some (.inl (w3, m2))))))
set_option maxRecDepth 20000 in
theorem t_r_rules_99b {G : GG} {x : Cx} {K : ((Int32 × M) ⊕ ((M))) → Option (Option Value × M)} (E : En G x cX12_rules "WreckBoardModel" 32 (some .int)) (hn : xn x = 4) (a1 : Int32) (a3 : Int32) (m : M) (hb : ∀ z : Int32 × M, Sm G x 99 [(0, .ref (G.2.1 76)), (1, .int a1), (3, .int z.1)] [] z.2 (some (.inl z)) K) (hx0 : ∀ z : M, Sm G x 128 [(1, .int a1)] [] z (some (.inr z)) K) : Sm G x 99 [(0, .ref (G.2.1 76)), (1, .int a1), (3, .int a3)] [] m (r_rules_99b a1 a3 m) K := by
  unfold r_rules_99b
  refine s_iload_n 2 E dX12_rules_99 rfl rfl ?_
  refine s_aload_n 0 E dX12_rules_100 rfl rfl ?_
  refine s_geti (k := 13) (T := TX12) 76 E rfl rfl rfl inX12 (by decide) W1252 dX12_rules_101 ?_
  refine s_icmp_ge 128 E dX12_rules_104 (by decide) ?_ ?_
  · refine s_sub (lv' := [(1, .int a1)]) [1] rfl ?_
    exact hx0 m
  · refine s_aload_n 0 E dX12_rules_107 rfl rfl ?_
    refine s_getr (k := 0) (T := TX12) 76 E rfl rfl rfl inX12 (by decide) W1239 dX12_rules_108 ?_
    refine s_bipush (v := (115 : Int32)) E dX12_rules_111 (by decide) ?_
    refine s_iload_n 2 E dX12_rules_113 rfl rfl ?_
    refine s_iadd E dX12_rules_114 ?_
    refine s_aload_n 0 E dX12_rules_115 rfl rfl ?_
    refine s_getr (k := 14) (T := TX12) 76 E rfl rfl rfl inX12 (by decide) W1253 dX12_rules_116 ?_
    refine s_iload_n 2 E dX12_rules_119 rfl rfl ?_
    refine s_iald E dX12_rules_120 (fun v1 => ?_)
    refine s_iast E dX12_rules_121 (fun m2 => ?_)
    refine s_iincL (v := (1 : Int32)) 2 [1, 2, 0] (fun w3 => [(0, .ref (G.2.1 76)), (1, .int a1), (3, .int w3)]) E dX12_rules_122 rfl (by decide) (by rw [hn]; decide) (fun _ => rfl) (fun w3 => ?_)
    refine s_goto 99 E dX12_rules_125 (by decide) ?_
    exact hb (w3, m2)
def r_rules_99 (a1 : Int32) (a3 : Int32) (m : M) : Option (Int32 × M) :=
  Option.bind (iter (fun z => r_rules_99b a1 z.1 z.2) FU (a3, m)) (fun r => some (a1, r))
set_option maxRecDepth 20000 in
theorem t_r_rules_99 {G : GG} {x : Cx} (E : En G x cX12_rules "WreckBoardModel" 32 (some .int)) (hn : xn x = 4) (a1 : Int32) (a3 : Int32) (m : M) : Sm G x 99 [(0, .ref (G.2.1 76)), (1, .int a1), (3, .int a3)] [] m (r_rules_99 a1 a3 m) KWi := by
  unfold r_rules_99
  refine s_loop (fun z => [(0, .ref (G.2.1 76)), (1, .int a1), (3, .int z.1)]) (fun z => z.2) (fun K2 hb2 hr2 z => ?_) FU (a3, m)
  refine t_r_rules_99b (K := K2) E hn a1 z.1 z.2 hb2 (fun r => s_out (hr2 r) ?_)
  · refine s_iload_n 0 E dX12_rules_128 rfl rfl ?_
    exact s_iret E rfl dX12_rules_129
def r_rules_69 (a1 : Int32) (a3 : Int32) (m : M) : Option (Int32 × M) :=
  Option.bind (iter (fun z => r_rules_69b a1 z.1 z.2) FU (a3, m)) (fun r => r_rules_99 a1 (0 : Int32) r)
set_option maxRecDepth 20000 in
theorem t_r_rules_69 {G : GG} {x : Cx} (E : En G x cX12_rules "WreckBoardModel" 32 (some .int)) (hn : xn x = 4) (a1 : Int32) (a3 : Int32) (m : M) : Sm G x 69 [(0, .ref (G.2.1 76)), (1, .int a1), (3, .int a3)] [] m (r_rules_69 a1 a3 m) KWi := by
  unfold r_rules_69
  refine s_loop (fun z => [(0, .ref (G.2.1 76)), (1, .int a1), (3, .int z.1)]) (fun z => z.2) (fun K2 hb2 hr2 z => ?_) FU (a3, m)
  refine t_r_rules_69b (K := K2) E hn a1 z.1 z.2 hb2 (fun r => s_out (hr2 r) ?_)
  · refine s_iconst (v := (0 : Int32)) E dX12_rules_97 (by decide) ?_
    refine s_istore_n (lv' := [(0, .ref (G.2.1 76)), (1, .int a1), (3, .int (0 : Int32))]) [1, 2, 0] E dX12_rules_98 rfl (by rw [hn]; decide) rfl ?_
    exact t_r_rules_99 E hn a1 (0 : Int32) r
def r_rules_42 (a1 : Int32) (a2 : Int32) (m : M) : Option (Int32 × M) :=
  lt (wrF m 76 6 (0 : Int32)) (fun m1 => (if a2 = 0 then some (((-100 : Int32) - (m1 76 9)), m1) else Option.bind (wrI m1 77 (7 : Int32) a1) (fun m2 => r_rules_69 a1 (0 : Int32) m2)))
set_option maxRecDepth 20000 in
theorem t_r_rules_42 {G : GG} {x : Cx} (E : En G x cX12_rules "WreckBoardModel" 32 (some .int)) (hn : xn x = 4) (a1 : Int32) (a2 : Int32) (m : M) : Sm G x 42 [(0, .ref (G.2.1 76)), (1, .int a1), (2, .int a2)] [] m (r_rules_42 a1 a2 m) KWi := by
  unfold r_rules_42
  refine s_aload_n 0 E dX12_rules_42 rfl rfl ?_
  refine s_iconst (v := (0 : Int32)) E dX12_rules_43 (by decide) ?_
  refine s_put (k := 6) (T := TX12) (ty := .int) 76 E rfl rfl rfl inX12 tyX12 tyX12_ok nmX12 (by decide) W1245 rfl (by decide +kernel) rfl rfl dX12_rules_44 ?_
  refine s_ltm rfl (fun m1 => ?_)
  refine s_iload_n 2 E dX12_rules_47 rfl rfl ?_
  refine s_if_ne 59 E dX12_rules_48 (by decide) ?_ ?_
  · refine s_aload_n 0 E dX12_rules_59 rfl rfl ?_
    refine s_getr (k := 0) (T := TX12) 76 E rfl rfl rfl inX12 (by decide) W1239 dX12_rules_60 ?_
    refine s_bipush (v := (7 : Int32)) E dX12_rules_63 (by decide) ?_
    refine s_iload_n 1 E dX12_rules_65 rfl rfl ?_
    refine s_iast E dX12_rules_66 (fun m2 => ?_)
    refine s_iconst (v := (0 : Int32)) E dX12_rules_67 (by decide) ?_
    refine s_istore_n (lv' := [(0, .ref (G.2.1 76)), (1, .int a1), (3, .int (0 : Int32))]) [1, 2, 0] E dX12_rules_68 rfl (by rw [hn]; decide) rfl ?_
    exact t_r_rules_69 E hn a1 (0 : Int32) m2
  · refine s_bipush (v := (-100 : Int32)) E dX12_rules_51 (by decide) ?_
    refine s_aload_n 0 E dX12_rules_53 rfl rfl ?_
    refine s_geti (k := 9) (T := TX12) 76 E rfl rfl rfl inX12 (by decide) W1248 dX12_rules_54 ?_
    refine s_isub E dX12_rules_57 ?_
    exact s_iret E rfl dX12_rules_58
def r_rules_18 (a1 : Int32) (a2 : Int32) (m : M) : Option (Int32 × M) :=
  Option.bind (iter (fun z => r_rules_18b z.1 z.2.1 z.2.2) FU (a1, a2, m)) (fun r => r_rules_42 r.1 r.2.1 r.2.2)
set_option maxRecDepth 20000 in
theorem t_r_rules_18 {G : GG} {x : Cx} (E : En G x cX12_rules "WreckBoardModel" 32 (some .int)) (hn : xn x = 4) (a1 : Int32) (a2 : Int32) (m : M) : Sm G x 18 [(0, .ref (G.2.1 76)), (1, .int a1), (2, .int a2)] [] m (r_rules_18 a1 a2 m) KWi := by
  unfold r_rules_18
  refine s_loop (fun z => [(0, .ref (G.2.1 76)), (1, .int z.1), (2, .int z.2.1)]) (fun z => z.2.2) (fun K2 hb2 hr2 z => ?_) FU (a1, a2, m)
  refine t_r_rules_18b (K := K2) E hn z.1 z.2.1 z.2.2 hb2 (fun r => s_out (hr2 r) ?_)
  · exact t_r_rules_42 E hn r.1 r.2.1 r.2.2
def r_rules  (m : M) : Option (Int32 × M) :=
  lt (wrF m 76 8 (0 : Int32)) (fun m1 => lt (wrF m1 76 13 (0 : Int32)) (fun m2 => Option.bind (r_next m2) (fun m3 => r_rules_18 (0 : Int32) (1 : Int32) m3)))
set_option maxRecDepth 20000 in
theorem t_r_rules {G : GG} {x : Cx} (E : En G x cX12_rules "WreckBoardModel" 32 (some .int)) (hn : xn x = 4)  (m : M) : Sm G x 0 [(0, .ref (G.2.1 76))] [] m (r_rules m) KWi := by
  unfold r_rules
  refine s_aload_n 0 E dX12_rules_0 rfl rfl ?_
  refine s_iconst (v := (0 : Int32)) E dX12_rules_1 (by decide) ?_
  refine s_put (k := 8) (T := TX12) (ty := .int) 76 E rfl rfl rfl inX12 tyX12 tyX12_ok nmX12 (by decide) W1247 rfl (by decide +kernel) rfl rfl dX12_rules_2 ?_
  refine s_ltm rfl (fun m1 => ?_)
  refine s_aload_n 0 E dX12_rules_5 rfl rfl ?_
  refine s_iconst (v := (0 : Int32)) E dX12_rules_6 (by decide) ?_
  refine s_put (k := 13) (T := TX12) (ty := .int) 76 E rfl rfl rfl inX12 tyX12 tyX12_ok nmX12 (by decide) W1252 rfl (by decide +kernel) rfl rfl dX12_rules_7 ?_
  refine s_ltm rfl (fun m2 => ?_)
  refine s_iconst (v := (0 : Int32)) E dX12_rules_10 (by decide) ?_
  refine s_istore_n (lv' := [(0, .ref (G.2.1 76)), (1, .int (0 : Int32))]) [1, 0] E dX12_rules_11 rfl (by rw [hn]; decide) rfl ?_
  refine s_aload_n 0 E dX12_rules_12 rfl rfl ?_
  refine s_bd (fun m3 hz => ?_)
  refine s_cV (rest := []) E (C_r_next (xl x) G  m2 hz) mdX12_next W1367 W1369 W28 W103 W1370 rfl rfl rfl rfl (Nat.le_of_ble_eq_true rfl) ⟨by decide, by decide⟩ dX12_rules_13 ?_
  refine s_iconst (v := (1 : Int32)) E dX12_rules_16 (by decide) ?_
  refine s_istore_n (lv' := [(0, .ref (G.2.1 76)), (1, .int (0 : Int32)), (2, .int (1 : Int32))]) [1, 2, 0] E dX12_rules_17 rfl (by rw [hn]; decide) rfl ?_
  exact t_r_rules_18 E hn (0 : Int32) (1 : Int32) m3
set_option maxRecDepth 20000 in
theorem C_r_rules (l : Launch) (G : GG)  (m : M) {z : Int32 × M} (hz : r_rules m = some z) : Ct l G yX12_rules cX12_rules 4 (some .int) 32 [.ref (G.2.1 76)] m (some (.int z.1)) z.2 :=
  ct_of (K := KWi) (by decide) (Nat.le_of_ble_eq_true rfl) (congrArg (fun q => Option.bind q _) hz) (fun x hl hn E => (t_r_rules E hn  m))
theorem dX12_isDigit_0 : decode cX12_isDigit 0 = .ok (.iload_n 0, 1) := by decide +kernel
theorem dX12_isDigit_1 : decode cX12_isDigit 1 = .ok (.iconst 0, 1) := by decide +kernel
theorem dX12_isDigit_2 : decode cX12_isDigit 2 = .ok (.bipush 9, 2) := by decide +kernel
theorem dX12_isDigit_4 : decode cX12_isDigit 4 = .ok (.invokestatic 71, 3) := by decide +kernel
theorem dX12_isDigit_7 : decode cX12_isDigit 7 = .ok (.ireturn, 1) := by decide +kernel
def r_isDigit (a0 : Int32) (m : M) : Option (Int32) :=
  Option.bind (r_in1 a0 (0 : Int32) (9 : Int32) m) (fun v1 => some (v1 &&& 1))
set_option maxRecDepth 20000 in
theorem t_r_isDigit {G : GG} {x : Cx} (E : En G x cX12_isDigit "WreckBoardModel" 2 (some .boolean)) (hn : xn x = 1) (a0 : Int32) (m : M) : Sm G x 0 [(0, .int a0)] [] m (r_isDigit a0 m) (KRi m) := by
  unfold r_isDigit
  refine s_iload_n 0 E dX12_isDigit_0 rfl rfl ?_
  refine s_iconst (v := (0 : Int32)) E dX12_isDigit_1 (by decide) ?_
  refine s_bipush (v := (9 : Int32)) E dX12_isDigit_2 (by decide) ?_
  refine s_bd (fun v1 hz => ?_)
  refine s_cS (rest := []) E (C_r_in1 (xl x) G a0 (0 : Int32) (9 : Int32) m hz) mdX12_in1 W1359 W1360 W103 W1361 rfl rfl (Nat.le_of_ble_eq_true rfl) ⟨by decide, by decide⟩ dX12_isDigit_4 ?_
  exact s_zretN E rfl dX12_isDigit_7
set_option maxRecDepth 20000 in
theorem C_r_isDigit (l : Launch) (G : GG) (a0 : Int32) (m : M) {z : Int32} (hz : r_isDigit a0 m = some z) : Ct l G yX12_isDigit cX12_isDigit 1 (some .boolean) 2 [.int a0] m (some (.int z)) m :=
  ct_of (K := (KRi m)) (by decide) (Nat.le_of_ble_eq_true rfl) (congrArg (fun q => Option.bind q _) hz) (fun x hl hn E => (t_r_isDigit E hn a0 m))
theorem mdX12_isDigit : mdq yX12_isDigit 1 := ⟨by decide, by decide, by decide +kernel⟩
theorem dX12_isBench_0 : decode cX12_isBench 0 = .ok (.iload_n 0, 1) := by decide +kernel
theorem dX12_isBench_1 : decode cX12_isBench 1 = .ok (.iconst 0, 1) := by decide +kernel
theorem dX12_isBench_2 : decode cX12_isBench 2 = .ok (.iconst 5, 1) := by decide +kernel
theorem dX12_isBench_3 : decode cX12_isBench 3 = .ok (.invokestatic 71, 3) := by decide +kernel
theorem dX12_isBench_6 : decode cX12_isBench 6 = .ok (.ireturn, 1) := by decide +kernel
def r_isBench (a0 : Int32) (m : M) : Option (Int32) :=
  Option.bind (r_in1 a0 (0 : Int32) (5 : Int32) m) (fun v1 => some (v1 &&& 1))
set_option maxRecDepth 20000 in
theorem t_r_isBench {G : GG} {x : Cx} (E : En G x cX12_isBench "WreckBoardModel" 2 (some .boolean)) (hn : xn x = 1) (a0 : Int32) (m : M) : Sm G x 0 [(0, .int a0)] [] m (r_isBench a0 m) (KRi m) := by
  unfold r_isBench
  refine s_iload_n 0 E dX12_isBench_0 rfl rfl ?_
  refine s_iconst (v := (0 : Int32)) E dX12_isBench_1 (by decide) ?_
  refine s_iconst (v := (5 : Int32)) E dX12_isBench_2 (by decide) ?_
  refine s_bd (fun v1 hz => ?_)
  refine s_cS (rest := []) E (C_r_in1 (xl x) G a0 (0 : Int32) (5 : Int32) m hz) mdX12_in1 W1359 W1360 W103 W1361 rfl rfl (Nat.le_of_ble_eq_true rfl) ⟨by decide, by decide⟩ dX12_isBench_3 ?_
  exact s_zretN E rfl dX12_isBench_6
set_option maxRecDepth 20000 in
theorem C_r_isBench (l : Launch) (G : GG) (a0 : Int32) (m : M) {z : Int32} (hz : r_isBench a0 m = some z) : Ct l G yX12_isBench cX12_isBench 1 (some .boolean) 2 [.int a0] m (some (.int z)) m :=
  ct_of (K := (KRi m)) (by decide) (Nat.le_of_ble_eq_true rfl) (congrArg (fun q => Option.bind q _) hz) (fun x hl hn E => (t_r_isBench E hn a0 m))
theorem mdX12_isBench : mdq yX12_isBench 1 := ⟨by decide, by decide, by decide +kernel⟩
theorem dX12_puts_0 : decode cX12_puts 0 = .ok (.aload_n 0, 1) := by decide +kernel
theorem dX12_puts_1 : decode cX12_puts 1 = .ok (.getfield 9, 3) := by decide +kernel
theorem dX12_puts_4 : decode cX12_puts 4 = .ok (.bipush 37, 2) := by decide +kernel
theorem dX12_puts_6 : decode cX12_puts 6 = .ok (.iconst 5, 1) := by decide +kernel
theorem dX12_puts_7 : decode cX12_puts 7 = .ok (.iload_n 1, 1) := by decide +kernel
theorem dX12_puts_8 : decode cX12_puts 8 = .ok (.imul, 1) := by decide +kernel
theorem dX12_puts_9 : decode cX12_puts 9 = .ok (.iadd, 1) := by decide +kernel
theorem dX12_puts_10 : decode cX12_puts 10 = .ok (.iload_n 2, 1) := by decide +kernel
theorem dX12_puts_11 : decode cX12_puts 11 = .ok (.iadd, 1) := by decide +kernel
theorem dX12_puts_12 : decode cX12_puts 12 = .ok (.iload_n 3, 1) := by decide +kernel
theorem dX12_puts_13 : decode cX12_puts 13 = .ok (.iastore, 1) := by decide +kernel
theorem dX12_puts_14 : decode cX12_puts 14 = .ok (.return_, 1) := by decide +kernel
def r_puts (a1 : Int32) (a2 : Int32) (a3 : Int32) (m : M) : Option (M) :=
  Option.bind (wrI m 77 (((37 : Int32) + ((5 : Int32) * a1)) + a2) a3) (fun m1 => some m1)
set_option maxRecDepth 20000 in
theorem t_r_puts {G : GG} {x : Cx} (E : En G x cX12_puts "WreckBoardModel" 1 none) (hn : xn x = 4) (a1 : Int32) (a2 : Int32) (a3 : Int32) (m : M) : Sm G x 0 [(0, .ref (G.2.1 76)), (1, .int a1), (2, .int a2), (3, .int a3)] [] m (r_puts a1 a2 a3 m) KWv := by
  unfold r_puts
  refine s_aload_n 0 E dX12_puts_0 rfl rfl ?_
  refine s_getr (k := 0) (T := TX12) 76 E rfl rfl rfl inX12 (by decide) W1239 dX12_puts_1 ?_
  refine s_bipush (v := (37 : Int32)) E dX12_puts_4 (by decide) ?_
  refine s_iconst (v := (5 : Int32)) E dX12_puts_6 (by decide) ?_
  refine s_iload_n 1 E dX12_puts_7 rfl rfl ?_
  refine s_imul E dX12_puts_8 ?_
  refine s_iadd E dX12_puts_9 ?_
  refine s_iload_n 2 E dX12_puts_10 rfl rfl ?_
  refine s_iadd E dX12_puts_11 ?_
  refine s_iload_n 3 E dX12_puts_12 rfl rfl ?_
  refine s_iast E dX12_puts_13 (fun m1 => ?_)
  exact s_vret E rfl dX12_puts_14
set_option maxRecDepth 20000 in
theorem C_r_puts (l : Launch) (G : GG) (a1 : Int32) (a2 : Int32) (a3 : Int32) (m : M) {z : M} (hz : r_puts a1 a2 a3 m = some z) : Ct l G yX12_puts cX12_puts 4 none 1 [.ref (G.2.1 76), .int a1, .int a2, .int a3] m none z :=
  ct_of (K := KWv) (by decide) (Nat.le_of_ble_eq_true rfl) (congrArg (fun q => Option.bind q _) hz) (fun x hl hn E => (t_r_puts E hn a1 a2 a3 m))
theorem mdX12_puts : mdq yX12_puts 3 := ⟨by decide, by decide, by decide +kernel⟩
theorem dX12_member_0 : decode cX12_member 0 = .ok (.iload_n 1, 1) := by decide +kernel
theorem dX12_member_1 : decode cX12_member 1 = .ok (.iconst 1, 1) := by decide +kernel
theorem dX12_member_2 : decode cX12_member 2 = .ok (.iconst 5, 1) := by decide +kernel
theorem dX12_member_3 : decode cX12_member 3 = .ok (.invokestatic 71, 3) := by decide +kernel
theorem dX12_member_6 : decode cX12_member 6 = .ok (.ifCond .eq 25, 3) := by decide +kernel
theorem dX12_member_9 : decode cX12_member 9 = .ok (.iload_n 2, 1) := by decide +kernel
theorem dX12_member_10 : decode cX12_member 10 = .ok (.invokestatic 220, 3) := by decide +kernel
theorem dX12_member_13 : decode cX12_member 13 = .ok (.ifCond .eq 18, 3) := by decide +kernel
theorem dX12_member_16 : decode cX12_member 16 = .ok (.iload_n 3, 1) := by decide +kernel
theorem dX12_member_17 : decode cX12_member 17 = .ok (.invokestatic 220, 3) := by decide +kernel
theorem dX12_member_20 : decode cX12_member 20 = .ok (.ifCond .eq 11, 3) := by decide +kernel
theorem dX12_member_23 : decode cX12_member 23 = .ok (.iload 4, 2) := by decide +kernel
theorem dX12_member_25 : decode cX12_member 25 = .ok (.invokestatic 223, 3) := by decide +kernel
theorem dX12_member_28 : decode cX12_member 28 = .ok (.ifCond .ne 5, 3) := by decide +kernel
theorem dX12_member_31 : decode cX12_member 31 = .ok (.iconst (-1), 1) := by decide +kernel
theorem dX12_member_32 : decode cX12_member 32 = .ok (.ireturn, 1) := by decide +kernel
theorem dX12_member_33 : decode cX12_member 33 = .ok (.aload_n 0, 1) := by decide +kernel
theorem dX12_member_34 : decode cX12_member 34 = .ok (.getfield 9, 3) := by decide +kernel
theorem dX12_member_37 : decode cX12_member 37 = .ok (.bipush 6, 2) := by decide +kernel
theorem dX12_member_39 : decode cX12_member 39 = .ok (.iaload, 1) := by decide +kernel
theorem dX12_member_40 : decode cX12_member 40 = .ok (.bipush 6, 2) := by decide +kernel
theorem dX12_member_42 : decode cX12_member 42 = .ok (.if_icmp .ne 6, 3) := by decide +kernel
theorem dX12_member_45 : decode cX12_member 45 = .ok (.bipush (-2), 2) := by decide +kernel
theorem dX12_member_47 : decode cX12_member 47 = .ok (.ireturn, 1) := by decide +kernel
theorem dX12_member_48 : decode cX12_member 48 = .ok (.aload_n 0, 1) := by decide +kernel
theorem dX12_member_49 : decode cX12_member 49 = .ok (.getfield 9, 3) := by decide +kernel
theorem dX12_member_52 : decode cX12_member 52 = .ok (.bipush 6, 2) := by decide +kernel
theorem dX12_member_54 : decode cX12_member 54 = .ok (.iaload, 1) := by decide +kernel
theorem dX12_member_55 : decode cX12_member 55 = .ok (.istore 5, 2) := by decide +kernel
theorem dX12_member_57 : decode cX12_member 57 = .ok (.aload_n 0, 1) := by decide +kernel
theorem dX12_member_58 : decode cX12_member 58 = .ok (.iload 5, 2) := by decide +kernel
theorem dX12_member_60 : decode cX12_member 60 = .ok (.iconst 0, 1) := by decide +kernel
theorem dX12_member_61 : decode cX12_member 61 = .ok (.iload_n 1, 1) := by decide +kernel
theorem dX12_member_62 : decode cX12_member 62 = .ok (.invokevirtual 198, 3) := by decide +kernel
theorem dX12_member_65 : decode cX12_member 65 = .ok (.aload_n 0, 1) := by decide +kernel
theorem dX12_member_66 : decode cX12_member 66 = .ok (.iload 5, 2) := by decide +kernel
theorem dX12_member_68 : decode cX12_member 68 = .ok (.iconst 1, 1) := by decide +kernel
theorem dX12_member_69 : decode cX12_member 69 = .ok (.iload_n 2, 1) := by decide +kernel
theorem dX12_member_70 : decode cX12_member 70 = .ok (.invokevirtual 198, 3) := by decide +kernel
theorem dX12_member_73 : decode cX12_member 73 = .ok (.aload_n 0, 1) := by decide +kernel
theorem dX12_member_74 : decode cX12_member 74 = .ok (.iload 5, 2) := by decide +kernel
theorem dX12_member_76 : decode cX12_member 76 = .ok (.iconst 2, 1) := by decide +kernel
theorem dX12_member_77 : decode cX12_member 77 = .ok (.iload_n 3, 1) := by decide +kernel
theorem dX12_member_78 : decode cX12_member 78 = .ok (.invokevirtual 198, 3) := by decide +kernel
theorem dX12_member_81 : decode cX12_member 81 = .ok (.aload_n 0, 1) := by decide +kernel
theorem dX12_member_82 : decode cX12_member 82 = .ok (.iload 5, 2) := by decide +kernel
theorem dX12_member_84 : decode cX12_member 84 = .ok (.iconst 3, 1) := by decide +kernel
theorem dX12_member_85 : decode cX12_member 85 = .ok (.iload 4, 2) := by decide +kernel
theorem dX12_member_87 : decode cX12_member 87 = .ok (.invokevirtual 198, 3) := by decide +kernel
theorem dX12_member_90 : decode cX12_member 90 = .ok (.aload_n 0, 1) := by decide +kernel
theorem dX12_member_91 : decode cX12_member 91 = .ok (.iload 5, 2) := by decide +kernel
theorem dX12_member_93 : decode cX12_member 93 = .ok (.iconst 4, 1) := by decide +kernel
theorem dX12_member_94 : decode cX12_member 94 = .ok (.iconst 0, 1) := by decide +kernel
theorem dX12_member_95 : decode cX12_member 95 = .ok (.invokevirtual 198, 3) := by decide +kernel
theorem dX12_member_98 : decode cX12_member 98 = .ok (.aload_n 0, 1) := by decide +kernel
theorem dX12_member_99 : decode cX12_member 99 = .ok (.getfield 9, 3) := by decide +kernel
theorem dX12_member_102 : decode cX12_member 102 = .ok (.bipush 6, 2) := by decide +kernel
theorem dX12_member_104 : decode cX12_member 104 = .ok (.dup2, 1) := by decide +kernel
theorem dX12_member_105 : decode cX12_member 105 = .ok (.iaload, 1) := by decide +kernel
theorem dX12_member_106 : decode cX12_member 106 = .ok (.iconst 1, 1) := by decide +kernel
theorem dX12_member_107 : decode cX12_member 107 = .ok (.iadd, 1) := by decide +kernel
theorem dX12_member_108 : decode cX12_member 108 = .ok (.iastore, 1) := by decide +kernel
theorem dX12_member_109 : decode cX12_member 109 = .ok (.iload 5, 2) := by decide +kernel
theorem dX12_member_111 : decode cX12_member 111 = .ok (.ireturn, 1) := by decide +kernel
