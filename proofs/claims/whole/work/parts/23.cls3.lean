def b_moment_34b (a1 : Int64) (a3 : Int32) (m : M) : Option ((Int64 × Int32) ⊕ ((Int64))) :=
  (if (6 : Int32) ≤ a3 then some (.inr a1) else Option.bind (rdI m 11 a3) (fun v1 => lt (a1 ||| ((Int32.toInt64 v1) <<< (Int32.toInt64 ((25 : Int32) + ((4 : Int32) * a3)) &&& 63))) (fun w2 : Int64 => lt (a3 + (1 : Int32)) (fun w3 : Int32 => some (.inl (w2, w3))))))
set_option maxRecDepth 20000 in
theorem t_b_moment_34b {G : GG} {x : Cx} {K : ((Int64 × Int32) ⊕ ((Int64))) → Option (Option Value × M)} (E : En G x cX0_moment "WreckBoard$Board" 1 (some .long)) (hn : xn x = 4) (a1 : Int64) (a3 : Int32) (m : M) (hb : ∀ z : Int64 × Int32, Sm G x 34 [(0, .ref (G.2.1 1)), (1, .long z.1), (3, .int z.2)] [] m (some (.inl z)) K) (hx0 : ∀ z : Int64, Sm G x 63 [(1, .long z)] [] m (some (.inr z)) K) : Sm G x 34 [(0, .ref (G.2.1 1)), (1, .long a1), (3, .int a3)] [] m (b_moment_34b a1 a3 m) K := by
  unfold b_moment_34b
  refine s_iload_n 2 E dX0_moment_34 rfl rfl ?_
  refine s_bipush (v := (6 : Int32)) E dX0_moment_35 (by decide) ?_
  refine s_icmp_ge 63 E dX0_moment_37 (by decide) ?_ ?_
  · refine s_sub (lv' := [(1, .long a1)]) [1] rfl ?_
    exact hx0 a1
  · refine s_lload_n 1 E dX0_moment_40 rfl rfl ?_
    refine s_aload_n 0 E dX0_moment_41 rfl rfl ?_
    refine s_getr (k := 10) (T := TX0) 1 E rfl rfl rfl inX0 (by decide) W244 dX0_moment_42 ?_
    refine s_iload_n 2 E dX0_moment_45 rfl rfl ?_
    refine s_iald E dX0_moment_46 (fun v1 => ?_)
    refine s_i2l E dX0_moment_47 ?_
    refine s_bipush (v := (25 : Int32)) E dX0_moment_48 (by decide) ?_
    refine s_iconst (v := (4 : Int32)) E dX0_moment_50 (by decide) ?_
    refine s_iload_n 2 E dX0_moment_51 rfl rfl ?_
    refine s_imul E dX0_moment_52 ?_
    refine s_iadd E dX0_moment_53 ?_
    refine s_lshl E dX0_moment_54 ?_
    refine s_lor E dX0_moment_55 ?_
    refine s_lt (fun w2 => [(0, .ref (G.2.1 1)), (1, .long a1), (3, .int a3)]) (fun w2 => [.long w2]) rfl rfl (fun w2 => ?_)
    refine s_lstore_n (lv' := [(0, .ref (G.2.1 1)), (1, .long w2), (3, .int a3)]) [1, 0, 2] E dX0_moment_56 rfl (by rw [hn]; decide) rfl ?_
    refine s_iincL (v := (1 : Int32)) 2 [1, 2, 0] (fun w3 => [(0, .ref (G.2.1 1)), (1, .long w2), (3, .int w3)]) E dX0_moment_57 rfl (by decide) (by rw [hn]; decide) (fun _ => rfl) (fun w3 => ?_)
    refine s_goto 34 E dX0_moment_60 (by decide) ?_
    exact hb (w2, w3)
def b_moment_34 (a1 : Int64) (a3 : Int32) (m : M) : Option (Int64) :=
  Option.bind (iter (fun z => b_moment_34b z.1 z.2 m) FU (a1, a3)) (fun r => some r)
set_option maxRecDepth 20000 in
theorem t_b_moment_34 {G : GG} {x : Cx} (E : En G x cX0_moment "WreckBoard$Board" 1 (some .long)) (hn : xn x = 4) (a1 : Int64) (a3 : Int32) (m : M) : Sm G x 34 [(0, .ref (G.2.1 1)), (1, .long a1), (3, .int a3)] [] m (b_moment_34 a1 a3 m) (KRl m) := by
  unfold b_moment_34
  refine s_loop (fun z => [(0, .ref (G.2.1 1)), (1, .long z.1), (3, .int z.2)]) (fun z => m) (fun K2 hb2 hr2 z => ?_) FU (a1, a3)
  refine t_b_moment_34b (K := K2) E hn z.1 z.2 m hb2 (fun r => s_out (hr2 r) ?_)
  · refine s_lload_n 0 E dX0_moment_63 rfl rfl ?_
    exact s_lret E rfl dX0_moment_64
def b_moment  (m : M) : Option (Int64) :=
  lt (((((Int32.toInt64 (m 1 7)) <<< (Int32.toInt64 (19 : Int32) &&& 63)) ||| ((Int32.toInt64 (m 1 3)) <<< (Int32.toInt64 (9 : Int32) &&& 63))) ||| ((Int32.toInt64 (m 1 2)) <<< (Int32.toInt64 (5 : Int32) &&& 63))) ||| (Int32.toInt64 (m 1 0))) (fun w1 : Int64 => b_moment_34 w1 (0 : Int32) m)
set_option maxRecDepth 20000 in
theorem t_b_moment {G : GG} {x : Cx} (E : En G x cX0_moment "WreckBoard$Board" 1 (some .long)) (hn : xn x = 4)  (m : M) : Sm G x 0 [(0, .ref (G.2.1 1))] [] m (b_moment m) (KRl m) := by
  unfold b_moment
  refine s_aload_n 0 E dX0_moment_0 rfl rfl ?_
  refine s_geti (k := 7) (T := TX0) 1 E rfl rfl rfl inX0 (by decide) W238 dX0_moment_1 ?_
  refine s_i2l E dX0_moment_4 ?_
  refine s_bipush (v := (19 : Int32)) E dX0_moment_5 (by decide) ?_
  refine s_lshl E dX0_moment_7 ?_
  refine s_aload_n 0 E dX0_moment_8 rfl rfl ?_
  refine s_geti (k := 3) (T := TX0) 1 E rfl rfl rfl inX0 (by decide) W231 dX0_moment_9 ?_
  refine s_i2l E dX0_moment_12 ?_
  refine s_bipush (v := (9 : Int32)) E dX0_moment_13 (by decide) ?_
  refine s_lshl E dX0_moment_15 ?_
  refine s_lor E dX0_moment_16 ?_
  refine s_aload_n 0 E dX0_moment_17 rfl rfl ?_
  refine s_geti (k := 2) (T := TX0) 1 E rfl rfl rfl inX0 (by decide) W227 dX0_moment_18 ?_
  refine s_i2l E dX0_moment_21 ?_
  refine s_iconst (v := (5 : Int32)) E dX0_moment_22 (by decide) ?_
  refine s_lshl E dX0_moment_23 ?_
  refine s_lor E dX0_moment_24 ?_
  refine s_aload_n 0 E dX0_moment_25 rfl rfl ?_
  refine s_geti (k := 0) (T := TX0) 1 E rfl rfl rfl inX0 (by decide) W222 dX0_moment_26 ?_
  refine s_i2l E dX0_moment_29 ?_
  refine s_lor E dX0_moment_30 ?_
  refine s_lt (fun w1 => [(0, .ref (G.2.1 1))]) (fun w1 => [.long w1]) rfl rfl (fun w1 => ?_)
  refine s_lstore_n (lv' := [(0, .ref (G.2.1 1)), (1, .long w1)]) [1, 0] E dX0_moment_31 rfl (by rw [hn]; decide) rfl ?_
  refine s_iconst (v := (0 : Int32)) E dX0_moment_32 (by decide) ?_
  refine s_istore_n (lv' := [(0, .ref (G.2.1 1)), (1, .long w1), (3, .int (0 : Int32))]) [1, 2, 0] E dX0_moment_33 rfl (by rw [hn]; decide) rfl ?_
  exact t_b_moment_34 E hn w1 (0 : Int32) m
set_option maxRecDepth 20000 in
theorem C_b_moment (l : Launch) (G : GG)  (m : M) {z : Int64} (hz : b_moment m = some z) : Ct l G yX0_moment cX0_moment 4 (some .long) 1 [.ref (G.2.1 1)] m (some (.long z)) m :=
  ct_of (K := (KRl m)) (by decide) (Nat.le_of_ble_eq_true rfl) (congrArg (fun q => Option.bind q _) hz) (fun x hl hn E => (t_b_moment E hn  m))
theorem mdX0_moment : mdq yX0_moment 0 := ⟨by decide, by decide, by decide +kernel⟩
theorem dX0_nightsOf_0 : decode cX0_nightsOf 0 = .ok (.iload_n 1, 1) := by decide +kernel
theorem dX0_nightsOf_1 : decode cX0_nightsOf 1 = .ok (.aload_n 0, 1) := by decide +kernel
theorem dX0_nightsOf_2 : decode cX0_nightsOf 2 = .ok (.getfield 9, 3) := by decide +kernel
theorem dX0_nightsOf_5 : decode cX0_nightsOf 5 = .ok (.aload_n 0, 1) := by decide +kernel
theorem dX0_nightsOf_6 : decode cX0_nightsOf 6 = .ok (.getfield 93, 3) := by decide +kernel
theorem dX0_nightsOf_9 : decode cX0_nightsOf 9 = .ok (.isub, 1) := by decide +kernel
theorem dX0_nightsOf_10 : decode cX0_nightsOf 10 = .ok (.invokestatic 96, 3) := by decide +kernel
theorem dX0_nightsOf_13 : decode cX0_nightsOf 13 = .ok (.ireturn, 1) := by decide +kernel
def b_nightsOf (a1 : Int32) (m : M) : Option (Int32) :=
  some (mnI a1 ((m 1 1) - (m 1 0)))
set_option maxRecDepth 20000 in
theorem t_b_nightsOf {G : GG} {x : Cx} (E : En G x cX0_nightsOf "WreckBoard$Board" 2 (some .int)) (hn : xn x = 2) (a1 : Int32) (m : M) : Sm G x 0 [(0, .ref (G.2.1 1)), (1, .int a1)] [] m (b_nightsOf a1 m) (KRi m) := by
  unfold b_nightsOf
  refine s_iload_n 1 E dX0_nightsOf_0 rfl rfl ?_
  refine s_aload_n 0 E dX0_nightsOf_1 rfl rfl ?_
  refine s_geti (k := 1) (T := TX0) 1 E rfl rfl rfl inX0 (by decide) W225 dX0_nightsOf_2 ?_
  refine s_aload_n 0 E dX0_nightsOf_5 rfl rfl ?_
  refine s_geti (k := 0) (T := TX0) 1 E rfl rfl rfl inX0 (by decide) W222 dX0_nightsOf_6 ?_
  refine s_isub E dX0_nightsOf_9 ?_
  refine s_mmin E W783 W488 W104 W489 (by decide) (Nat.le_of_ble_eq_true rfl) dX0_nightsOf_10 ?_
  exact s_iret E rfl dX0_nightsOf_13
set_option maxRecDepth 20000 in
theorem C_b_nightsOf (l : Launch) (G : GG) (a1 : Int32) (m : M) {z : Int32} (hz : b_nightsOf a1 m = some z) : Ct l G yX0_nightsOf cX0_nightsOf 2 (some .int) 2 [.ref (G.2.1 1), .int a1] m (some (.int z)) m :=
  ct_of (K := (KRi m)) (by decide) (Nat.le_of_ble_eq_true rfl) (congrArg (fun q => Option.bind q _) hz) (fun x hl hn E => (t_b_nightsOf E hn a1 m))
theorem mdX0_nightsOf : mdq yX0_nightsOf 1 := ⟨by decide, by decide, by decide +kernel⟩
theorem dX0_worthOfRest_0 : decode cX0_worthOfRest 0 = .ok (.iconst 0, 1) := by decide +kernel
theorem dX0_worthOfRest_1 : decode cX0_worthOfRest 1 = .ok (.istore_n 2, 1) := by decide +kernel
theorem dX0_worthOfRest_2 : decode cX0_worthOfRest 2 = .ok (.aload_n 0, 1) := by decide +kernel
theorem dX0_worthOfRest_3 : decode cX0_worthOfRest 3 = .ok (.iload_n 1, 1) := by decide +kernel
theorem dX0_worthOfRest_4 : decode cX0_worthOfRest 4 = .ok (.invokevirtual 181, 3) := by decide +kernel
theorem dX0_worthOfRest_7 : decode cX0_worthOfRest 7 = .ok (.istore_n 3, 1) := by decide +kernel
theorem dX0_worthOfRest_8 : decode cX0_worthOfRest 8 = .ok (.iload_n 3, 1) := by decide +kernel
theorem dX0_worthOfRest_9 : decode cX0_worthOfRest 9 = .ok (.ifCond .le 16, 3) := by decide +kernel
theorem dX0_worthOfRest_12 : decode cX0_worthOfRest 12 = .ok (.iload_n 2, 1) := by decide +kernel
theorem dX0_worthOfRest_13 : decode cX0_worthOfRest 13 = .ok (.aload_n 0, 1) := by decide +kernel
theorem dX0_worthOfRest_14 : decode cX0_worthOfRest 14 = .ok (.invokevirtual 184, 3) := by decide +kernel
theorem dX0_worthOfRest_17 : decode cX0_worthOfRest 17 = .ok (.iadd, 1) := by decide +kernel
theorem dX0_worthOfRest_18 : decode cX0_worthOfRest 18 = .ok (.istore_n 2, 1) := by decide +kernel
theorem dX0_worthOfRest_19 : decode cX0_worthOfRest 19 = .ok (.iinc 3 (-1), 3) := by decide +kernel
theorem dX0_worthOfRest_22 : decode cX0_worthOfRest 22 = .ok (.goto (-14), 3) := by decide +kernel
theorem dX0_worthOfRest_25 : decode cX0_worthOfRest 25 = .ok (.iload_n 2, 1) := by decide +kernel
theorem dX0_worthOfRest_26 : decode cX0_worthOfRest 26 = .ok (.ireturn, 1) := by decide +kernel
def b_worthOfRest_8b (a2 : Int32) (a3 : Int32) (m : M) : Option ((Int32 × Int32 × M) ⊕ ((Int32 × M))) :=
  (if a3 ≤ 0 then some (.inr (a2, m)) else Option.bind (b_nightOfRest m) (fun z1 => lt (a2 + z1.1) (fun w2 : Int32 => lt (a3 + (-1 : Int32)) (fun w3 : Int32 => some (.inl (w2, w3, z1.2))))))
set_option maxRecDepth 20000 in
theorem t_b_worthOfRest_8b {G : GG} {x : Cx} {K : ((Int32 × Int32 × M) ⊕ ((Int32 × M))) → Option (Option Value × M)} (E : En G x cX0_worthOfRest "WreckBoard$Board" 7 (some .int)) (hn : xn x = 4) (a2 : Int32) (a3 : Int32) (m : M) (hb : ∀ z : Int32 × Int32 × M, Sm G x 8 [(0, .ref (G.2.1 1)), (2, .int z.1), (3, .int z.2.1)] [] z.2.2 (some (.inl z)) K) (hx0 : ∀ z : Int32 × M, Sm G x 25 [(2, .int z.1)] [] z.2 (some (.inr z)) K) : Sm G x 8 [(0, .ref (G.2.1 1)), (2, .int a2), (3, .int a3)] [] m (b_worthOfRest_8b a2 a3 m) K := by
  unfold b_worthOfRest_8b
  refine s_iload_n 2 E dX0_worthOfRest_8 rfl rfl ?_
  refine s_if_le 25 E dX0_worthOfRest_9 (by decide) ?_ ?_
  · refine s_sub (lv' := [(2, .int a2)]) [1] rfl ?_
    exact hx0 (a2, m)
  · refine s_iload_n 1 E dX0_worthOfRest_12 rfl rfl ?_
    refine s_aload_n 0 E dX0_worthOfRest_13 rfl rfl ?_
    refine s_bd (fun z1 hz => ?_)
    refine s_cV (rest := [.int a2]) E (C_b_nightOfRest (xl x) G  m hz) mdX0_nightOfRest W834 W793 W794 W92 W795 rfl rfl rfl rfl (Nat.le_of_ble_eq_true rfl) ⟨by decide, by decide⟩ dX0_worthOfRest_14 ?_
    refine s_iadd E dX0_worthOfRest_17 ?_
    refine s_lt (fun w2 => [(0, .ref (G.2.1 1)), (2, .int a2), (3, .int a3)]) (fun w2 => [.int w2]) rfl rfl (fun w2 => ?_)
    refine s_istore_n (lv' := [(0, .ref (G.2.1 1)), (2, .int w2), (3, .int a3)]) [1, 0, 2] E dX0_worthOfRest_18 rfl (by rw [hn]; decide) rfl ?_
    refine s_iincL (v := (-1 : Int32)) 2 [1, 2, 0] (fun w3 => [(0, .ref (G.2.1 1)), (2, .int w2), (3, .int w3)]) E dX0_worthOfRest_19 rfl (by decide) (by rw [hn]; decide) (fun _ => rfl) (fun w3 => ?_)
    refine s_goto 8 E dX0_worthOfRest_22 (by decide) ?_
    exact hb (w2, w3, z1.2)
def b_worthOfRest_8 (a2 : Int32) (a3 : Int32) (m : M) : Option (Int32 × M) :=
  Option.bind (iter (fun z => b_worthOfRest_8b z.1 z.2.1 z.2.2) FU (a2, a3, m)) (fun r => some (r.1, r.2))
set_option maxRecDepth 20000 in
theorem t_b_worthOfRest_8 {G : GG} {x : Cx} (E : En G x cX0_worthOfRest "WreckBoard$Board" 7 (some .int)) (hn : xn x = 4) (a2 : Int32) (a3 : Int32) (m : M) : Sm G x 8 [(0, .ref (G.2.1 1)), (2, .int a2), (3, .int a3)] [] m (b_worthOfRest_8 a2 a3 m) KWi := by
  unfold b_worthOfRest_8
  refine s_loop (fun z => [(0, .ref (G.2.1 1)), (2, .int z.1), (3, .int z.2.1)]) (fun z => z.2.2) (fun K2 hb2 hr2 z => ?_) FU (a2, a3, m)
  refine t_b_worthOfRest_8b (K := K2) E hn z.1 z.2.1 z.2.2 hb2 (fun r => s_out (hr2 r) ?_)
  · refine s_iload_n 0 E dX0_worthOfRest_25 rfl rfl ?_
    exact s_iret E rfl dX0_worthOfRest_26
def b_worthOfRest (a1 : Int32) (m : M) : Option (Int32 × M) :=
  Option.bind (b_nightsOf a1 m) (fun v1 => b_worthOfRest_8 (0 : Int32) v1 m)
set_option maxRecDepth 20000 in
theorem t_b_worthOfRest {G : GG} {x : Cx} (E : En G x cX0_worthOfRest "WreckBoard$Board" 7 (some .int)) (hn : xn x = 4) (a1 : Int32) (m : M) : Sm G x 0 [(0, .ref (G.2.1 1)), (1, .int a1)] [] m (b_worthOfRest a1 m) KWi := by
  unfold b_worthOfRest
  refine s_iconst (v := (0 : Int32)) E dX0_worthOfRest_0 (by decide) ?_
  refine s_istore_n (lv' := [(0, .ref (G.2.1 1)), (1, .int a1), (2, .int (0 : Int32))]) [1, 2, 0] E dX0_worthOfRest_1 rfl (by rw [hn]; decide) rfl ?_
  refine s_aload_n 0 E dX0_worthOfRest_2 rfl rfl ?_
  refine s_iload_n 1 E dX0_worthOfRest_3 rfl rfl ?_
  refine s_bd (fun v1 hz => ?_)
  refine s_cV (rest := []) E (C_b_nightsOf (xl x) G a1 m hz) mdX0_nightsOf W830 W831 W832 W92 W833 rfl rfl rfl rfl (Nat.le_of_ble_eq_true rfl) ⟨by decide, by decide⟩ dX0_worthOfRest_4 ?_
  refine s_istore_n (lv' := [(0, .ref (G.2.1 1)), (2, .int (0 : Int32)), (3, .int v1)]) [1, 3, 0] E dX0_worthOfRest_7 rfl (by rw [hn]; decide) rfl ?_
  exact t_b_worthOfRest_8 E hn (0 : Int32) v1 m
set_option maxRecDepth 20000 in
theorem C_b_worthOfRest (l : Launch) (G : GG) (a1 : Int32) (m : M) {z : Int32 × M} (hz : b_worthOfRest a1 m = some z) : Ct l G yX0_worthOfRest cX0_worthOfRest 4 (some .int) 7 [.ref (G.2.1 1), .int a1] m (some (.int z.1)) z.2 :=
  ct_of (K := KWi) (by decide) (Nat.le_of_ble_eq_true rfl) (congrArg (fun q => Option.bind q _) hz) (fun x hl hn E => (t_b_worthOfRest E hn a1 m))
theorem mdX0_worthOfRest : mdq yX0_worthOfRest 1 := ⟨by decide, by decide, by decide +kernel⟩
theorem dX0_goBackTo_0 : decode cX0_goBackTo 0 = .ok (.aload_n 0, 1) := by decide +kernel
theorem dX0_goBackTo_1 : decode cX0_goBackTo 1 = .ok (.lload_n 1, 1) := by decide +kernel
theorem dX0_goBackTo_2 : decode cX0_goBackTo 2 = .ok (.l2i, 1) := by decide +kernel
theorem dX0_goBackTo_3 : decode cX0_goBackTo 3 = .ok (.bipush 31, 2) := by decide +kernel
theorem dX0_goBackTo_5 : decode cX0_goBackTo 5 = .ok (.iand, 1) := by decide +kernel
theorem dX0_goBackTo_6 : decode cX0_goBackTo 6 = .ok (.putfield 93, 3) := by decide +kernel
theorem dX0_goBackTo_9 : decode cX0_goBackTo 9 = .ok (.aload_n 0, 1) := by decide +kernel
theorem dX0_goBackTo_10 : decode cX0_goBackTo 10 = .ok (.lload_n 1, 1) := by decide +kernel
theorem dX0_goBackTo_11 : decode cX0_goBackTo 11 = .ok (.iconst 5, 1) := by decide +kernel
theorem dX0_goBackTo_12 : decode cX0_goBackTo 12 = .ok (.lshr, 1) := by decide +kernel
theorem dX0_goBackTo_13 : decode cX0_goBackTo 13 = .ok (.l2i, 1) := by decide +kernel
theorem dX0_goBackTo_14 : decode cX0_goBackTo 14 = .ok (.bipush 15, 2) := by decide +kernel
theorem dX0_goBackTo_16 : decode cX0_goBackTo 16 = .ok (.iand, 1) := by decide +kernel
theorem dX0_goBackTo_17 : decode cX0_goBackTo 17 = .ok (.putfield 15, 3) := by decide +kernel
theorem dX0_goBackTo_20 : decode cX0_goBackTo 20 = .ok (.aload_n 0, 1) := by decide +kernel
theorem dX0_goBackTo_21 : decode cX0_goBackTo 21 = .ok (.lload_n 1, 1) := by decide +kernel
theorem dX0_goBackTo_22 : decode cX0_goBackTo 22 = .ok (.bipush 9, 2) := by decide +kernel
theorem dX0_goBackTo_24 : decode cX0_goBackTo 24 = .ok (.lshr, 1) := by decide +kernel
theorem dX0_goBackTo_25 : decode cX0_goBackTo 25 = .ok (.l2i, 1) := by decide +kernel
theorem dX0_goBackTo_26 : decode cX0_goBackTo 26 = .ok (.sipush 1023, 3) := by decide +kernel
theorem dX0_goBackTo_29 : decode cX0_goBackTo 29 = .ok (.iand, 1) := by decide +kernel
theorem dX0_goBackTo_30 : decode cX0_goBackTo 30 = .ok (.putfield 160, 3) := by decide +kernel
theorem dX0_goBackTo_33 : decode cX0_goBackTo 33 = .ok (.aload_n 0, 1) := by decide +kernel
theorem dX0_goBackTo_34 : decode cX0_goBackTo 34 = .ok (.lload_n 1, 1) := by decide +kernel
theorem dX0_goBackTo_35 : decode cX0_goBackTo 35 = .ok (.bipush 19, 2) := by decide +kernel
theorem dX0_goBackTo_37 : decode cX0_goBackTo 37 = .ok (.lshr, 1) := by decide +kernel
theorem dX0_goBackTo_38 : decode cX0_goBackTo 38 = .ok (.l2i, 1) := by decide +kernel
theorem dX0_goBackTo_39 : decode cX0_goBackTo 39 = .ok (.bipush 63, 2) := by decide +kernel
theorem dX0_goBackTo_41 : decode cX0_goBackTo 41 = .ok (.iand, 1) := by decide +kernel
theorem dX0_goBackTo_42 : decode cX0_goBackTo 42 = .ok (.putfield 86, 3) := by decide +kernel
theorem dX0_goBackTo_45 : decode cX0_goBackTo 45 = .ok (.iconst 0, 1) := by decide +kernel
theorem dX0_goBackTo_46 : decode cX0_goBackTo 46 = .ok (.istore_n 3, 1) := by decide +kernel
theorem dX0_goBackTo_47 : decode cX0_goBackTo 47 = .ok (.iload_n 3, 1) := by decide +kernel
theorem dX0_goBackTo_48 : decode cX0_goBackTo 48 = .ok (.bipush 6, 2) := by decide +kernel
theorem dX0_goBackTo_50 : decode cX0_goBackTo 50 = .ok (.if_icmp .ge 27, 3) := by decide +kernel
theorem dX0_goBackTo_53 : decode cX0_goBackTo 53 = .ok (.aload_n 0, 1) := by decide +kernel
theorem dX0_goBackTo_54 : decode cX0_goBackTo 54 = .ok (.getfield 25, 3) := by decide +kernel
theorem dX0_goBackTo_57 : decode cX0_goBackTo 57 = .ok (.iload_n 3, 1) := by decide +kernel
theorem dX0_goBackTo_58 : decode cX0_goBackTo 58 = .ok (.lload_n 1, 1) := by decide +kernel
theorem dX0_goBackTo_59 : decode cX0_goBackTo 59 = .ok (.bipush 25, 2) := by decide +kernel
theorem dX0_goBackTo_61 : decode cX0_goBackTo 61 = .ok (.iconst 4, 1) := by decide +kernel
theorem dX0_goBackTo_62 : decode cX0_goBackTo 62 = .ok (.iload_n 3, 1) := by decide +kernel
theorem dX0_goBackTo_63 : decode cX0_goBackTo 63 = .ok (.imul, 1) := by decide +kernel
theorem dX0_goBackTo_64 : decode cX0_goBackTo 64 = .ok (.iadd, 1) := by decide +kernel
theorem dX0_goBackTo_65 : decode cX0_goBackTo 65 = .ok (.lshr, 1) := by decide +kernel
theorem dX0_goBackTo_66 : decode cX0_goBackTo 66 = .ok (.l2i, 1) := by decide +kernel
theorem dX0_goBackTo_67 : decode cX0_goBackTo 67 = .ok (.bipush 15, 2) := by decide +kernel
theorem dX0_goBackTo_69 : decode cX0_goBackTo 69 = .ok (.iand, 1) := by decide +kernel
theorem dX0_goBackTo_70 : decode cX0_goBackTo 70 = .ok (.iastore, 1) := by decide +kernel
theorem dX0_goBackTo_71 : decode cX0_goBackTo 71 = .ok (.iinc 3 1, 3) := by decide +kernel
theorem dX0_goBackTo_74 : decode cX0_goBackTo 74 = .ok (.goto (-27), 3) := by decide +kernel
theorem dX0_goBackTo_77 : decode cX0_goBackTo 77 = .ok (.return_, 1) := by decide +kernel
def b_goBackTo_47b (a1 : Int64) (a3 : Int32) (m : M) : Option ((Int32 × M) ⊕ ((M))) :=
  (if (6 : Int32) ≤ a3 then some (.inr m) else Option.bind (wrI m 11 a3 ((Int64.toInt32 (a1 >>> (Int32.toInt64 ((25 : Int32) + ((4 : Int32) * a3)) &&& 63))) &&& (15 : Int32))) (fun m1 => lt (a3 + (1 : Int32)) (fun w2 : Int32 => some (.inl (w2, m1)))))
set_option maxRecDepth 20000 in
theorem t_b_goBackTo_47b {G : GG} {x : Cx} {K : ((Int32 × M) ⊕ ((M))) → Option (Option Value × M)} (E : En G x cX0_goBackTo "WreckBoard$Board" 1 none) (hn : xn x = 4) (a1 : Int64) (a3 : Int32) (m : M) (hb : ∀ z : Int32 × M, Sm G x 47 [(0, .ref (G.2.1 1)), (1, .long a1), (3, .int z.1)] [] z.2 (some (.inl z)) K) (hx0 : ∀ z : M, Sm G x 77 [] [] z (some (.inr z)) K) : Sm G x 47 [(0, .ref (G.2.1 1)), (1, .long a1), (3, .int a3)] [] m (b_goBackTo_47b a1 a3 m) K := by
  unfold b_goBackTo_47b
  refine s_iload_n 2 E dX0_goBackTo_47 rfl rfl ?_
  refine s_bipush (v := (6 : Int32)) E dX0_goBackTo_48 (by decide) ?_
  refine s_icmp_ge 77 E dX0_goBackTo_50 (by decide) ?_ ?_
  · refine s_sub (lv' := []) [] rfl ?_
    exact hx0 m
  · refine s_aload_n 0 E dX0_goBackTo_53 rfl rfl ?_
    refine s_getr (k := 10) (T := TX0) 1 E rfl rfl rfl inX0 (by decide) W244 dX0_goBackTo_54 ?_
    refine s_iload_n 2 E dX0_goBackTo_57 rfl rfl ?_
    refine s_lload_n 1 E dX0_goBackTo_58 rfl rfl ?_
    refine s_bipush (v := (25 : Int32)) E dX0_goBackTo_59 (by decide) ?_
    refine s_iconst (v := (4 : Int32)) E dX0_goBackTo_61 (by decide) ?_
    refine s_iload_n 2 E dX0_goBackTo_62 rfl rfl ?_
    refine s_imul E dX0_goBackTo_63 ?_
    refine s_iadd E dX0_goBackTo_64 ?_
    refine s_lshr E dX0_goBackTo_65 ?_
    refine s_l2i E dX0_goBackTo_66 ?_
    refine s_bipush (v := (15 : Int32)) E dX0_goBackTo_67 (by decide) ?_
    refine s_iand E dX0_goBackTo_69 ?_
    refine s_iast E dX0_goBackTo_70 (fun m1 => ?_)
    refine s_iincL (v := (1 : Int32)) 2 [1, 2, 0] (fun w2 => [(0, .ref (G.2.1 1)), (1, .long a1), (3, .int w2)]) E dX0_goBackTo_71 rfl (by decide) (by rw [hn]; decide) (fun _ => rfl) (fun w2 => ?_)
    refine s_goto 47 E dX0_goBackTo_74 (by decide) ?_
    exact hb (w2, m1)
def b_goBackTo_47 (a1 : Int64) (a3 : Int32) (m : M) : Option (M) :=
  Option.bind (iter (fun z => b_goBackTo_47b a1 z.1 z.2) FU (a3, m)) (fun r => some r)
set_option maxRecDepth 20000 in
theorem t_b_goBackTo_47 {G : GG} {x : Cx} (E : En G x cX0_goBackTo "WreckBoard$Board" 1 none) (hn : xn x = 4) (a1 : Int64) (a3 : Int32) (m : M) : Sm G x 47 [(0, .ref (G.2.1 1)), (1, .long a1), (3, .int a3)] [] m (b_goBackTo_47 a1 a3 m) KWv := by
  unfold b_goBackTo_47
  refine s_loop (fun z => [(0, .ref (G.2.1 1)), (1, .long a1), (3, .int z.1)]) (fun z => z.2) (fun K2 hb2 hr2 z => ?_) FU (a3, m)
  refine t_b_goBackTo_47b (K := K2) E hn a1 z.1 z.2 hb2 (fun r => s_out (hr2 r) ?_)
  · exact s_vret E rfl dX0_goBackTo_77
def b_goBackTo (a1 : Int64) (m : M) : Option (M) :=
  lt (wrF m 1 0 ((Int64.toInt32 a1) &&& (31 : Int32))) (fun m1 => lt (wrF m1 1 2 ((Int64.toInt32 (a1 >>> (Int32.toInt64 (5 : Int32) &&& 63))) &&& (15 : Int32))) (fun m2 => lt (wrF m2 1 3 ((Int64.toInt32 (a1 >>> (Int32.toInt64 (9 : Int32) &&& 63))) &&& (1023 : Int32))) (fun m3 => lt (wrF m3 1 7 ((Int64.toInt32 (a1 >>> (Int32.toInt64 (19 : Int32) &&& 63))) &&& (63 : Int32))) (fun m4 => b_goBackTo_47 a1 (0 : Int32) m4))))
set_option maxRecDepth 20000 in
theorem t_b_goBackTo {G : GG} {x : Cx} (E : En G x cX0_goBackTo "WreckBoard$Board" 1 none) (hn : xn x = 4) (a1 : Int64) (m : M) : Sm G x 0 [(0, .ref (G.2.1 1)), (1, .long a1)] [] m (b_goBackTo a1 m) KWv := by
  unfold b_goBackTo
  refine s_aload_n 0 E dX0_goBackTo_0 rfl rfl ?_
  refine s_lload_n 1 E dX0_goBackTo_1 rfl rfl ?_
  refine s_l2i E dX0_goBackTo_2 ?_
  refine s_bipush (v := (31 : Int32)) E dX0_goBackTo_3 (by decide) ?_
  refine s_iand E dX0_goBackTo_5 ?_
  refine s_put (k := 0) (T := TX0) (ty := .int) 1 E rfl rfl rfl inX0 tyX0 tyX0_ok nmX0 (by decide) W222 rfl (by decide +kernel) rfl rfl dX0_goBackTo_6 ?_
  refine s_ltm rfl (fun m1 => ?_)
  refine s_aload_n 0 E dX0_goBackTo_9 rfl rfl ?_
  refine s_lload_n 1 E dX0_goBackTo_10 rfl rfl ?_
  refine s_iconst (v := (5 : Int32)) E dX0_goBackTo_11 (by decide) ?_
  refine s_lshr E dX0_goBackTo_12 ?_
  refine s_l2i E dX0_goBackTo_13 ?_
  refine s_bipush (v := (15 : Int32)) E dX0_goBackTo_14 (by decide) ?_
  refine s_iand E dX0_goBackTo_16 ?_
  refine s_put (k := 2) (T := TX0) (ty := .int) 1 E rfl rfl rfl inX0 tyX0 tyX0_ok nmX0 (by decide) W227 rfl (by decide +kernel) rfl rfl dX0_goBackTo_17 ?_
  refine s_ltm rfl (fun m2 => ?_)
  refine s_aload_n 0 E dX0_goBackTo_20 rfl rfl ?_
  refine s_lload_n 1 E dX0_goBackTo_21 rfl rfl ?_
  refine s_bipush (v := (9 : Int32)) E dX0_goBackTo_22 (by decide) ?_
  refine s_lshr E dX0_goBackTo_24 ?_
  refine s_l2i E dX0_goBackTo_25 ?_
  refine s_sipush (v := (1023 : Int32)) E dX0_goBackTo_26 (by decide) ?_
  refine s_iand E dX0_goBackTo_29 ?_
  refine s_put (k := 3) (T := TX0) (ty := .int) 1 E rfl rfl rfl inX0 tyX0 tyX0_ok nmX0 (by decide) W231 rfl (by decide +kernel) rfl rfl dX0_goBackTo_30 ?_
  refine s_ltm rfl (fun m3 => ?_)
  refine s_aload_n 0 E dX0_goBackTo_33 rfl rfl ?_
  refine s_lload_n 1 E dX0_goBackTo_34 rfl rfl ?_
  refine s_bipush (v := (19 : Int32)) E dX0_goBackTo_35 (by decide) ?_
  refine s_lshr E dX0_goBackTo_37 ?_
  refine s_l2i E dX0_goBackTo_38 ?_
  refine s_bipush (v := (63 : Int32)) E dX0_goBackTo_39 (by decide) ?_
  refine s_iand E dX0_goBackTo_41 ?_
  refine s_put (k := 7) (T := TX0) (ty := .int) 1 E rfl rfl rfl inX0 tyX0 tyX0_ok nmX0 (by decide) W238 rfl (by decide +kernel) rfl rfl dX0_goBackTo_42 ?_
  refine s_ltm rfl (fun m4 => ?_)
  refine s_iconst (v := (0 : Int32)) E dX0_goBackTo_45 (by decide) ?_
  refine s_istore_n (lv' := [(0, .ref (G.2.1 1)), (1, .long a1), (3, .int (0 : Int32))]) [1, 2, 0] E dX0_goBackTo_46 rfl (by rw [hn]; decide) rfl ?_
  exact t_b_goBackTo_47 E hn a1 (0 : Int32) m4
set_option maxRecDepth 20000 in
theorem C_b_goBackTo (l : Launch) (G : GG) (a1 : Int64) (m : M) {z : M} (hz : b_goBackTo a1 m = some z) : Ct l G yX0_goBackTo cX0_goBackTo 4 none 1 [.ref (G.2.1 1), .long a1] m none z :=
  ct_of (K := KWv) (by decide) (Nat.le_of_ble_eq_true rfl) (congrArg (fun q => Option.bind q _) hz) (fun x hl hn E => (t_b_goBackTo E hn a1 m))
theorem mdX0_goBackTo : mdq yX0_goBackTo 1 := ⟨by decide, by decide, by decide +kernel⟩
theorem dX11_on_0 : decode cX11_on 0 = .ok (.iload_n 1, 1) := by decide +kernel
theorem dX11_on_1 : decode cX11_on 1 = .ok (.iconst 0, 1) := by decide +kernel
theorem dX11_on_2 : decode cX11_on 2 = .ok (.bipush 16, 2) := by decide +kernel
theorem dX11_on_4 : decode cX11_on 4 = .ok (.invokestatic 61, 3) := by decide +kernel
theorem dX11_on_7 : decode cX11_on 7 = .ok (.ifCond .ne 5, 3) := by decide +kernel
theorem dX11_on_10 : decode cX11_on 10 = .ok (.iconst (-1), 1) := by decide +kernel
theorem dX11_on_11 : decode cX11_on 11 = .ok (.ireturn, 1) := by decide +kernel
theorem dX11_on_12 : decode cX11_on 12 = .ok (.aload_n 0, 1) := by decide +kernel
theorem dX11_on_13 : decode cX11_on 13 = .ok (.getfield 12, 3) := by decide +kernel
theorem dX11_on_16 : decode cX11_on 16 = .ok (.invokevirtual 178, 3) := by decide +kernel
theorem dX11_on_19 : decode cX11_on 19 = .ok (.lstore_n 2, 1) := by decide +kernel
theorem dX11_on_20 : decode cX11_on 20 = .ok (.aload_n 0, 1) := by decide +kernel
theorem dX11_on_21 : decode cX11_on 21 = .ok (.getfield 12, 3) := by decide +kernel
theorem dX11_on_24 : decode cX11_on 24 = .ok (.iload_n 1, 1) := by decide +kernel
theorem dX11_on_25 : decode cX11_on 25 = .ok (.invokevirtual 182, 3) := by decide +kernel
theorem dX11_on_28 : decode cX11_on 28 = .ok (.istore 4, 2) := by decide +kernel
theorem dX11_on_30 : decode cX11_on 30 = .ok (.aload_n 0, 1) := by decide +kernel
theorem dX11_on_31 : decode cX11_on 31 = .ok (.getfield 12, 3) := by decide +kernel
theorem dX11_on_34 : decode cX11_on 34 = .ok (.lload_n 2, 1) := by decide +kernel
theorem dX11_on_35 : decode cX11_on 35 = .ok (.invokevirtual 185, 3) := by decide +kernel
theorem dX11_on_38 : decode cX11_on 38 = .ok (.iload 4, 2) := by decide +kernel
theorem dX11_on_40 : decode cX11_on 40 = .ok (.ireturn, 1) := by decide +kernel
def k_on (a1 : Int32) (m : M) : Option (Int32 × M) :=
  Option.bind (k_within a1 (0 : Int32) (16 : Int32) m) (fun v1 => (if v1 = 0 then some ((-1 : Int32), m) else Option.bind (b_moment m) (fun v2 => Option.bind (b_worthOfRest a1 m) (fun z3 => Option.bind (b_goBackTo v2 z3.2) (fun m4 => some (z3.1, m4))))))
set_option maxRecDepth 20000 in
theorem t_k_on {G : GG} {x : Cx} (E : En G x cX11_on "WreckBoard" 8 (some .int)) (hn : xn x = 5) (a1 : Int32) (m : M) : Sm G x 0 [(0, .ref (G.2.1 0)), (1, .int a1)] [] m (k_on a1 m) KWi := by
  unfold k_on
  refine s_iload_n 1 E dX11_on_0 rfl rfl ?_
  refine s_iconst (v := (0 : Int32)) E dX11_on_1 (by decide) ?_
  refine s_bipush (v := (16 : Int32)) E dX11_on_2 (by decide) ?_
  refine s_bd (fun v1 hz => ?_)
  refine s_cS (rest := []) E (C_k_within (xl x) G a1 (0 : Int32) (16 : Int32) m hz) mdX11_within W404 W405 W91 W406 rfl rfl (Nat.le_of_ble_eq_true rfl) ⟨by decide, by decide⟩ dX11_on_4 ?_
  refine s_if_ne 12 E dX11_on_7 (by decide) ?_ ?_
  · refine s_aload_n 0 E dX11_on_12 rfl rfl ?_
    refine s_getr (k := 0) (T := TX11) 0 E rfl rfl rfl inX11 (by decide) W360 dX11_on_13 ?_
    refine s_bd (fun v2 hz => ?_)
    refine s_cV (rest := []) E (C_b_moment (xl x) G  m hz) mdX0_moment W822 W823 W824 W92 W825 rfl rfl rfl rfl (Nat.le_of_ble_eq_true rfl) ⟨by decide, by decide⟩ dX11_on_16 ?_
    refine s_lstore_n (lv' := [(0, .ref (G.2.1 0)), (1, .int a1), (2, .long v2)]) [1, 2, 0] E dX11_on_19 rfl (by rw [hn]; decide) rfl ?_
    refine s_aload_n 0 E dX11_on_20 rfl rfl ?_
    refine s_getr (k := 0) (T := TX11) 0 E rfl rfl rfl inX11 (by decide) W360 dX11_on_21 ?_
    refine s_iload_n 1 E dX11_on_24 rfl rfl ?_
    refine s_bd (fun z3 hz => ?_)
    refine s_cV (rest := []) E (C_b_worthOfRest (xl x) G a1 m hz) mdX0_worthOfRest W826 W827 W828 W92 W829 rfl rfl rfl rfl (Nat.le_of_ble_eq_true rfl) ⟨by decide, by decide⟩ dX11_on_25 ?_
    refine s_istore (lv' := [(0, .ref (G.2.1 0)), (2, .long v2), (4, .int z3.1)]) [1, 3, 0] E dX11_on_28 (by rw [hn]; decide) rfl ?_
    refine s_aload_n 0 E dX11_on_30 rfl rfl ?_
    refine s_getr (k := 0) (T := TX11) 0 E rfl rfl rfl inX11 (by decide) W360 dX11_on_31 ?_
    refine s_lload_n 1 E dX11_on_34 rfl rfl ?_
    refine s_bd (fun m4 hz => ?_)
    refine s_cV (rest := []) E (C_b_goBackTo (xl x) G v2 z3.2 hz) mdX0_goBackTo W835 W836 W837 W92 W838 rfl rfl rfl rfl (Nat.le_of_ble_eq_true rfl) ⟨by decide, by decide⟩ dX11_on_35 ?_
    refine s_iload 2 E dX11_on_38 rfl ?_
    exact s_iret E rfl dX11_on_40
  · refine s_iconst (v := (-1 : Int32)) E dX11_on_10 (by decide) ?_
    exact s_iret E rfl dX11_on_11
set_option maxRecDepth 20000 in
theorem C_k_on (l : Launch) (G : GG) (a1 : Int32) (m : M) {z : Int32 × M} (hz : k_on a1 m = some z) : Ct l G yX11_on cX11_on 5 (some .int) 8 [.ref (G.2.1 0), .int a1] m (some (.int z.1)) z.2 :=
  ct_of (K := KWi) (by decide) (Nat.le_of_ble_eq_true rfl) (congrArg (fun q => Option.bind q _) hz) (fun x hl hn E => (t_k_on E hn a1 m))
theorem dX11_when_0 : decode cX11_when 0 = .ok (.aload_n 0, 1) := by decide +kernel
theorem dX11_when_1 : decode cX11_when 1 = .ok (.getfield 12, 3) := by decide +kernel
theorem dX11_when_4 : decode cX11_when 4 = .ok (.iload_n 1, 1) := by decide +kernel
theorem dX11_when_5 : decode cX11_when 5 = .ok (.invokevirtual 73, 3) := by decide +kernel
theorem dX11_when_8 : decode cX11_when 8 = .ok (.ifCond .ne 5, 3) := by decide +kernel
theorem dX11_when_11 : decode cX11_when 11 = .ok (.iconst (-1), 1) := by decide +kernel
theorem dX11_when_12 : decode cX11_when 12 = .ok (.ireturn, 1) := by decide +kernel
theorem dX11_when_13 : decode cX11_when 13 = .ok (.aload_n 0, 1) := by decide +kernel
theorem dX11_when_14 : decode cX11_when 14 = .ok (.getfield 12, 3) := by decide +kernel
theorem dX11_when_17 : decode cX11_when 17 = .ok (.iload_n 1, 1) := by decide +kernel
theorem dX11_when_18 : decode cX11_when 18 = .ok (.invokevirtual 89, 3) := by decide +kernel
theorem dX11_when_21 : decode cX11_when 21 = .ok (.ifCond .eq 6, 3) := by decide +kernel
theorem dX11_when_24 : decode cX11_when 24 = .ok (.bipush (-3), 2) := by decide +kernel
theorem dX11_when_26 : decode cX11_when 26 = .ok (.ireturn, 1) := by decide +kernel
theorem dX11_when_27 : decode cX11_when 27 = .ok (.aload_n 0, 1) := by decide +kernel
theorem dX11_when_28 : decode cX11_when 28 = .ok (.getfield 12, 3) := by decide +kernel
theorem dX11_when_31 : decode cX11_when 31 = .ok (.invokevirtual 178, 3) := by decide +kernel
theorem dX11_when_34 : decode cX11_when 34 = .ok (.lstore_n 2, 1) := by decide +kernel
theorem dX11_when_35 : decode cX11_when 35 = .ok (.aload_n 0, 1) := by decide +kernel
theorem dX11_when_36 : decode cX11_when 36 = .ok (.getfield 12, 3) := by decide +kernel
theorem dX11_when_39 : decode cX11_when 39 = .ok (.bipush 16, 2) := by decide +kernel
theorem dX11_when_41 : decode cX11_when 41 = .ok (.invokevirtual 189, 3) := by decide +kernel
theorem dX11_when_44 : decode cX11_when 44 = .ok (.istore 4, 2) := by decide +kernel
theorem dX11_when_46 : decode cX11_when 46 = .ok (.iload 4, 2) := by decide +kernel
theorem dX11_when_48 : decode cX11_when 48 = .ok (.ifCond .le 28, 3) := by decide +kernel
theorem dX11_when_51 : decode cX11_when 51 = .ok (.aload_n 0, 1) := by decide +kernel
theorem dX11_when_52 : decode cX11_when 52 = .ok (.getfield 12, 3) := by decide +kernel
theorem dX11_when_55 : decode cX11_when 55 = .ok (.iload_n 1, 1) := by decide +kernel
theorem dX11_when_56 : decode cX11_when 56 = .ok (.invokevirtual 89, 3) := by decide +kernel
theorem dX11_when_59 : decode cX11_when 59 = .ok (.ifCond .ne 17, 3) := by decide +kernel
theorem dX11_when_62 : decode cX11_when 62 = .ok (.aload_n 0, 1) := by decide +kernel
theorem dX11_when_63 : decode cX11_when 63 = .ok (.getfield 12, 3) := by decide +kernel
theorem dX11_when_66 : decode cX11_when 66 = .ok (.invokevirtual 175, 3) := by decide +kernel
theorem dX11_when_69 : decode cX11_when 69 = .ok (.pop, 1) := by decide +kernel
theorem dX11_when_70 : decode cX11_when 70 = .ok (.iinc 4 (-1), 3) := by decide +kernel
theorem dX11_when_73 : decode cX11_when 73 = .ok (.goto (-27), 3) := by decide +kernel
theorem dX11_when_76 : decode cX11_when 76 = .ok (.aload_n 0, 1) := by decide +kernel
theorem dX11_when_77 : decode cX11_when 77 = .ok (.getfield 12, 3) := by decide +kernel
theorem dX11_when_80 : decode cX11_when 80 = .ok (.iload_n 1, 1) := by decide +kernel
theorem dX11_when_81 : decode cX11_when 81 = .ok (.invokevirtual 89, 3) := by decide +kernel
theorem dX11_when_84 : decode cX11_when 84 = .ok (.ifCond .eq 15, 3) := by decide +kernel
theorem dX11_when_87 : decode cX11_when 87 = .ok (.aload_n 0, 1) := by decide +kernel
theorem dX11_when_88 : decode cX11_when 88 = .ok (.getfield 12, 3) := by decide +kernel
theorem dX11_when_91 : decode cX11_when 91 = .ok (.getfield 136, 3) := by decide +kernel
theorem dX11_when_94 : decode cX11_when 94 = .ok (.iconst 1, 1) := by decide +kernel
theorem dX11_when_95 : decode cX11_when 95 = .ok (.isub, 1) := by decide +kernel
theorem dX11_when_96 : decode cX11_when 96 = .ok (.goto 5, 3) := by decide +kernel
theorem dX11_when_99 : decode cX11_when 99 = .ok (.bipush (-3), 2) := by decide +kernel
theorem dX11_when_101 : decode cX11_when 101 = .ok (.istore 4, 2) := by decide +kernel
theorem dX11_when_103 : decode cX11_when 103 = .ok (.aload_n 0, 1) := by decide +kernel
theorem dX11_when_104 : decode cX11_when 104 = .ok (.getfield 12, 3) := by decide +kernel
theorem dX11_when_107 : decode cX11_when 107 = .ok (.lload_n 2, 1) := by decide +kernel
theorem dX11_when_108 : decode cX11_when 108 = .ok (.invokevirtual 185, 3) := by decide +kernel
theorem dX11_when_111 : decode cX11_when 111 = .ok (.iload 4, 2) := by decide +kernel
theorem dX11_when_113 : decode cX11_when 113 = .ok (.ireturn, 1) := by decide +kernel
def k_when_46b (a1 : Int32) (a2 : Int64) (a4 : Int32) (m : M) : Option ((Int32 × M) ⊕ ((M))) :=
  (if a4 ≤ 0 then some (.inr m) else Option.bind (b_isHeard a1 m) (fun v1 => (if v1 = 0 then Option.bind (b_nightOfRest m) (fun z2 => lt (a4 + (-1 : Int32)) (fun w3 : Int32 => some (.inl (w3, z2.2)))) else some (.inr m))))
set_option maxRecDepth 20000 in
theorem t_k_when_46b {G : GG} {x : Cx} {K : ((Int32 × M) ⊕ ((M))) → Option (Option Value × M)} (E : En G x cX11_when "WreckBoard" 7 (some .int)) (hn : xn x = 5) (a1 : Int32) (a2 : Int64) (a4 : Int32) (m : M) (hb : ∀ z : Int32 × M, Sm G x 46 [(0, .ref (G.2.1 0)), (1, .int a1), (2, .long a2), (4, .int z.1)] [] z.2 (some (.inl z)) K) (hx0 : ∀ z : M, Sm G x 76 [(0, .ref (G.2.1 0)), (1, .int a1), (2, .long a2)] [] z (some (.inr z)) K) : Sm G x 46 [(0, .ref (G.2.1 0)), (1, .int a1), (2, .long a2), (4, .int a4)] [] m (k_when_46b a1 a2 a4 m) K := by
  unfold k_when_46b
  refine s_iload 3 E dX11_when_46 rfl ?_
  refine s_if_le 76 E dX11_when_48 (by decide) ?_ ?_
  · refine s_sub (lv' := [(0, .ref (G.2.1 0)), (1, .int a1), (2, .long a2)]) [0, 1, 2] rfl ?_
    exact hx0 m
  · refine s_aload_n 0 E dX11_when_51 rfl rfl ?_
    refine s_getr (k := 0) (T := TX11) 0 E rfl rfl rfl inX11 (by decide) W360 dX11_when_52 ?_
    refine s_iload_n 1 E dX11_when_55 rfl rfl ?_
    refine s_bd (fun v1 hz => ?_)
    refine s_cV (rest := []) E (C_b_isHeard (xl x) G a1 m hz) mdX0_isHeard W420 W421 W422 W92 W423 rfl rfl rfl rfl (Nat.le_of_ble_eq_true rfl) ⟨by decide, by decide⟩ dX11_when_56 ?_
    refine s_if_ne 76 E dX11_when_59 (by decide) ?_ ?_
    · refine s_sub (lv' := [(0, .ref (G.2.1 0)), (1, .int a1), (2, .long a2)]) [0, 1, 2] rfl ?_
      exact hx0 m
    · refine s_aload_n 0 E dX11_when_62 rfl rfl ?_
      refine s_getr (k := 0) (T := TX11) 0 E rfl rfl rfl inX11 (by decide) W360 dX11_when_63 ?_
      refine s_bd (fun z2 hz => ?_)
      refine s_cV (rest := []) E (C_b_nightOfRest (xl x) G  m hz) mdX0_nightOfRest W792 W793 W794 W92 W795 rfl rfl rfl rfl (Nat.le_of_ble_eq_true rfl) ⟨by decide, by decide⟩ dX11_when_66 ?_
      refine s_pop E dX11_when_69 rfl ?_
      refine s_iincL (v := (-1 : Int32)) 3 [1, 2, 3, 0] (fun w3 => [(0, .ref (G.2.1 0)), (1, .int a1), (2, .long a2), (4, .int w3)]) E dX11_when_70 rfl (by decide) (by rw [hn]; decide) (fun _ => rfl) (fun w3 => ?_)
      refine s_goto 46 E dX11_when_73 (by decide) ?_
      exact hb (w3, z2.2)
def k_when_101 (a2 : Int64) (s0 : Int32) (m : M) : Option (Int32 × M) :=
  Option.bind (b_goBackTo a2 m) (fun m1 => some (s0, m1))
set_option maxRecDepth 20000 in
theorem t_k_when_101 {G : GG} {x : Cx} (E : En G x cX11_when "WreckBoard" 7 (some .int)) (hn : xn x = 5) (a2 : Int64) (s0 : Int32) (m : M) : Sm G x 101 [(0, .ref (G.2.1 0)), (2, .long a2)] [.int s0] m (k_when_101 a2 s0 m) KWi := by
  unfold k_when_101
  refine s_istore (lv' := [(0, .ref (G.2.1 0)), (2, .long a2), (4, .int s0)]) [1, 2, 0] E dX11_when_101 (by rw [hn]; decide) rfl ?_
  refine s_aload_n 0 E dX11_when_103 rfl rfl ?_
  refine s_getr (k := 0) (T := TX11) 0 E rfl rfl rfl inX11 (by decide) W360 dX11_when_104 ?_
  refine s_lload_n 1 E dX11_when_107 rfl rfl ?_
  refine s_bd (fun m1 hz => ?_)
  refine s_cV (rest := []) E (C_b_goBackTo (xl x) G a2 m hz) mdX0_goBackTo W835 W836 W837 W92 W838 rfl rfl rfl rfl (Nat.le_of_ble_eq_true rfl) ⟨by decide, by decide⟩ dX11_when_108 ?_
  refine s_iload 2 E dX11_when_111 rfl ?_
  exact s_iret E rfl dX11_when_113
def k_when_76 (a1 : Int32) (a2 : Int64) (m : M) : Option (Int32 × M) :=
  Option.bind (b_isHeard a1 m) (fun v1 => (if v1 = 0 then k_when_101 a2 (-3 : Int32) m else k_when_101 a2 ((m 1 0) - (1 : Int32)) m))
set_option maxRecDepth 20000 in
theorem t_k_when_76 {G : GG} {x : Cx} (E : En G x cX11_when "WreckBoard" 7 (some .int)) (hn : xn x = 5) (a1 : Int32) (a2 : Int64) (m : M) : Sm G x 76 [(0, .ref (G.2.1 0)), (1, .int a1), (2, .long a2)] [] m (k_when_76 a1 a2 m) KWi := by
  unfold k_when_76
  refine s_aload_n 0 E dX11_when_76 rfl rfl ?_
  refine s_getr (k := 0) (T := TX11) 0 E rfl rfl rfl inX11 (by decide) W360 dX11_when_77 ?_
  refine s_iload_n 1 E dX11_when_80 rfl rfl ?_
  refine s_bd (fun v1 hz => ?_)
  refine s_cV (rest := []) E (C_b_isHeard (xl x) G a1 m hz) mdX0_isHeard W420 W421 W422 W92 W423 rfl rfl rfl rfl (Nat.le_of_ble_eq_true rfl) ⟨by decide, by decide⟩ dX11_when_81 ?_
  refine s_if_eq 99 E dX11_when_84 (by decide) ?_ ?_
  · refine s_bipush (v := (-3 : Int32)) E dX11_when_99 (by decide) ?_
    refine s_sub (lv' := [(0, .ref (G.2.1 0)), (2, .long a2)]) [0, 2] rfl ?_
    exact t_k_when_101 E hn a2 (-3 : Int32) m
  · refine s_aload_n 0 E dX11_when_87 rfl rfl ?_
    refine s_getr (k := 0) (T := TX11) 0 E rfl rfl rfl inX11 (by decide) W360 dX11_when_88 ?_
    refine s_geti (k := 0) (T := TX0) 1 E rfl rfl rfl inX0 (by decide) W224 dX11_when_91 ?_
    refine s_iconst (v := (1 : Int32)) E dX11_when_94 (by decide) ?_
    refine s_isub E dX11_when_95 ?_
    refine s_goto 101 E dX11_when_96 (by decide) ?_
    refine s_sub (lv' := [(0, .ref (G.2.1 0)), (2, .long a2)]) [0, 2] rfl ?_
    exact t_k_when_101 E hn a2 ((m 1 0) - (1 : Int32)) m
def k_when_46 (a1 : Int32) (a2 : Int64) (a4 : Int32) (m : M) : Option (Int32 × M) :=
  Option.bind (iter (fun z => k_when_46b a1 a2 z.1 z.2) FU (a4, m)) (fun r => k_when_76 a1 a2 r)
set_option maxRecDepth 20000 in
theorem t_k_when_46 {G : GG} {x : Cx} (E : En G x cX11_when "WreckBoard" 7 (some .int)) (hn : xn x = 5) (a1 : Int32) (a2 : Int64) (a4 : Int32) (m : M) : Sm G x 46 [(0, .ref (G.2.1 0)), (1, .int a1), (2, .long a2), (4, .int a4)] [] m (k_when_46 a1 a2 a4 m) KWi := by
  unfold k_when_46
  refine s_loop (fun z => [(0, .ref (G.2.1 0)), (1, .int a1), (2, .long a2), (4, .int z.1)]) (fun z => z.2) (fun K2 hb2 hr2 z => ?_) FU (a4, m)
  refine t_k_when_46b (K := K2) E hn a1 a2 z.1 z.2 hb2 (fun r => s_out (hr2 r) ?_)
  · exact t_k_when_76 E hn a1 a2 r
def k_when (a1 : Int32) (m : M) : Option (Int32 × M) :=
  Option.bind (b_isMember a1 m) (fun v1 => (if v1 = 0 then some ((-1 : Int32), m) else Option.bind (b_isHeard a1 m) (fun v2 => (if v2 = 0 then Option.bind (b_moment m) (fun v3 => Option.bind (b_nightsOf (16 : Int32) m) (fun v4 => k_when_46 a1 v3 v4 m)) else some ((-3 : Int32), m)))))
set_option maxRecDepth 20000 in
theorem t_k_when {G : GG} {x : Cx} (E : En G x cX11_when "WreckBoard" 7 (some .int)) (hn : xn x = 5) (a1 : Int32) (m : M) : Sm G x 0 [(0, .ref (G.2.1 0)), (1, .int a1)] [] m (k_when a1 m) KWi := by
  unfold k_when
  refine s_aload_n 0 E dX11_when_0 rfl rfl ?_
  refine s_getr (k := 0) (T := TX11) 0 E rfl rfl rfl inX11 (by decide) W360 dX11_when_1 ?_
  refine s_iload_n 1 E dX11_when_4 rfl rfl ?_
  refine s_bd (fun v1 hz => ?_)
  refine s_cV (rest := []) E (C_b_isMember (xl x) G a1 m hz) mdX0_isMember W415 W416 W417 W92 W418 rfl rfl rfl rfl (Nat.le_of_ble_eq_true rfl) ⟨by decide, by decide⟩ dX11_when_5 ?_
  refine s_if_ne 13 E dX11_when_8 (by decide) ?_ ?_
  · refine s_aload_n 0 E dX11_when_13 rfl rfl ?_
    refine s_getr (k := 0) (T := TX11) 0 E rfl rfl rfl inX11 (by decide) W360 dX11_when_14 ?_
    refine s_iload_n 1 E dX11_when_17 rfl rfl ?_
    refine s_bd (fun v2 hz => ?_)
    refine s_cV (rest := []) E (C_b_isHeard (xl x) G a1 m hz) mdX0_isHeard W420 W421 W422 W92 W423 rfl rfl rfl rfl (Nat.le_of_ble_eq_true rfl) ⟨by decide, by decide⟩ dX11_when_18 ?_
    refine s_if_eq 27 E dX11_when_21 (by decide) ?_ ?_
    · refine s_aload_n 0 E dX11_when_27 rfl rfl ?_
      refine s_getr (k := 0) (T := TX11) 0 E rfl rfl rfl inX11 (by decide) W360 dX11_when_28 ?_
      refine s_bd (fun v3 hz => ?_)
      refine s_cV (rest := []) E (C_b_moment (xl x) G  m hz) mdX0_moment W822 W823 W824 W92 W825 rfl rfl rfl rfl (Nat.le_of_ble_eq_true rfl) ⟨by decide, by decide⟩ dX11_when_31 ?_
      refine s_lstore_n (lv' := [(0, .ref (G.2.1 0)), (1, .int a1), (2, .long v3)]) [1, 2, 0] E dX11_when_34 rfl (by rw [hn]; decide) rfl ?_
      refine s_aload_n 0 E dX11_when_35 rfl rfl ?_
      refine s_getr (k := 0) (T := TX11) 0 E rfl rfl rfl inX11 (by decide) W360 dX11_when_36 ?_
      refine s_bipush (v := (16 : Int32)) E dX11_when_39 (by decide) ?_
      refine s_bd (fun v4 hz => ?_)
      refine s_cV (rest := []) E (C_b_nightsOf (xl x) G (16 : Int32) m hz) mdX0_nightsOf W843 W831 W832 W92 W833 rfl rfl rfl rfl (Nat.le_of_ble_eq_true rfl) ⟨by decide, by decide⟩ dX11_when_41 ?_
      refine s_istore (lv' := [(0, .ref (G.2.1 0)), (1, .int a1), (2, .long v3), (4, .int v4)]) [1, 2, 3, 0] E dX11_when_44 (by rw [hn]; decide) rfl ?_
      exact t_k_when_46 E hn a1 v3 v4 m
    · refine s_bipush (v := (-3 : Int32)) E dX11_when_24 (by decide) ?_
      exact s_iret E rfl dX11_when_26
  · refine s_iconst (v := (-1 : Int32)) E dX11_when_11 (by decide) ?_
    exact s_iret E rfl dX11_when_12
set_option maxRecDepth 20000 in
theorem C_k_when (l : Launch) (G : GG) (a1 : Int32) (m : M) {z : Int32 × M} (hz : k_when a1 m = some z) : Ct l G yX11_when cX11_when 5 (some .int) 7 [.ref (G.2.1 0), .int a1] m (some (.int z.1)) z.2 :=
  ct_of (K := KWi) (by decide) (Nat.le_of_ble_eq_true rfl) (congrArg (fun q => Option.bind q _) hz) (fun x hl hn E => (t_k_when E hn a1 m))
theorem dX11_bestOf_0 : decode cX11_bestOf 0 = .ok (.aload_n 0, 1) := by decide +kernel
theorem dX11_bestOf_1 : decode cX11_bestOf 1 = .ok (.getfield 12, 3) := by decide +kernel
theorem dX11_bestOf_4 : decode cX11_bestOf 4 = .ok (.invokevirtual 178, 3) := by decide +kernel
theorem dX11_bestOf_7 : decode cX11_bestOf 7 = .ok (.lstore 4, 2) := by decide +kernel
theorem dX11_bestOf_9 : decode cX11_bestOf 9 = .ok (.aload_n 1, 1) := by decide +kernel
theorem dX11_bestOf_10 : decode cX11_bestOf 10 = .ok (.iload_n 2, 1) := by decide +kernel
theorem dX11_bestOf_11 : decode cX11_bestOf 11 = .ok (.iaload, 1) := by decide +kernel
theorem dX11_bestOf_12 : decode cX11_bestOf 12 = .ok (.istore 6, 2) := by decide +kernel
theorem dX11_bestOf_14 : decode cX11_bestOf 14 = .ok (.iconst (-1), 1) := by decide +kernel
theorem dX11_bestOf_15 : decode cX11_bestOf 15 = .ok (.istore 7, 2) := by decide +kernel
theorem dX11_bestOf_17 : decode cX11_bestOf 17 = .ok (.iconst 0, 1) := by decide +kernel
theorem dX11_bestOf_18 : decode cX11_bestOf 18 = .ok (.istore 8, 2) := by decide +kernel
theorem dX11_bestOf_20 : decode cX11_bestOf 20 = .ok (.iconst 0, 1) := by decide +kernel
theorem dX11_bestOf_21 : decode cX11_bestOf 21 = .ok (.istore 9, 2) := by decide +kernel
theorem dX11_bestOf_23 : decode cX11_bestOf 23 = .ok (.iload 9, 2) := by decide +kernel
theorem dX11_bestOf_25 : decode cX11_bestOf 25 = .ok (.iload_n 3, 1) := by decide +kernel
theorem dX11_bestOf_26 : decode cX11_bestOf 26 = .ok (.if_icmp .gt 75, 3) := by decide +kernel
theorem dX11_bestOf_29 : decode cX11_bestOf 29 = .ok (.aload_n 1, 1) := by decide +kernel
theorem dX11_bestOf_30 : decode cX11_bestOf 30 = .ok (.iload_n 2, 1) := by decide +kernel
theorem dX11_bestOf_31 : decode cX11_bestOf 31 = .ok (.iload 9, 2) := by decide +kernel
theorem dX11_bestOf_33 : decode cX11_bestOf 33 = .ok (.iastore, 1) := by decide +kernel
theorem dX11_bestOf_34 : decode cX11_bestOf 34 = .ok (.iconst 0, 1) := by decide +kernel
theorem dX11_bestOf_35 : decode cX11_bestOf 35 = .ok (.istore 10, 2) := by decide +kernel
theorem dX11_bestOf_37 : decode cX11_bestOf 37 = .ok (.aload_n 0, 1) := by decide +kernel
theorem dX11_bestOf_38 : decode cX11_bestOf 38 = .ok (.getfield 12, 3) := by decide +kernel
theorem dX11_bestOf_41 : decode cX11_bestOf 41 = .ok (.bipush 16, 2) := by decide +kernel
theorem dX11_bestOf_43 : decode cX11_bestOf 43 = .ok (.invokevirtual 189, 3) := by decide +kernel
theorem dX11_bestOf_46 : decode cX11_bestOf 46 = .ok (.istore 11, 2) := by decide +kernel
theorem dX11_bestOf_48 : decode cX11_bestOf 48 = .ok (.iload 11, 2) := by decide +kernel
theorem dX11_bestOf_50 : decode cX11_bestOf 50 = .ok (.ifCond .le 21, 3) := by decide +kernel
theorem dX11_bestOf_53 : decode cX11_bestOf 53 = .ok (.iload 10, 2) := by decide +kernel
theorem dX11_bestOf_55 : decode cX11_bestOf 55 = .ok (.aload_n 0, 1) := by decide +kernel
theorem dX11_bestOf_56 : decode cX11_bestOf 56 = .ok (.getfield 12, 3) := by decide +kernel
theorem dX11_bestOf_59 : decode cX11_bestOf 59 = .ok (.invokevirtual 175, 3) := by decide +kernel
theorem dX11_bestOf_62 : decode cX11_bestOf 62 = .ok (.iadd, 1) := by decide +kernel
theorem dX11_bestOf_63 : decode cX11_bestOf 63 = .ok (.istore 10, 2) := by decide +kernel
theorem dX11_bestOf_65 : decode cX11_bestOf 65 = .ok (.iinc 11 (-1), 3) := by decide +kernel
theorem dX11_bestOf_68 : decode cX11_bestOf 68 = .ok (.goto (-20), 3) := by decide +kernel
theorem dX11_bestOf_71 : decode cX11_bestOf 71 = .ok (.aload_n 0, 1) := by decide +kernel
theorem dX11_bestOf_72 : decode cX11_bestOf 72 = .ok (.getfield 12, 3) := by decide +kernel
theorem dX11_bestOf_75 : decode cX11_bestOf 75 = .ok (.lload 4, 2) := by decide +kernel
theorem dX11_bestOf_77 : decode cX11_bestOf 77 = .ok (.invokevirtual 185, 3) := by decide +kernel
theorem dX11_bestOf_80 : decode cX11_bestOf 80 = .ok (.iload 10, 2) := by decide +kernel
theorem dX11_bestOf_82 : decode cX11_bestOf 82 = .ok (.iload 7, 2) := by decide +kernel
theorem dX11_bestOf_84 : decode cX11_bestOf 84 = .ok (.if_icmp .le 11, 3) := by decide +kernel
theorem dX11_bestOf_87 : decode cX11_bestOf 87 = .ok (.iload 10, 2) := by decide +kernel
theorem dX11_bestOf_89 : decode cX11_bestOf 89 = .ok (.istore 7, 2) := by decide +kernel
theorem dX11_bestOf_91 : decode cX11_bestOf 91 = .ok (.iload 9, 2) := by decide +kernel
theorem dX11_bestOf_93 : decode cX11_bestOf 93 = .ok (.istore 8, 2) := by decide +kernel
theorem dX11_bestOf_95 : decode cX11_bestOf 95 = .ok (.iinc 9 1, 3) := by decide +kernel
theorem dX11_bestOf_98 : decode cX11_bestOf 98 = .ok (.goto (-75), 3) := by decide +kernel
theorem dX11_bestOf_101 : decode cX11_bestOf 101 = .ok (.aload_n 1, 1) := by decide +kernel
theorem dX11_bestOf_102 : decode cX11_bestOf 102 = .ok (.iload_n 2, 1) := by decide +kernel
theorem dX11_bestOf_103 : decode cX11_bestOf 103 = .ok (.iload 6, 2) := by decide +kernel
theorem dX11_bestOf_105 : decode cX11_bestOf 105 = .ok (.iastore, 1) := by decide +kernel
theorem dX11_bestOf_106 : decode cX11_bestOf 106 = .ok (.iload 8, 2) := by decide +kernel
theorem dX11_bestOf_108 : decode cX11_bestOf 108 = .ok (.ireturn, 1) := by decide +kernel
def k_bestOf_48b (a1 : Nat) (a2 : Int32) (a3 : Int32) (a4 : Int64) (a6 : Int32) (a7 : Int32) (a8 : Int32) (a9 : Int32) (a10 : Int32) (a11 : Int32) (m : M) : Option ((Int32 × Int32 × M) ⊕ ((Int32 × M))) :=
  (if a11 ≤ 0 then some (.inr (a10, m)) else Option.bind (b_nightOfRest m) (fun z1 => lt (a10 + z1.1) (fun w2 : Int32 => lt (a11 + (-1 : Int32)) (fun w3 : Int32 => some (.inl (w2, w3, z1.2))))))
set_option maxRecDepth 20000 in
theorem t_k_bestOf_48b {G : GG} {x : Cx} {K : ((Int32 × Int32 × M) ⊕ ((Int32 × M))) → Option (Option Value × M)} (E : En G x cX11_bestOf "WreckBoard" 7 (some .int)) (hn : xn x = 12) (a1 : Nat) (a2 : Int32) (a3 : Int32) (a4 : Int64) (a6 : Int32) (a7 : Int32) (a8 : Int32) (a9 : Int32) (a10 : Int32) (a11 : Int32) (m : M) (hb : ∀ z : Int32 × Int32 × M, Sm G x 48 [(0, .ref (G.2.1 0)), (1, .ref (G.2.1 a1)), (2, .int a2), (3, .int a3), (4, .long a4), (6, .int a6), (7, .int a7), (8, .int a8), (9, .int a9), (10, .int z.1), (11, .int z.2.1)] [] z.2.2 (some (.inl z)) K) (hx0 : ∀ z : Int32 × M, Sm G x 71 [(0, .ref (G.2.1 0)), (1, .ref (G.2.1 a1)), (2, .int a2), (3, .int a3), (4, .long a4), (6, .int a6), (7, .int a7), (8, .int a8), (9, .int a9), (10, .int z.1)] [] z.2 (some (.inr z)) K) : Sm G x 48 [(0, .ref (G.2.1 0)), (1, .ref (G.2.1 a1)), (2, .int a2), (3, .int a3), (4, .long a4), (6, .int a6), (7, .int a7), (8, .int a8), (9, .int a9), (10, .int a10), (11, .int a11)] [] m (k_bestOf_48b a1 a2 a3 a4 a6 a7 a8 a9 a10 a11 m) K := by
  unfold k_bestOf_48b
  refine s_iload 10 E dX11_bestOf_48 rfl ?_
  refine s_if_le 71 E dX11_bestOf_50 (by decide) ?_ ?_
  · refine s_sub (lv' := [(0, .ref (G.2.1 0)), (1, .ref (G.2.1 a1)), (2, .int a2), (3, .int a3), (4, .long a4), (6, .int a6), (7, .int a7), (8, .int a8), (9, .int a9), (10, .int a10)]) [0, 1, 2, 3, 4, 5, 6, 7, 8, 9] rfl ?_
    exact hx0 (a10, m)
  · refine s_iload 9 E dX11_bestOf_53 rfl ?_
    refine s_aload_n 0 E dX11_bestOf_55 rfl rfl ?_
    refine s_getr (k := 0) (T := TX11) 0 E rfl rfl rfl inX11 (by decide) W360 dX11_bestOf_56 ?_
    refine s_bd (fun z1 hz => ?_)
    refine s_cV (rest := [.int a10]) E (C_b_nightOfRest (xl x) G  m hz) mdX0_nightOfRest W792 W793 W794 W92 W795 rfl rfl rfl rfl (Nat.le_of_ble_eq_true rfl) ⟨by decide, by decide⟩ dX11_bestOf_59 ?_
    refine s_iadd E dX11_bestOf_62 ?_
    refine s_lt (fun w2 => [(0, .ref (G.2.1 0)), (1, .ref (G.2.1 a1)), (2, .int a2), (3, .int a3), (4, .long a4), (6, .int a6), (7, .int a7), (8, .int a8), (9, .int a9), (10, .int a10), (11, .int a11)]) (fun w2 => [.int w2]) rfl rfl (fun w2 => ?_)
    refine s_istore (lv' := [(0, .ref (G.2.1 0)), (1, .ref (G.2.1 a1)), (2, .int a2), (3, .int a3), (4, .long a4), (6, .int a6), (7, .int a7), (8, .int a8), (9, .int a9), (10, .int w2), (11, .int a11)]) [1, 2, 3, 4, 5, 6, 7, 8, 9, 0, 10] E dX11_bestOf_63 (by rw [hn]; decide) rfl ?_
    refine s_iincL (v := (-1 : Int32)) 10 [1, 2, 3, 4, 5, 6, 7, 8, 9, 10, 0] (fun w3 => [(0, .ref (G.2.1 0)), (1, .ref (G.2.1 a1)), (2, .int a2), (3, .int a3), (4, .long a4), (6, .int a6), (7, .int a7), (8, .int a8), (9, .int a9), (10, .int w2), (11, .int w3)]) E dX11_bestOf_65 rfl (by decide) (by rw [hn]; decide) (fun _ => rfl) (fun w3 => ?_)
    refine s_goto 48 E dX11_bestOf_68 (by decide) ?_
    exact hb (w2, w3, z1.2)
def k_bestOf_95 (a1 : Nat) (a2 : Int32) (a3 : Int32) (a4 : Int64) (a6 : Int32) (a7 : Int32) (a8 : Int32) (a9 : Int32) (m : M) : Option ((Int32 × Int32 × Int32 × M) ⊕ ((Int32 × M))) :=
  lt (a9 + (1 : Int32)) (fun w1 : Int32 => some (.inl (a7, a8, w1, m)))
set_option maxRecDepth 20000 in
theorem t_k_bestOf_95 {G : GG} {x : Cx} {K : ((Int32 × Int32 × Int32 × M) ⊕ ((Int32 × M))) → Option (Option Value × M)} (E : En G x cX11_bestOf "WreckBoard" 7 (some .int)) (hn : xn x = 12) (a1 : Nat) (a2 : Int32) (a3 : Int32) (a4 : Int64) (a6 : Int32) (a7 : Int32) (a8 : Int32) (a9 : Int32) (m : M) (hb : ∀ z : Int32 × Int32 × Int32 × M, Sm G x 23 [(0, .ref (G.2.1 0)), (1, .ref (G.2.1 a1)), (2, .int a2), (3, .int a3), (4, .long a4), (6, .int a6), (7, .int z.1), (8, .int z.2.1), (9, .int z.2.2.1)] [] z.2.2.2 (some (.inl z)) K) (hx0 : ∀ z : Int32 × M, Sm G x 101 [(1, .ref (G.2.1 a1)), (2, .int a2), (6, .int a6), (8, .int z.1)] [] z.2 (some (.inr z)) K) : Sm G x 95 [(0, .ref (G.2.1 0)), (1, .ref (G.2.1 a1)), (2, .int a2), (3, .int a3), (4, .long a4), (6, .int a6), (7, .int a7), (8, .int a8), (9, .int a9)] [] m (k_bestOf_95 a1 a2 a3 a4 a6 a7 a8 a9 m) K := by
  unfold k_bestOf_95
  refine s_iincL (v := (1 : Int32)) 8 [1, 2, 3, 4, 5, 6, 7, 8, 0] (fun w1 => [(0, .ref (G.2.1 0)), (1, .ref (G.2.1 a1)), (2, .int a2), (3, .int a3), (4, .long a4), (6, .int a6), (7, .int a7), (8, .int a8), (9, .int w1)]) E dX11_bestOf_95 rfl (by decide) (by rw [hn]; decide) (fun _ => rfl) (fun w1 => ?_)
  refine s_goto 23 E dX11_bestOf_98 (by decide) ?_
  exact hb (a7, a8, w1, m)
def k_bestOf_48 (a1 : Nat) (a2 : Int32) (a3 : Int32) (a4 : Int64) (a6 : Int32) (a7 : Int32) (a8 : Int32) (a9 : Int32) (a10 : Int32) (a11 : Int32) (m : M) : Option ((Int32 × Int32 × Int32 × M) ⊕ ((Int32 × M))) :=
  Option.bind (iter (fun z => k_bestOf_48b a1 a2 a3 a4 a6 a7 a8 a9 z.1 z.2.1 z.2.2) FU (a10, a11, m)) (fun r => Option.bind (b_goBackTo a4 r.2) (fun m4 => (if r.1 ≤ a7 then k_bestOf_95 a1 a2 a3 a4 a6 a7 a8 a9 m4 else k_bestOf_95 a1 a2 a3 a4 a6 r.1 a9 a9 m4)))
set_option maxRecDepth 20000 in
theorem t_k_bestOf_48 {G : GG} {x : Cx} {K : ((Int32 × Int32 × Int32 × M) ⊕ ((Int32 × M))) → Option (Option Value × M)} (E : En G x cX11_bestOf "WreckBoard" 7 (some .int)) (hn : xn x = 12) (a1 : Nat) (a2 : Int32) (a3 : Int32) (a4 : Int64) (a6 : Int32) (a7 : Int32) (a8 : Int32) (a9 : Int32) (a10 : Int32) (a11 : Int32) (m : M) (hb : ∀ z : Int32 × Int32 × Int32 × M, Sm G x 23 [(0, .ref (G.2.1 0)), (1, .ref (G.2.1 a1)), (2, .int a2), (3, .int a3), (4, .long a4), (6, .int a6), (7, .int z.1), (8, .int z.2.1), (9, .int z.2.2.1)] [] z.2.2.2 (some (.inl z)) K) (hx0 : ∀ z : Int32 × M, Sm G x 101 [(1, .ref (G.2.1 a1)), (2, .int a2), (6, .int a6), (8, .int z.1)] [] z.2 (some (.inr z)) K) : Sm G x 48 [(0, .ref (G.2.1 0)), (1, .ref (G.2.1 a1)), (2, .int a2), (3, .int a3), (4, .long a4), (6, .int a6), (7, .int a7), (8, .int a8), (9, .int a9), (10, .int a10), (11, .int a11)] [] m (k_bestOf_48 a1 a2 a3 a4 a6 a7 a8 a9 a10 a11 m) K := by
  unfold k_bestOf_48
  refine s_loop (fun z => [(0, .ref (G.2.1 0)), (1, .ref (G.2.1 a1)), (2, .int a2), (3, .int a3), (4, .long a4), (6, .int a6), (7, .int a7), (8, .int a8), (9, .int a9), (10, .int z.1), (11, .int z.2.1)]) (fun z => z.2.2) (fun K2 hb2 hr2 z => ?_) FU (a10, a11, m)
  refine t_k_bestOf_48b (K := K2) E hn a1 a2 a3 a4 a6 a7 a8 a9 z.1 z.2.1 z.2.2 hb2 (fun r => s_out (hr2 r) ?_)
  · refine s_aload_n 0 E dX11_bestOf_71 rfl rfl ?_
    refine s_getr (k := 0) (T := TX11) 0 E rfl rfl rfl inX11 (by decide) W360 dX11_bestOf_72 ?_
    refine s_lload 4 E dX11_bestOf_75 rfl ?_
    refine s_bd (fun m4 hz => ?_)
    refine s_cV (rest := []) E (C_b_goBackTo (xl x) G a4 r.2 hz) mdX0_goBackTo W835 W836 W837 W92 W838 rfl rfl rfl rfl (Nat.le_of_ble_eq_true rfl) ⟨by decide, by decide⟩ dX11_bestOf_77 ?_
    refine s_iload 9 E dX11_bestOf_80 rfl ?_
    refine s_iload 6 E dX11_bestOf_82 rfl ?_
    refine s_icmp_le 95 E dX11_bestOf_84 (by decide) ?_ ?_
    · refine s_sub (lv' := [(0, .ref (G.2.1 0)), (1, .ref (G.2.1 a1)), (2, .int a2), (3, .int a3), (4, .long a4), (6, .int a6), (7, .int a7), (8, .int a8), (9, .int a9)]) [0, 1, 2, 3, 4, 5, 6, 7, 8] rfl ?_
      exact t_k_bestOf_95 E hn a1 a2 a3 a4 a6 a7 a8 a9 m4 hb hx0
    · refine s_iload 9 E dX11_bestOf_87 rfl ?_
      refine s_istore (lv' := [(0, .ref (G.2.1 0)), (1, .ref (G.2.1 a1)), (2, .int a2), (3, .int a3), (4, .long a4), (6, .int a6), (7, .int r.1), (9, .int a9)]) [1, 2, 3, 4, 5, 6, 0, 8] E dX11_bestOf_89 (by rw [hn]; decide) rfl ?_
      refine s_iload 7 E dX11_bestOf_91 rfl ?_
      refine s_istore (lv' := [(0, .ref (G.2.1 0)), (1, .ref (G.2.1 a1)), (2, .int a2), (3, .int a3), (4, .long a4), (6, .int a6), (7, .int r.1), (8, .int a9), (9, .int a9)]) [1, 2, 3, 4, 5, 6, 7, 0, 8] E dX11_bestOf_93 (by rw [hn]; decide) rfl ?_
      exact t_k_bestOf_95 E hn a1 a2 a3 a4 a6 r.1 a9 a9 m4 hb hx0
def k_bestOf_23b (a1 : Nat) (a2 : Int32) (a3 : Int32) (a4 : Int64) (a6 : Int32) (a7 : Int32) (a8 : Int32) (a9 : Int32) (m : M) : Option ((Int32 × Int32 × Int32 × M) ⊕ ((Int32 × M))) :=
  (if a3 < a9 then some (.inr (a8, m)) else Option.bind (wrI m a1 a2 a9) (fun m1 => Option.bind (b_nightsOf (16 : Int32) m1) (fun v2 => k_bestOf_48 a1 a2 a3 a4 a6 a7 a8 a9 (0 : Int32) v2 m1)))
set_option maxRecDepth 20000 in
theorem t_k_bestOf_23b {G : GG} {x : Cx} {K : ((Int32 × Int32 × Int32 × M) ⊕ ((Int32 × M))) → Option (Option Value × M)} (E : En G x cX11_bestOf "WreckBoard" 7 (some .int)) (hn : xn x = 12) (a1 : Nat) (a2 : Int32) (a3 : Int32) (a4 : Int64) (a6 : Int32) (a7 : Int32) (a8 : Int32) (a9 : Int32) (m : M) (hb : ∀ z : Int32 × Int32 × Int32 × M, Sm G x 23 [(0, .ref (G.2.1 0)), (1, .ref (G.2.1 a1)), (2, .int a2), (3, .int a3), (4, .long a4), (6, .int a6), (7, .int z.1), (8, .int z.2.1), (9, .int z.2.2.1)] [] z.2.2.2 (some (.inl z)) K) (hx0 : ∀ z : Int32 × M, Sm G x 101 [(1, .ref (G.2.1 a1)), (2, .int a2), (6, .int a6), (8, .int z.1)] [] z.2 (some (.inr z)) K) : Sm G x 23 [(0, .ref (G.2.1 0)), (1, .ref (G.2.1 a1)), (2, .int a2), (3, .int a3), (4, .long a4), (6, .int a6), (7, .int a7), (8, .int a8), (9, .int a9)] [] m (k_bestOf_23b a1 a2 a3 a4 a6 a7 a8 a9 m) K := by
  unfold k_bestOf_23b
  refine s_iload 8 E dX11_bestOf_23 rfl ?_
  refine s_iload_n 3 E dX11_bestOf_25 rfl rfl ?_
  refine s_icmp_gt 101 E dX11_bestOf_26 (by decide) ?_ ?_
  · refine s_sub (lv' := [(1, .ref (G.2.1 a1)), (2, .int a2), (6, .int a6), (8, .int a8)]) [1, 2, 5, 7] rfl ?_
    exact hx0 (a8, m)
  · refine s_aload_n 1 E dX11_bestOf_29 rfl rfl ?_
    refine s_iload_n 2 E dX11_bestOf_30 rfl rfl ?_
    refine s_iload 8 E dX11_bestOf_31 rfl ?_
    refine s_iast E dX11_bestOf_33 (fun m1 => ?_)
    refine s_iconst (v := (0 : Int32)) E dX11_bestOf_34 (by decide) ?_
    refine s_istore (lv' := [(0, .ref (G.2.1 0)), (1, .ref (G.2.1 a1)), (2, .int a2), (3, .int a3), (4, .long a4), (6, .int a6), (7, .int a7), (8, .int a8), (9, .int a9), (10, .int (0 : Int32))]) [1, 2, 3, 4, 5, 6, 7, 8, 9, 0] E dX11_bestOf_35 (by rw [hn]; decide) rfl ?_
    refine s_aload_n 0 E dX11_bestOf_37 rfl rfl ?_
    refine s_getr (k := 0) (T := TX11) 0 E rfl rfl rfl inX11 (by decide) W360 dX11_bestOf_38 ?_
    refine s_bipush (v := (16 : Int32)) E dX11_bestOf_41 (by decide) ?_
    refine s_bd (fun v2 hz => ?_)
    refine s_cV (rest := []) E (C_b_nightsOf (xl x) G (16 : Int32) m1 hz) mdX0_nightsOf W843 W831 W832 W92 W833 rfl rfl rfl rfl (Nat.le_of_ble_eq_true rfl) ⟨by decide, by decide⟩ dX11_bestOf_43 ?_
    refine s_istore (lv' := [(0, .ref (G.2.1 0)), (1, .ref (G.2.1 a1)), (2, .int a2), (3, .int a3), (4, .long a4), (6, .int a6), (7, .int a7), (8, .int a8), (9, .int a9), (10, .int (0 : Int32)), (11, .int v2)]) [1, 2, 3, 4, 5, 6, 7, 8, 9, 10, 0] E dX11_bestOf_46 (by rw [hn]; decide) rfl ?_
    exact t_k_bestOf_48 E hn a1 a2 a3 a4 a6 a7 a8 a9 (0 : Int32) v2 m1 hb hx0
def k_bestOf_23 (a1 : Nat) (a2 : Int32) (a3 : Int32) (a4 : Int64) (a6 : Int32) (a7 : Int32) (a8 : Int32) (a9 : Int32) (m : M) : Option (Int32 × M) :=
  Option.bind (iter (fun z => k_bestOf_23b a1 a2 a3 a4 a6 z.1 z.2.1 z.2.2.1 z.2.2.2) FU (a7, a8, a9, m)) (fun r => Option.bind (wrI r.2 a1 a2 a6) (fun m3 => some (r.1, m3)))
set_option maxRecDepth 20000 in
theorem t_k_bestOf_23 {G : GG} {x : Cx} (E : En G x cX11_bestOf "WreckBoard" 7 (some .int)) (hn : xn x = 12) (a1 : Nat) (a2 : Int32) (a3 : Int32) (a4 : Int64) (a6 : Int32) (a7 : Int32) (a8 : Int32) (a9 : Int32) (m : M) : Sm G x 23 [(0, .ref (G.2.1 0)), (1, .ref (G.2.1 a1)), (2, .int a2), (3, .int a3), (4, .long a4), (6, .int a6), (7, .int a7), (8, .int a8), (9, .int a9)] [] m (k_bestOf_23 a1 a2 a3 a4 a6 a7 a8 a9 m) KWi := by
  unfold k_bestOf_23
  refine s_loop (fun z => [(0, .ref (G.2.1 0)), (1, .ref (G.2.1 a1)), (2, .int a2), (3, .int a3), (4, .long a4), (6, .int a6), (7, .int z.1), (8, .int z.2.1), (9, .int z.2.2.1)]) (fun z => z.2.2.2) (fun K2 hb2 hr2 z => ?_) FU (a7, a8, a9, m)
  refine t_k_bestOf_23b (K := K2) E hn a1 a2 a3 a4 a6 z.1 z.2.1 z.2.2.1 z.2.2.2 hb2 (fun r => s_out (hr2 r) ?_)
  · refine s_aload_n 0 E dX11_bestOf_101 rfl rfl ?_
    refine s_iload_n 1 E dX11_bestOf_102 rfl rfl ?_
    refine s_iload 2 E dX11_bestOf_103 rfl ?_
    refine s_iast E dX11_bestOf_105 (fun m3 => ?_)
    refine s_iload 3 E dX11_bestOf_106 rfl ?_
    exact s_iret E rfl dX11_bestOf_108
def k_bestOf (a1 : Nat) (a2 : Int32) (a3 : Int32) (m : M) : Option (Int32 × M) :=
  Option.bind (b_moment m) (fun v1 => Option.bind (rdI m a1 a2) (fun v2 => k_bestOf_23 a1 a2 a3 v1 v2 (-1 : Int32) (0 : Int32) (0 : Int32) m))
set_option maxRecDepth 20000 in
theorem t_k_bestOf {G : GG} {x : Cx} (E : En G x cX11_bestOf "WreckBoard" 7 (some .int)) (hn : xn x = 12) (a1 : Nat) (a2 : Int32) (a3 : Int32) (m : M) : Sm G x 0 [(0, .ref (G.2.1 0)), (1, .ref (G.2.1 a1)), (2, .int a2), (3, .int a3)] [] m (k_bestOf a1 a2 a3 m) KWi := by
  unfold k_bestOf
  refine s_aload_n 0 E dX11_bestOf_0 rfl rfl ?_
  refine s_getr (k := 0) (T := TX11) 0 E rfl rfl rfl inX11 (by decide) W360 dX11_bestOf_1 ?_
  refine s_bd (fun v1 hz => ?_)
  refine s_cV (rest := []) E (C_b_moment (xl x) G  m hz) mdX0_moment W822 W823 W824 W92 W825 rfl rfl rfl rfl (Nat.le_of_ble_eq_true rfl) ⟨by decide, by decide⟩ dX11_bestOf_4 ?_
  refine s_lstore (lv' := [(0, .ref (G.2.1 0)), (1, .ref (G.2.1 a1)), (2, .int a2), (3, .int a3), (4, .long v1)]) [1, 2, 3, 4, 0] E dX11_bestOf_7 (by rw [hn]; decide) rfl ?_
  refine s_aload_n 1 E dX11_bestOf_9 rfl rfl ?_
  refine s_iload_n 2 E dX11_bestOf_10 rfl rfl ?_
  refine s_iald E dX11_bestOf_11 (fun v2 => ?_)
  refine s_istore (lv' := [(0, .ref (G.2.1 0)), (1, .ref (G.2.1 a1)), (2, .int a2), (3, .int a3), (4, .long v1), (6, .int v2)]) [1, 2, 3, 4, 5, 0] E dX11_bestOf_12 (by rw [hn]; decide) rfl ?_
  refine s_iconst (v := (-1 : Int32)) E dX11_bestOf_14 (by decide) ?_
  refine s_istore (lv' := [(0, .ref (G.2.1 0)), (1, .ref (G.2.1 a1)), (2, .int a2), (3, .int a3), (4, .long v1), (6, .int v2), (7, .int (-1 : Int32))]) [1, 2, 3, 4, 5, 6, 0] E dX11_bestOf_15 (by rw [hn]; decide) rfl ?_
  refine s_iconst (v := (0 : Int32)) E dX11_bestOf_17 (by decide) ?_
  refine s_istore (lv' := [(0, .ref (G.2.1 0)), (1, .ref (G.2.1 a1)), (2, .int a2), (3, .int a3), (4, .long v1), (6, .int v2), (7, .int (-1 : Int32)), (8, .int (0 : Int32))]) [1, 2, 3, 4, 5, 6, 7, 0] E dX11_bestOf_18 (by rw [hn]; decide) rfl ?_
  refine s_iconst (v := (0 : Int32)) E dX11_bestOf_20 (by decide) ?_
  refine s_istore (lv' := [(0, .ref (G.2.1 0)), (1, .ref (G.2.1 a1)), (2, .int a2), (3, .int a3), (4, .long v1), (6, .int v2), (7, .int (-1 : Int32)), (8, .int (0 : Int32)), (9, .int (0 : Int32))]) [1, 2, 3, 4, 5, 6, 7, 8, 0] E dX11_bestOf_21 (by rw [hn]; decide) rfl ?_
  exact t_k_bestOf_23 E hn a1 a2 a3 v1 v2 (-1 : Int32) (0 : Int32) (0 : Int32) m
set_option maxRecDepth 20000 in
theorem C_k_bestOf (l : Launch) (G : GG) (a1 : Nat) (a2 : Int32) (a3 : Int32) (m : M) {z : Int32 × M} (hz : k_bestOf a1 a2 a3 m = some z) : Ct l G yX11_bestOf cX11_bestOf 12 (some .int) 7 [.ref (G.2.1 0), .ref (G.2.1 a1), .int a2, .int a3] m (some (.int z.1)) z.2 :=
  ct_of (K := KWi) (by decide) (Nat.le_of_ble_eq_true rfl) (congrArg (fun q => Option.bind q _) hz) (fun x hl hn E => (t_k_bestOf E hn a1 a2 a3 m))
theorem mdX11_bestOf : mdq yX11_bestOf 3 := ⟨by decide, by decide, by decide +kernel⟩
theorem dX11_votesFor_0 : decode cX11_votesFor 0 = .ok (.aload_n 0, 1) := by decide +kernel
theorem dX11_votesFor_1 : decode cX11_votesFor 1 = .ok (.getfield 12, 3) := by decide +kernel
theorem dX11_votesFor_4 : decode cX11_votesFor 4 = .ok (.iload_n 1, 1) := by decide +kernel
theorem dX11_votesFor_5 : decode cX11_votesFor 5 = .ok (.invokevirtual 73, 3) := by decide +kernel
theorem dX11_votesFor_8 : decode cX11_votesFor 8 = .ok (.ifCond .eq 20, 3) := by decide +kernel
theorem dX11_votesFor_11 : decode cX11_votesFor 11 = .ok (.aload_n 0, 1) := by decide +kernel
theorem dX11_votesFor_12 : decode cX11_votesFor 12 = .ok (.aload_n 0, 1) := by decide +kernel
theorem dX11_votesFor_13 : decode cX11_votesFor 13 = .ok (.getfield 12, 3) := by decide +kernel
theorem dX11_votesFor_16 : decode cX11_votesFor 16 = .ok (.getfield 80, 3) := by decide +kernel
theorem dX11_votesFor_19 : decode cX11_votesFor 19 = .ok (.iload_n 1, 1) := by decide +kernel
theorem dX11_votesFor_20 : decode cX11_votesFor 20 = .ok (.bipush 9, 2) := by decide +kernel
theorem dX11_votesFor_22 : decode cX11_votesFor 22 = .ok (.invokevirtual 192, 3) := by decide +kernel
theorem dX11_votesFor_25 : decode cX11_votesFor 25 = .ok (.goto 4, 3) := by decide +kernel
theorem dX11_votesFor_28 : decode cX11_votesFor 28 = .ok (.iconst (-1), 1) := by decide +kernel
theorem dX11_votesFor_29 : decode cX11_votesFor 29 = .ok (.ireturn, 1) := by decide +kernel
def k_votesFor (a1 : Int32) (m : M) : Option (Int32 × M) :=
  Option.bind (b_isMember a1 m) (fun v1 => (if v1 = 0 then some ((-1 : Int32), m) else Option.bind (k_bestOf 11 a1 (9 : Int32) m) (fun z2 => some (z2.1, z2.2))))
set_option maxRecDepth 20000 in
theorem t_k_votesFor {G : GG} {x : Cx} (E : En G x cX11_votesFor "WreckBoard" 8 (some .int)) (hn : xn x = 2) (a1 : Int32) (m : M) : Sm G x 0 [(0, .ref (G.2.1 0)), (1, .int a1)] [] m (k_votesFor a1 m) KWi := by
  unfold k_votesFor
  refine s_aload_n 0 E dX11_votesFor_0 rfl rfl ?_
  refine s_getr (k := 0) (T := TX11) 0 E rfl rfl rfl inX11 (by decide) W360 dX11_votesFor_1 ?_
  refine s_iload_n 1 E dX11_votesFor_4 rfl rfl ?_
  refine s_bd (fun v1 hz => ?_)
  refine s_cV (rest := []) E (C_b_isMember (xl x) G a1 m hz) mdX0_isMember W415 W416 W417 W92 W418 rfl rfl rfl rfl (Nat.le_of_ble_eq_true rfl) ⟨by decide, by decide⟩ dX11_votesFor_5 ?_
  refine s_if_eq 28 E dX11_votesFor_8 (by decide) ?_ ?_
  · refine s_iconst (v := (-1 : Int32)) E dX11_votesFor_28 (by decide) ?_
    exact s_iret E rfl dX11_votesFor_29
  · refine s_aload_n 0 E dX11_votesFor_11 rfl rfl ?_
    refine s_aload_n 0 E dX11_votesFor_12 rfl rfl ?_
    refine s_getr (k := 0) (T := TX11) 0 E rfl rfl rfl inX11 (by decide) W360 dX11_votesFor_13 ?_
    refine s_getr (k := 10) (T := TX0) 1 E rfl rfl rfl inX0 (by decide) W245 dX11_votesFor_16 ?_
    refine s_iload_n 1 E dX11_votesFor_19 rfl rfl ?_
    refine s_bipush (v := (9 : Int32)) E dX11_votesFor_20 (by decide) ?_
    refine s_bd (fun z2 hz => ?_)
    refine s_cV (rest := []) E (C_k_bestOf (xl x) G 11 a1 (9 : Int32) m hz) mdX11_bestOf W848 W850 W14 W91 W851 rfl rfl rfl rfl (Nat.le_of_ble_eq_true rfl) ⟨by decide, by decide⟩ dX11_votesFor_22 ?_
    refine s_goto 29 E dX11_votesFor_25 (by decide) ?_
    exact s_iret E rfl dX11_votesFor_29
set_option maxRecDepth 20000 in
theorem C_k_votesFor (l : Launch) (G : GG) (a1 : Int32) (m : M) {z : Int32 × M} (hz : k_votesFor a1 m = some z) : Ct l G yX11_votesFor cX11_votesFor 2 (some .int) 8 [.ref (G.2.1 0), .int a1] m (some (.int z.1)) z.2 :=
  ct_of (K := KWi) (by decide) (Nat.le_of_ble_eq_true rfl) (congrArg (fun q => Option.bind q _) hz) (fun x hl hn E => (t_k_votesFor E hn a1 m))
theorem dX11_benchFor_0 : decode cX11_benchFor 0 = .ok (.aload_n 0, 1) := by decide +kernel
theorem dX11_benchFor_1 : decode cX11_benchFor 1 = .ok (.getfield 12, 3) := by decide +kernel
theorem dX11_benchFor_4 : decode cX11_benchFor 4 = .ok (.iload_n 1, 1) := by decide +kernel
theorem dX11_benchFor_5 : decode cX11_benchFor 5 = .ok (.invokevirtual 73, 3) := by decide +kernel
theorem dX11_benchFor_8 : decode cX11_benchFor 8 = .ok (.ifCond .eq 19, 3) := by decide +kernel
theorem dX11_benchFor_11 : decode cX11_benchFor 11 = .ok (.aload_n 0, 1) := by decide +kernel
theorem dX11_benchFor_12 : decode cX11_benchFor 12 = .ok (.aload_n 0, 1) := by decide +kernel
theorem dX11_benchFor_13 : decode cX11_benchFor 13 = .ok (.getfield 12, 3) := by decide +kernel
theorem dX11_benchFor_16 : decode cX11_benchFor 16 = .ok (.getfield 86, 3) := by decide +kernel
theorem dX11_benchFor_19 : decode cX11_benchFor 19 = .ok (.iload_n 1, 1) := by decide +kernel
theorem dX11_benchFor_20 : decode cX11_benchFor 20 = .ok (.iconst 5, 1) := by decide +kernel
theorem dX11_benchFor_21 : decode cX11_benchFor 21 = .ok (.invokevirtual 192, 3) := by decide +kernel
theorem dX11_benchFor_24 : decode cX11_benchFor 24 = .ok (.goto 4, 3) := by decide +kernel
theorem dX11_benchFor_27 : decode cX11_benchFor 27 = .ok (.iconst (-1), 1) := by decide +kernel
theorem dX11_benchFor_28 : decode cX11_benchFor 28 = .ok (.ireturn, 1) := by decide +kernel
def k_benchFor (a1 : Int32) (m : M) : Option (Int32 × M) :=
  Option.bind (b_isMember a1 m) (fun v1 => (if v1 = 0 then some ((-1 : Int32), m) else Option.bind (k_bestOf 13 a1 (5 : Int32) m) (fun z2 => some (z2.1, z2.2))))
set_option maxRecDepth 20000 in
theorem t_k_benchFor {G : GG} {x : Cx} (E : En G x cX11_benchFor "WreckBoard" 8 (some .int)) (hn : xn x = 2) (a1 : Int32) (m : M) : Sm G x 0 [(0, .ref (G.2.1 0)), (1, .int a1)] [] m (k_benchFor a1 m) KWi := by
  unfold k_benchFor
  refine s_aload_n 0 E dX11_benchFor_0 rfl rfl ?_
  refine s_getr (k := 0) (T := TX11) 0 E rfl rfl rfl inX11 (by decide) W360 dX11_benchFor_1 ?_
  refine s_iload_n 1 E dX11_benchFor_4 rfl rfl ?_
  refine s_bd (fun v1 hz => ?_)
  refine s_cV (rest := []) E (C_b_isMember (xl x) G a1 m hz) mdX0_isMember W415 W416 W417 W92 W418 rfl rfl rfl rfl (Nat.le_of_ble_eq_true rfl) ⟨by decide, by decide⟩ dX11_benchFor_5 ?_
  refine s_if_eq 27 E dX11_benchFor_8 (by decide) ?_ ?_
  · refine s_iconst (v := (-1 : Int32)) E dX11_benchFor_27 (by decide) ?_
    exact s_iret E rfl dX11_benchFor_28
  · refine s_aload_n 0 E dX11_benchFor_11 rfl rfl ?_
    refine s_aload_n 0 E dX11_benchFor_12 rfl rfl ?_
    refine s_getr (k := 0) (T := TX11) 0 E rfl rfl rfl inX11 (by decide) W360 dX11_benchFor_13 ?_
    refine s_getr (k := 12) (T := TX0) 1 E rfl rfl rfl inX0 (by decide) W251 dX11_benchFor_16 ?_
    refine s_iload_n 1 E dX11_benchFor_19 rfl rfl ?_
    refine s_iconst (v := (5 : Int32)) E dX11_benchFor_20 (by decide) ?_
    refine s_bd (fun z2 hz => ?_)
    refine s_cV (rest := []) E (C_k_bestOf (xl x) G 13 a1 (5 : Int32) m hz) mdX11_bestOf W848 W850 W14 W91 W851 rfl rfl rfl rfl (Nat.le_of_ble_eq_true rfl) ⟨by decide, by decide⟩ dX11_benchFor_21 ?_
    refine s_goto 28 E dX11_benchFor_24 (by decide) ?_
    exact s_iret E rfl dX11_benchFor_28
set_option maxRecDepth 20000 in
theorem C_k_benchFor (l : Launch) (G : GG) (a1 : Int32) (m : M) {z : Int32 × M} (hz : k_benchFor a1 m = some z) : Ct l G yX11_benchFor cX11_benchFor 2 (some .int) 8 [.ref (G.2.1 0), .int a1] m (some (.int z.1)) z.2 :=
  ct_of (K := KWi) (by decide) (Nat.le_of_ble_eq_true rfl) (congrArg (fun q => Option.bind q _) hz) (fun x hl hn E => (t_k_benchFor E hn a1 m))
theorem dX11_fund_0 : decode cX11_fund 0 = .ok (.iload_n 1, 1) := by decide +kernel
theorem dX11_fund_1 : decode cX11_fund 1 = .ok (.iconst 0, 1) := by decide +kernel
theorem dX11_fund_2 : decode cX11_fund 2 = .ok (.sipush 999, 3) := by decide +kernel
theorem dX11_fund_5 : decode cX11_fund 5 = .ok (.invokestatic 61, 3) := by decide +kernel
theorem dX11_fund_8 : decode cX11_fund 8 = .ok (.ifCond .ne 5, 3) := by decide +kernel
theorem dX11_fund_11 : decode cX11_fund 11 = .ok (.iconst (-1), 1) := by decide +kernel
theorem dX11_fund_12 : decode cX11_fund 12 = .ok (.ireturn, 1) := by decide +kernel
theorem dX11_fund_13 : decode cX11_fund 13 = .ok (.aload_n 0, 1) := by decide +kernel
theorem dX11_fund_14 : decode cX11_fund 14 = .ok (.getfield 12, 3) := by decide +kernel
theorem dX11_fund_17 : decode cX11_fund 17 = .ok (.invokevirtual 178, 3) := by decide +kernel
theorem dX11_fund_20 : decode cX11_fund 20 = .ok (.lstore_n 2, 1) := by decide +kernel
theorem dX11_fund_21 : decode cX11_fund 21 = .ok (.bipush (-3), 2) := by decide +kernel
theorem dX11_fund_23 : decode cX11_fund 23 = .ok (.istore 4, 2) := by decide +kernel
theorem dX11_fund_25 : decode cX11_fund 25 = .ok (.aload_n 0, 1) := by decide +kernel
theorem dX11_fund_26 : decode cX11_fund 26 = .ok (.getfield 12, 3) := by decide +kernel
theorem dX11_fund_29 : decode cX11_fund 29 = .ok (.bipush 16, 2) := by decide +kernel
theorem dX11_fund_31 : decode cX11_fund 31 = .ok (.invokevirtual 189, 3) := by decide +kernel
theorem dX11_fund_34 : decode cX11_fund 34 = .ok (.istore 5, 2) := by decide +kernel
theorem dX11_fund_36 : decode cX11_fund 36 = .ok (.iload 5, 2) := by decide +kernel
theorem dX11_fund_38 : decode cX11_fund 38 = .ok (.ifCond .le 46, 3) := by decide +kernel
theorem dX11_fund_41 : decode cX11_fund 41 = .ok (.iload 4, 2) := by decide +kernel
theorem dX11_fund_43 : decode cX11_fund 43 = .ok (.bipush (-3), 2) := by decide +kernel
theorem dX11_fund_45 : decode cX11_fund 45 = .ok (.if_icmp .ne 39, 3) := by decide +kernel
theorem dX11_fund_48 : decode cX11_fund 48 = .ok (.aload_n 0, 1) := by decide +kernel
theorem dX11_fund_49 : decode cX11_fund 49 = .ok (.getfield 12, 3) := by decide +kernel
theorem dX11_fund_52 : decode cX11_fund 52 = .ok (.invokevirtual 175, 3) := by decide +kernel
theorem dX11_fund_55 : decode cX11_fund 55 = .ok (.pop, 1) := by decide +kernel
theorem dX11_fund_56 : decode cX11_fund 56 = .ok (.aload_n 0, 1) := by decide +kernel
theorem dX11_fund_57 : decode cX11_fund 57 = .ok (.getfield 12, 3) := by decide +kernel
theorem dX11_fund_60 : decode cX11_fund 60 = .ok (.getfield 133, 3) := by decide +kernel
theorem dX11_fund_63 : decode cX11_fund 63 = .ok (.iload_n 1, 1) := by decide +kernel
theorem dX11_fund_64 : decode cX11_fund 64 = .ok (.if_icmp .lt 14, 3) := by decide +kernel
theorem dX11_fund_67 : decode cX11_fund 67 = .ok (.aload_n 0, 1) := by decide +kernel
theorem dX11_fund_68 : decode cX11_fund 68 = .ok (.getfield 12, 3) := by decide +kernel
theorem dX11_fund_71 : decode cX11_fund 71 = .ok (.getfield 136, 3) := by decide +kernel
theorem dX11_fund_74 : decode cX11_fund 74 = .ok (.iconst 1, 1) := by decide +kernel
theorem dX11_fund_75 : decode cX11_fund 75 = .ok (.isub, 1) := by decide +kernel
theorem dX11_fund_76 : decode cX11_fund 76 = .ok (.istore 4, 2) := by decide +kernel
theorem dX11_fund_78 : decode cX11_fund 78 = .ok (.iinc 5 (-1), 3) := by decide +kernel
theorem dX11_fund_81 : decode cX11_fund 81 = .ok (.goto (-45), 3) := by decide +kernel
theorem dX11_fund_84 : decode cX11_fund 84 = .ok (.aload_n 0, 1) := by decide +kernel
theorem dX11_fund_85 : decode cX11_fund 85 = .ok (.getfield 12, 3) := by decide +kernel
theorem dX11_fund_88 : decode cX11_fund 88 = .ok (.lload_n 2, 1) := by decide +kernel
theorem dX11_fund_89 : decode cX11_fund 89 = .ok (.invokevirtual 185, 3) := by decide +kernel
theorem dX11_fund_92 : decode cX11_fund 92 = .ok (.iload 4, 2) := by decide +kernel
theorem dX11_fund_94 : decode cX11_fund 94 = .ok (.ireturn, 1) := by decide +kernel
def k_fund_78 (a1 : Int32) (a2 : Int64) (a4 : Int32) (a5 : Int32) (m : M) : Option ((Int32 × Int32 × M) ⊕ ((Int32 × M))) :=
  lt (a5 + (-1 : Int32)) (fun w1 : Int32 => some (.inl (a4, w1, m)))
set_option maxRecDepth 20000 in
theorem t_k_fund_78 {G : GG} {x : Cx} {K : ((Int32 × Int32 × M) ⊕ ((Int32 × M))) → Option (Option Value × M)} (E : En G x cX11_fund "WreckBoard" 7 (some .int)) (hn : xn x = 6) (a1 : Int32) (a2 : Int64) (a4 : Int32) (a5 : Int32) (m : M) (hb : ∀ z : Int32 × Int32 × M, Sm G x 36 [(0, .ref (G.2.1 0)), (1, .int a1), (2, .long a2), (4, .int z.1), (5, .int z.2.1)] [] z.2.2 (some (.inl z)) K) (hx0 : ∀ z : Int32 × M, Sm G x 84 [(0, .ref (G.2.1 0)), (2, .long a2), (4, .int z.1)] [] z.2 (some (.inr z)) K) : Sm G x 78 [(0, .ref (G.2.1 0)), (1, .int a1), (2, .long a2), (4, .int a4), (5, .int a5)] [] m (k_fund_78 a1 a2 a4 a5 m) K := by
  unfold k_fund_78
  refine s_iincL (v := (-1 : Int32)) 4 [1, 2, 3, 4, 0] (fun w1 => [(0, .ref (G.2.1 0)), (1, .int a1), (2, .long a2), (4, .int a4), (5, .int w1)]) E dX11_fund_78 rfl (by decide) (by rw [hn]; decide) (fun _ => rfl) (fun w1 => ?_)
  refine s_goto 36 E dX11_fund_81 (by decide) ?_
  exact hb (a4, w1, m)
def k_fund_36b (a1 : Int32) (a2 : Int64) (a4 : Int32) (a5 : Int32) (m : M) : Option ((Int32 × Int32 × M) ⊕ ((Int32 × M))) :=
  (if a5 ≤ 0 then some (.inr (a4, m)) else (if a4 = (-3 : Int32) then Option.bind (b_nightOfRest m) (fun z1 => (if (z1.2 1 3) < a1 then k_fund_78 a1 a2 a4 a5 z1.2 else lt ((z1.2 1 0) - (1 : Int32)) (fun w2 : Int32 => k_fund_78 a1 a2 w2 a5 z1.2))) else some (.inr (a4, m))))
set_option maxRecDepth 20000 in
theorem t_k_fund_36b {G : GG} {x : Cx} {K : ((Int32 × Int32 × M) ⊕ ((Int32 × M))) → Option (Option Value × M)} (E : En G x cX11_fund "WreckBoard" 7 (some .int)) (hn : xn x = 6) (a1 : Int32) (a2 : Int64) (a4 : Int32) (a5 : Int32) (m : M) (hb : ∀ z : Int32 × Int32 × M, Sm G x 36 [(0, .ref (G.2.1 0)), (1, .int a1), (2, .long a2), (4, .int z.1), (5, .int z.2.1)] [] z.2.2 (some (.inl z)) K) (hx0 : ∀ z : Int32 × M, Sm G x 84 [(0, .ref (G.2.1 0)), (2, .long a2), (4, .int z.1)] [] z.2 (some (.inr z)) K) : Sm G x 36 [(0, .ref (G.2.1 0)), (1, .int a1), (2, .long a2), (4, .int a4), (5, .int a5)] [] m (k_fund_36b a1 a2 a4 a5 m) K := by
  unfold k_fund_36b
  refine s_iload 4 E dX11_fund_36 rfl ?_
  refine s_if_le 84 E dX11_fund_38 (by decide) ?_ ?_
  · refine s_sub (lv' := [(0, .ref (G.2.1 0)), (2, .long a2), (4, .int a4)]) [0, 2, 3] rfl ?_
    exact hx0 (a4, m)
  · refine s_iload 3 E dX11_fund_41 rfl ?_
    refine s_bipush (v := (-3 : Int32)) E dX11_fund_43 (by decide) ?_
    refine s_icmp_ne 84 E dX11_fund_45 (by decide) ?_ ?_
    · refine s_sub (lv' := [(0, .ref (G.2.1 0)), (2, .long a2), (4, .int a4)]) [0, 2, 3] rfl ?_
      exact hx0 (a4, m)
    · refine s_aload_n 0 E dX11_fund_48 rfl rfl ?_
      refine s_getr (k := 0) (T := TX11) 0 E rfl rfl rfl inX11 (by decide) W360 dX11_fund_49 ?_
      refine s_bd (fun z1 hz => ?_)
      refine s_cV (rest := []) E (C_b_nightOfRest (xl x) G  m hz) mdX0_nightOfRest W792 W793 W794 W92 W795 rfl rfl rfl rfl (Nat.le_of_ble_eq_true rfl) ⟨by decide, by decide⟩ dX11_fund_52 ?_
      refine s_pop E dX11_fund_55 rfl ?_
      refine s_aload_n 0 E dX11_fund_56 rfl rfl ?_
      refine s_getr (k := 0) (T := TX11) 0 E rfl rfl rfl inX11 (by decide) W360 dX11_fund_57 ?_
      refine s_geti (k := 3) (T := TX0) 1 E rfl rfl rfl inX0 (by decide) W230 dX11_fund_60 ?_
      refine s_iload_n 1 E dX11_fund_63 rfl rfl ?_
      refine s_icmp_lt 78 E dX11_fund_64 (by decide) ?_ ?_
      · exact t_k_fund_78 E hn a1 a2 a4 a5 z1.2 hb hx0
      · refine s_aload_n 0 E dX11_fund_67 rfl rfl ?_
        refine s_getr (k := 0) (T := TX11) 0 E rfl rfl rfl inX11 (by decide) W360 dX11_fund_68 ?_
        refine s_geti (k := 0) (T := TX0) 1 E rfl rfl rfl inX0 (by decide) W224 dX11_fund_71 ?_
        refine s_iconst (v := (1 : Int32)) E dX11_fund_74 (by decide) ?_
        refine s_isub E dX11_fund_75 ?_
        refine s_lt (fun w2 => [(0, .ref (G.2.1 0)), (1, .int a1), (2, .long a2), (4, .int a4), (5, .int a5)]) (fun w2 => [.int w2]) rfl rfl (fun w2 => ?_)
        refine s_istore (lv' := [(0, .ref (G.2.1 0)), (1, .int a1), (2, .long a2), (4, .int w2), (5, .int a5)]) [1, 2, 3, 0, 4] E dX11_fund_76 (by rw [hn]; decide) rfl ?_
        exact t_k_fund_78 E hn a1 a2 w2 a5 z1.2 hb hx0
def k_fund_84 (a2 : Int64) (a4 : Int32) (m : M) : Option (Int32 × M) :=
  Option.bind (b_goBackTo a2 m) (fun m1 => some (a4, m1))
set_option maxRecDepth 20000 in
theorem t_k_fund_84 {G : GG} {x : Cx} (E : En G x cX11_fund "WreckBoard" 7 (some .int)) (hn : xn x = 6) (a2 : Int64) (a4 : Int32) (m : M) : Sm G x 84 [(0, .ref (G.2.1 0)), (2, .long a2), (4, .int a4)] [] m (k_fund_84 a2 a4 m) KWi := by
  unfold k_fund_84
  refine s_aload_n 0 E dX11_fund_84 rfl rfl ?_
  refine s_getr (k := 0) (T := TX11) 0 E rfl rfl rfl inX11 (by decide) W360 dX11_fund_85 ?_
  refine s_lload_n 1 E dX11_fund_88 rfl rfl ?_
  refine s_bd (fun m1 hz => ?_)
  refine s_cV (rest := []) E (C_b_goBackTo (xl x) G a2 m hz) mdX0_goBackTo W835 W836 W837 W92 W838 rfl rfl rfl rfl (Nat.le_of_ble_eq_true rfl) ⟨by decide, by decide⟩ dX11_fund_89 ?_
  refine s_iload 2 E dX11_fund_92 rfl ?_
  exact s_iret E rfl dX11_fund_94
def k_fund_36 (a1 : Int32) (a2 : Int64) (a4 : Int32) (a5 : Int32) (m : M) : Option (Int32 × M) :=
  Option.bind (iter (fun z => k_fund_36b a1 a2 z.1 z.2.1 z.2.2) FU (a4, a5, m)) (fun r => k_fund_84 a2 r.1 r.2)
set_option maxRecDepth 20000 in
theorem t_k_fund_36 {G : GG} {x : Cx} (E : En G x cX11_fund "WreckBoard" 7 (some .int)) (hn : xn x = 6) (a1 : Int32) (a2 : Int64) (a4 : Int32) (a5 : Int32) (m : M) : Sm G x 36 [(0, .ref (G.2.1 0)), (1, .int a1), (2, .long a2), (4, .int a4), (5, .int a5)] [] m (k_fund_36 a1 a2 a4 a5 m) KWi := by
  unfold k_fund_36
  refine s_loop (fun z => [(0, .ref (G.2.1 0)), (1, .int a1), (2, .long a2), (4, .int z.1), (5, .int z.2.1)]) (fun z => z.2.2) (fun K2 hb2 hr2 z => ?_) FU (a4, a5, m)
  refine t_k_fund_36b (K := K2) E hn a1 a2 z.1 z.2.1 z.2.2 hb2 (fun r => s_out (hr2 r) ?_)
  · exact t_k_fund_84 E hn a2 r.1 r.2
def k_fund (a1 : Int32) (m : M) : Option (Int32 × M) :=
  Option.bind (k_within a1 (0 : Int32) (999 : Int32) m) (fun v1 => (if v1 = 0 then some ((-1 : Int32), m) else Option.bind (b_moment m) (fun v2 => Option.bind (b_nightsOf (16 : Int32) m) (fun v3 => k_fund_36 a1 v2 (-3 : Int32) v3 m))))
set_option maxRecDepth 20000 in
theorem t_k_fund {G : GG} {x : Cx} (E : En G x cX11_fund "WreckBoard" 7 (some .int)) (hn : xn x = 6) (a1 : Int32) (m : M) : Sm G x 0 [(0, .ref (G.2.1 0)), (1, .int a1)] [] m (k_fund a1 m) KWi := by
  unfold k_fund
  refine s_iload_n 1 E dX11_fund_0 rfl rfl ?_
  refine s_iconst (v := (0 : Int32)) E dX11_fund_1 (by decide) ?_
  refine s_sipush (v := (999 : Int32)) E dX11_fund_2 (by decide) ?_
  refine s_bd (fun v1 hz => ?_)
  refine s_cS (rest := []) E (C_k_within (xl x) G a1 (0 : Int32) (999 : Int32) m hz) mdX11_within W404 W405 W91 W406 rfl rfl (Nat.le_of_ble_eq_true rfl) ⟨by decide, by decide⟩ dX11_fund_5 ?_
  refine s_if_ne 13 E dX11_fund_8 (by decide) ?_ ?_
  · refine s_aload_n 0 E dX11_fund_13 rfl rfl ?_
    refine s_getr (k := 0) (T := TX11) 0 E rfl rfl rfl inX11 (by decide) W360 dX11_fund_14 ?_
    refine s_bd (fun v2 hz => ?_)
    refine s_cV (rest := []) E (C_b_moment (xl x) G  m hz) mdX0_moment W822 W823 W824 W92 W825 rfl rfl rfl rfl (Nat.le_of_ble_eq_true rfl) ⟨by decide, by decide⟩ dX11_fund_17 ?_
    refine s_lstore_n (lv' := [(0, .ref (G.2.1 0)), (1, .int a1), (2, .long v2)]) [1, 2, 0] E dX11_fund_20 rfl (by rw [hn]; decide) rfl ?_
    refine s_bipush (v := (-3 : Int32)) E dX11_fund_21 (by decide) ?_
    refine s_istore (lv' := [(0, .ref (G.2.1 0)), (1, .int a1), (2, .long v2), (4, .int (-3 : Int32))]) [1, 2, 3, 0] E dX11_fund_23 (by rw [hn]; decide) rfl ?_
    refine s_aload_n 0 E dX11_fund_25 rfl rfl ?_
    refine s_getr (k := 0) (T := TX11) 0 E rfl rfl rfl inX11 (by decide) W360 dX11_fund_26 ?_
    refine s_bipush (v := (16 : Int32)) E dX11_fund_29 (by decide) ?_
    refine s_bd (fun v3 hz => ?_)
    refine s_cV (rest := []) E (C_b_nightsOf (xl x) G (16 : Int32) m hz) mdX0_nightsOf W843 W831 W832 W92 W833 rfl rfl rfl rfl (Nat.le_of_ble_eq_true rfl) ⟨by decide, by decide⟩ dX11_fund_31 ?_
    refine s_istore (lv' := [(0, .ref (G.2.1 0)), (1, .int a1), (2, .long v2), (4, .int (-3 : Int32)), (5, .int v3)]) [1, 2, 3, 4, 0] E dX11_fund_34 (by rw [hn]; decide) rfl ?_
    exact t_k_fund_36 E hn a1 v2 (-3 : Int32) v3 m
  · refine s_iconst (v := (-1 : Int32)) E dX11_fund_11 (by decide) ?_
    exact s_iret E rfl dX11_fund_12
set_option maxRecDepth 20000 in
theorem C_k_fund (l : Launch) (G : GG) (a1 : Int32) (m : M) {z : Int32 × M} (hz : k_fund a1 m = some z) : Ct l G yX11_fund cX11_fund 6 (some .int) 7 [.ref (G.2.1 0), .int a1] m (some (.int z.1)) z.2 :=
  ct_of (K := KWi) (by decide) (Nat.le_of_ble_eq_true rfl) (congrArg (fun q => Option.bind q _) hz) (fun x hl hn E => (t_k_fund E hn a1 m))
theorem dX11_wrecks_0 : decode cX11_wrecks 0 = .ok (.iload_n 1, 1) := by decide +kernel
theorem dX11_wrecks_1 : decode cX11_wrecks 1 = .ok (.iconst 0, 1) := by decide +kernel
theorem dX11_wrecks_2 : decode cX11_wrecks 2 = .ok (.iconst 1, 1) := by decide +kernel
theorem dX11_wrecks_3 : decode cX11_wrecks 3 = .ok (.invokestatic 61, 3) := by decide +kernel
theorem dX11_wrecks_6 : decode cX11_wrecks 6 = .ok (.ifCond .ne 5, 3) := by decide +kernel
theorem dX11_wrecks_9 : decode cX11_wrecks 9 = .ok (.iconst (-1), 1) := by decide +kernel
theorem dX11_wrecks_10 : decode cX11_wrecks 10 = .ok (.ireturn, 1) := by decide +kernel
theorem dX11_wrecks_11 : decode cX11_wrecks 11 = .ok (.aload_n 0, 1) := by decide +kernel
theorem dX11_wrecks_12 : decode cX11_wrecks 12 = .ok (.getfield 12, 3) := by decide +kernel
theorem dX11_wrecks_15 : decode cX11_wrecks 15 = .ok (.invokevirtual 178, 3) := by decide +kernel
theorem dX11_wrecks_18 : decode cX11_wrecks 18 = .ok (.lstore_n 2, 1) := by decide +kernel
theorem dX11_wrecks_19 : decode cX11_wrecks 19 = .ok (.aload_n 0, 1) := by decide +kernel
theorem dX11_wrecks_20 : decode cX11_wrecks 20 = .ok (.getfield 12, 3) := by decide +kernel
theorem dX11_wrecks_23 : decode cX11_wrecks 23 = .ok (.getfield 196, 3) := by decide +kernel
theorem dX11_wrecks_26 : decode cX11_wrecks 26 = .ok (.istore 4, 2) := by decide +kernel
theorem dX11_wrecks_28 : decode cX11_wrecks 28 = .ok (.aload_n 0, 1) := by decide +kernel
theorem dX11_wrecks_29 : decode cX11_wrecks 29 = .ok (.getfield 12, 3) := by decide +kernel
theorem dX11_wrecks_32 : decode cX11_wrecks 32 = .ok (.bipush 16, 2) := by decide +kernel
theorem dX11_wrecks_34 : decode cX11_wrecks 34 = .ok (.invokevirtual 182, 3) := by decide +kernel
theorem dX11_wrecks_37 : decode cX11_wrecks 37 = .ok (.pop, 1) := by decide +kernel
theorem dX11_wrecks_38 : decode cX11_wrecks 38 = .ok (.iload_n 1, 1) := by decide +kernel
theorem dX11_wrecks_39 : decode cX11_wrecks 39 = .ok (.ifCond .ne 16, 3) := by decide +kernel
theorem dX11_wrecks_42 : decode cX11_wrecks 42 = .ok (.aload_n 0, 1) := by decide +kernel
theorem dX11_wrecks_43 : decode cX11_wrecks 43 = .ok (.getfield 12, 3) := by decide +kernel
theorem dX11_wrecks_46 : decode cX11_wrecks 46 = .ok (.getfield 196, 3) := by decide +kernel
theorem dX11_wrecks_49 : decode cX11_wrecks 49 = .ok (.iload 4, 2) := by decide +kernel
theorem dX11_wrecks_51 : decode cX11_wrecks 51 = .ok (.isub, 1) := by decide +kernel
theorem dX11_wrecks_52 : decode cX11_wrecks 52 = .ok (.goto 10, 3) := by decide +kernel
theorem dX11_wrecks_55 : decode cX11_wrecks 55 = .ok (.aload_n 0, 1) := by decide +kernel
theorem dX11_wrecks_56 : decode cX11_wrecks 56 = .ok (.getfield 12, 3) := by decide +kernel
theorem dX11_wrecks_59 : decode cX11_wrecks 59 = .ok (.getfield 133, 3) := by decide +kernel
theorem dX11_wrecks_62 : decode cX11_wrecks 62 = .ok (.istore 5, 2) := by decide +kernel
theorem dX11_wrecks_64 : decode cX11_wrecks 64 = .ok (.aload_n 0, 1) := by decide +kernel
theorem dX11_wrecks_65 : decode cX11_wrecks 65 = .ok (.getfield 12, 3) := by decide +kernel
theorem dX11_wrecks_68 : decode cX11_wrecks 68 = .ok (.lload_n 2, 1) := by decide +kernel
theorem dX11_wrecks_69 : decode cX11_wrecks 69 = .ok (.invokevirtual 185, 3) := by decide +kernel
theorem dX11_wrecks_72 : decode cX11_wrecks 72 = .ok (.iload 5, 2) := by decide +kernel
theorem dX11_wrecks_74 : decode cX11_wrecks 74 = .ok (.ireturn, 1) := by decide +kernel
def k_wrecks_62 (a2 : Int64) (s0 : Int32) (m : M) : Option (Int32 × M) :=
  Option.bind (b_goBackTo a2 m) (fun m1 => some (s0, m1))
set_option maxRecDepth 20000 in
theorem t_k_wrecks_62 {G : GG} {x : Cx} (E : En G x cX11_wrecks "WreckBoard" 8 (some .int)) (hn : xn x = 6) (a2 : Int64) (s0 : Int32) (m : M) : Sm G x 62 [(0, .ref (G.2.1 0)), (2, .long a2)] [.int s0] m (k_wrecks_62 a2 s0 m) KWi := by
  unfold k_wrecks_62
  refine s_istore (lv' := [(0, .ref (G.2.1 0)), (2, .long a2), (5, .int s0)]) [1, 2, 0] E dX11_wrecks_62 (by rw [hn]; decide) rfl ?_
  refine s_aload_n 0 E dX11_wrecks_64 rfl rfl ?_
  refine s_getr (k := 0) (T := TX11) 0 E rfl rfl rfl inX11 (by decide) W360 dX11_wrecks_65 ?_
  refine s_lload_n 1 E dX11_wrecks_68 rfl rfl ?_
  refine s_bd (fun m1 hz => ?_)
  refine s_cV (rest := []) E (C_b_goBackTo (xl x) G a2 m hz) mdX0_goBackTo W835 W836 W837 W92 W838 rfl rfl rfl rfl (Nat.le_of_ble_eq_true rfl) ⟨by decide, by decide⟩ dX11_wrecks_69 ?_
  refine s_iload 2 E dX11_wrecks_72 rfl ?_
  exact s_iret E rfl dX11_wrecks_74
def k_wrecks (a1 : Int32) (m : M) : Option (Int32 × M) :=
  Option.bind (k_within a1 (0 : Int32) (1 : Int32) m) (fun v1 => (if v1 = 0 then some ((-1 : Int32), m) else Option.bind (b_moment m) (fun v2 => lt (m 1 8) (fun w3 : Int32 => Option.bind (b_worthOfRest (16 : Int32) m) (fun z4 => (if a1 = 0 then k_wrecks_62 v2 ((z4.2 1 8) - w3) z4.2 else k_wrecks_62 v2 (z4.2 1 3) z4.2))))))
set_option maxRecDepth 20000 in
theorem t_k_wrecks {G : GG} {x : Cx} (E : En G x cX11_wrecks "WreckBoard" 8 (some .int)) (hn : xn x = 6) (a1 : Int32) (m : M) : Sm G x 0 [(0, .ref (G.2.1 0)), (1, .int a1)] [] m (k_wrecks a1 m) KWi := by
  unfold k_wrecks
  refine s_iload_n 1 E dX11_wrecks_0 rfl rfl ?_
  refine s_iconst (v := (0 : Int32)) E dX11_wrecks_1 (by decide) ?_
  refine s_iconst (v := (1 : Int32)) E dX11_wrecks_2 (by decide) ?_
  refine s_bd (fun v1 hz => ?_)
  refine s_cS (rest := []) E (C_k_within (xl x) G a1 (0 : Int32) (1 : Int32) m hz) mdX11_within W404 W405 W91 W406 rfl rfl (Nat.le_of_ble_eq_true rfl) ⟨by decide, by decide⟩ dX11_wrecks_3 ?_
  refine s_if_ne 11 E dX11_wrecks_6 (by decide) ?_ ?_
  · refine s_aload_n 0 E dX11_wrecks_11 rfl rfl ?_
    refine s_getr (k := 0) (T := TX11) 0 E rfl rfl rfl inX11 (by decide) W360 dX11_wrecks_12 ?_
    refine s_bd (fun v2 hz => ?_)
    refine s_cV (rest := []) E (C_b_moment (xl x) G  m hz) mdX0_moment W822 W823 W824 W92 W825 rfl rfl rfl rfl (Nat.le_of_ble_eq_true rfl) ⟨by decide, by decide⟩ dX11_wrecks_15 ?_
    refine s_lstore_n (lv' := [(0, .ref (G.2.1 0)), (1, .int a1), (2, .long v2)]) [1, 2, 0] E dX11_wrecks_18 rfl (by rw [hn]; decide) rfl ?_
    refine s_aload_n 0 E dX11_wrecks_19 rfl rfl ?_
    refine s_getr (k := 0) (T := TX11) 0 E rfl rfl rfl inX11 (by decide) W360 dX11_wrecks_20 ?_
    refine s_geti (k := 8) (T := TX0) 1 E rfl rfl rfl inX0 (by decide) W241 dX11_wrecks_23 ?_
    refine s_lt (fun w3 => [(0, .ref (G.2.1 0)), (1, .int a1), (2, .long v2)]) (fun w3 => [.int w3]) rfl rfl (fun w3 => ?_)
    refine s_istore (lv' := [(0, .ref (G.2.1 0)), (1, .int a1), (2, .long v2), (4, .int w3)]) [1, 2, 3, 0] E dX11_wrecks_26 (by rw [hn]; decide) rfl ?_
    refine s_aload_n 0 E dX11_wrecks_28 rfl rfl ?_
    refine s_getr (k := 0) (T := TX11) 0 E rfl rfl rfl inX11 (by decide) W360 dX11_wrecks_29 ?_
    refine s_bipush (v := (16 : Int32)) E dX11_wrecks_32 (by decide) ?_
    refine s_bd (fun z4 hz => ?_)
    refine s_cV (rest := []) E (C_b_worthOfRest (xl x) G (16 : Int32) m hz) mdX0_worthOfRest W826 W827 W828 W92 W829 rfl rfl rfl rfl (Nat.le_of_ble_eq_true rfl) ⟨by decide, by decide⟩ dX11_wrecks_34 ?_
    refine s_pop E dX11_wrecks_37 rfl ?_
    refine s_iload_n 1 E dX11_wrecks_38 rfl rfl ?_
    refine s_if_ne 55 E dX11_wrecks_39 (by decide) ?_ ?_
    · refine s_aload_n 0 E dX11_wrecks_55 rfl rfl ?_
      refine s_getr (k := 0) (T := TX11) 0 E rfl rfl rfl inX11 (by decide) W360 dX11_wrecks_56 ?_
      refine s_geti (k := 3) (T := TX0) 1 E rfl rfl rfl inX0 (by decide) W230 dX11_wrecks_59 ?_
      refine s_sub (lv' := [(0, .ref (G.2.1 0)), (2, .long v2)]) [0, 2] rfl ?_
      exact t_k_wrecks_62 E hn v2 (z4.2 1 3) z4.2
    · refine s_aload_n 0 E dX11_wrecks_42 rfl rfl ?_
      refine s_getr (k := 0) (T := TX11) 0 E rfl rfl rfl inX11 (by decide) W360 dX11_wrecks_43 ?_
      refine s_geti (k := 8) (T := TX0) 1 E rfl rfl rfl inX0 (by decide) W241 dX11_wrecks_46 ?_
      refine s_iload 3 E dX11_wrecks_49 rfl ?_
      refine s_isub E dX11_wrecks_51 ?_
      refine s_goto 62 E dX11_wrecks_52 (by decide) ?_
      refine s_sub (lv' := [(0, .ref (G.2.1 0)), (2, .long v2)]) [0, 2] rfl ?_
      exact t_k_wrecks_62 E hn v2 ((z4.2 1 8) - w3) z4.2
  · refine s_iconst (v := (-1 : Int32)) E dX11_wrecks_9 (by decide) ?_
    exact s_iret E rfl dX11_wrecks_10
set_option maxRecDepth 20000 in
theorem C_k_wrecks (l : Launch) (G : GG) (a1 : Int32) (m : M) {z : Int32 × M} (hz : k_wrecks a1 m = some z) : Ct l G yX11_wrecks cX11_wrecks 6 (some .int) 8 [.ref (G.2.1 0), .int a1] m (some (.int z.1)) z.2 :=
  ct_of (K := KWi) (by decide) (Nat.le_of_ble_eq_true rfl) (congrArg (fun q => Option.bind q _) hz) (fun x hl hn E => (t_k_wrecks E hn a1 m))
theorem dX11_isCloseToOneOf_0 : decode cX11_isCloseToOneOf 0 = .ok (.aload_n 0, 1) := by decide +kernel
theorem dX11_isCloseToOneOf_1 : decode cX11_isCloseToOneOf 1 = .ok (.getfield 12, 3) := by decide +kernel
theorem dX11_isCloseToOneOf_4 : decode cX11_isCloseToOneOf 4 = .ok (.iload_n 2, 1) := by decide +kernel
theorem dX11_isCloseToOneOf_5 : decode cX11_isCloseToOneOf 5 = .ok (.invokevirtual 89, 3) := by decide +kernel
theorem dX11_isCloseToOneOf_8 : decode cX11_isCloseToOneOf 8 = .ok (.ifCond .eq 5, 3) := by decide +kernel
theorem dX11_isCloseToOneOf_11 : decode cX11_isCloseToOneOf 11 = .ok (.iconst 0, 1) := by decide +kernel
theorem dX11_isCloseToOneOf_12 : decode cX11_isCloseToOneOf 12 = .ok (.ireturn, 1) := by decide +kernel
theorem dX11_isCloseToOneOf_13 : decode cX11_isCloseToOneOf 13 = .ok (.aload_n 0, 1) := by decide +kernel
theorem dX11_isCloseToOneOf_14 : decode cX11_isCloseToOneOf 14 = .ok (.getfield 12, 3) := by decide +kernel
theorem dX11_isCloseToOneOf_17 : decode cX11_isCloseToOneOf 17 = .ok (.iload_n 2, 1) := by decide +kernel
theorem dX11_isCloseToOneOf_18 : decode cX11_isCloseToOneOf 18 = .ok (.invokevirtual 92, 3) := by decide +kernel
theorem dX11_isCloseToOneOf_21 : decode cX11_isCloseToOneOf 21 = .ok (.invokestatic 96, 3) := by decide +kernel
theorem dX11_isCloseToOneOf_24 : decode cX11_isCloseToOneOf 24 = .ok (.istore_n 3, 1) := by decide +kernel
theorem dX11_isCloseToOneOf_25 : decode cX11_isCloseToOneOf 25 = .ok (.iconst 0, 1) := by decide +kernel
theorem dX11_isCloseToOneOf_26 : decode cX11_isCloseToOneOf 26 = .ok (.istore 4, 2) := by decide +kernel
theorem dX11_isCloseToOneOf_28 : decode cX11_isCloseToOneOf 28 = .ok (.iload 4, 2) := by decide +kernel
theorem dX11_isCloseToOneOf_30 : decode cX11_isCloseToOneOf 30 = .ok (.aload_n 0, 1) := by decide +kernel
theorem dX11_isCloseToOneOf_31 : decode cX11_isCloseToOneOf 31 = .ok (.getfield 12, 3) := by decide +kernel
theorem dX11_isCloseToOneOf_34 : decode cX11_isCloseToOneOf 34 = .ok (.getfield 65, 3) := by decide +kernel
theorem dX11_isCloseToOneOf_37 : decode cX11_isCloseToOneOf 37 = .ok (.if_icmp .ge 75, 3) := by decide +kernel
theorem dX11_isCloseToOneOf_40 : decode cX11_isCloseToOneOf 40 = .ok (.iload_n 1, 1) := by decide +kernel
theorem dX11_isCloseToOneOf_41 : decode cX11_isCloseToOneOf 41 = .ok (.iload 4, 2) := by decide +kernel
theorem dX11_isCloseToOneOf_43 : decode cX11_isCloseToOneOf 43 = .ok (.invokestatic 208, 3) := by decide +kernel
theorem dX11_isCloseToOneOf_46 : decode cX11_isCloseToOneOf 46 = .ok (.ifCond .eq 60, 3) := by decide +kernel
theorem dX11_isCloseToOneOf_49 : decode cX11_isCloseToOneOf 49 = .ok (.iload_n 3, 1) := by decide +kernel
theorem dX11_isCloseToOneOf_50 : decode cX11_isCloseToOneOf 50 = .ok (.iconst 1, 1) := by decide +kernel
theorem dX11_isCloseToOneOf_51 : decode cX11_isCloseToOneOf 51 = .ok (.if_icmp .eq 23, 3) := by decide +kernel
theorem dX11_isCloseToOneOf_54 : decode cX11_isCloseToOneOf 54 = .ok (.iload_n 3, 1) := by decide +kernel
theorem dX11_isCloseToOneOf_55 : decode cX11_isCloseToOneOf 55 = .ok (.aload_n 0, 1) := by decide +kernel
theorem dX11_isCloseToOneOf_56 : decode cX11_isCloseToOneOf 56 = .ok (.getfield 12, 3) := by decide +kernel
theorem dX11_isCloseToOneOf_59 : decode cX11_isCloseToOneOf 59 = .ok (.iload 4, 2) := by decide +kernel
theorem dX11_isCloseToOneOf_61 : decode cX11_isCloseToOneOf 61 = .ok (.invokevirtual 92, 3) := by decide +kernel
theorem dX11_isCloseToOneOf_64 : decode cX11_isCloseToOneOf 64 = .ok (.invokestatic 96, 3) := by decide +kernel
theorem dX11_isCloseToOneOf_67 : decode cX11_isCloseToOneOf 67 = .ok (.if_icmp .ne 7, 3) := by decide +kernel
theorem dX11_isCloseToOneOf_70 : decode cX11_isCloseToOneOf 70 = .ok (.iconst 1, 1) := by decide +kernel
theorem dX11_isCloseToOneOf_71 : decode cX11_isCloseToOneOf 71 = .ok (.goto 4, 3) := by decide +kernel
theorem dX11_isCloseToOneOf_74 : decode cX11_isCloseToOneOf 74 = .ok (.iconst 0, 1) := by decide +kernel
theorem dX11_isCloseToOneOf_75 : decode cX11_isCloseToOneOf 75 = .ok (.istore 5, 2) := by decide +kernel
theorem dX11_isCloseToOneOf_77 : decode cX11_isCloseToOneOf 77 = .ok (.iload 5, 2) := by decide +kernel
theorem dX11_isCloseToOneOf_79 : decode cX11_isCloseToOneOf 79 = .ok (.ifCond .ne 25, 3) := by decide +kernel
theorem dX11_isCloseToOneOf_82 : decode cX11_isCloseToOneOf 82 = .ok (.aload_n 0, 1) := by decide +kernel
theorem dX11_isCloseToOneOf_83 : decode cX11_isCloseToOneOf 83 = .ok (.getfield 12, 3) := by decide +kernel
theorem dX11_isCloseToOneOf_86 : decode cX11_isCloseToOneOf 86 = .ok (.getfield 86, 3) := by decide +kernel
theorem dX11_isCloseToOneOf_89 : decode cX11_isCloseToOneOf 89 = .ok (.iload_n 2, 1) := by decide +kernel
theorem dX11_isCloseToOneOf_90 : decode cX11_isCloseToOneOf 90 = .ok (.iaload, 1) := by decide +kernel
theorem dX11_isCloseToOneOf_91 : decode cX11_isCloseToOneOf 91 = .ok (.aload_n 0, 1) := by decide +kernel
theorem dX11_isCloseToOneOf_92 : decode cX11_isCloseToOneOf 92 = .ok (.getfield 12, 3) := by decide +kernel
theorem dX11_isCloseToOneOf_95 : decode cX11_isCloseToOneOf 95 = .ok (.getfield 86, 3) := by decide +kernel
theorem dX11_isCloseToOneOf_98 : decode cX11_isCloseToOneOf 98 = .ok (.iload 4, 2) := by decide +kernel
theorem dX11_isCloseToOneOf_100 : decode cX11_isCloseToOneOf 100 = .ok (.iaload, 1) := by decide +kernel
theorem dX11_isCloseToOneOf_101 : decode cX11_isCloseToOneOf 101 = .ok (.if_icmp .ne 5, 3) := by decide +kernel
theorem dX11_isCloseToOneOf_104 : decode cX11_isCloseToOneOf 104 = .ok (.iconst 1, 1) := by decide +kernel
theorem dX11_isCloseToOneOf_105 : decode cX11_isCloseToOneOf 105 = .ok (.ireturn, 1) := by decide +kernel
theorem dX11_isCloseToOneOf_106 : decode cX11_isCloseToOneOf 106 = .ok (.iinc 4 1, 3) := by decide +kernel
theorem dX11_isCloseToOneOf_109 : decode cX11_isCloseToOneOf 109 = .ok (.goto (-81), 3) := by decide +kernel
theorem dX11_isCloseToOneOf_112 : decode cX11_isCloseToOneOf 112 = .ok (.iconst 0, 1) := by decide +kernel
theorem dX11_isCloseToOneOf_113 : decode cX11_isCloseToOneOf 113 = .ok (.ireturn, 1) := by decide +kernel
def k_isCloseToOneOf_106 (a1 : Int32) (a2 : Int32) (a3 : Int32) (a4 : Int32) (m : M) : Option ((Int32) ⊕ ((Unit) ⊕ ((Unit)))) :=
  lt (a4 + (1 : Int32)) (fun w1 : Int32 => some (.inl w1))
set_option maxRecDepth 20000 in
theorem t_k_isCloseToOneOf_106 {G : GG} {x : Cx} {K : ((Int32) ⊕ ((Unit) ⊕ ((Unit)))) → Option (Option Value × M)} (E : En G x cX11_isCloseToOneOf "WreckBoard" 5 (some .boolean)) (hn : xn x = 6) (a1 : Int32) (a2 : Int32) (a3 : Int32) (a4 : Int32) (m : M) (hb : ∀ z : Int32, Sm G x 28 [(0, .ref (G.2.1 0)), (1, .int a1), (2, .int a2), (3, .int a3), (4, .int z)] [] m (some (.inl z)) K) (hx0 : ∀ z : Unit, Sm G x 112 [] [] m (some (.inr (.inl z))) K) (hx1 : ∀ z : Unit, Sm G x 104 [] [] m (some (.inr (.inr z))) K) : Sm G x 106 [(0, .ref (G.2.1 0)), (1, .int a1), (2, .int a2), (3, .int a3), (4, .int a4)] [] m (k_isCloseToOneOf_106 a1 a2 a3 a4 m) K := by
  unfold k_isCloseToOneOf_106
  refine s_iincL (v := (1 : Int32)) 4 [1, 2, 3, 4, 0] (fun w1 => [(0, .ref (G.2.1 0)), (1, .int a1), (2, .int a2), (3, .int a3), (4, .int w1)]) E dX11_isCloseToOneOf_106 rfl (by decide) (by rw [hn]; decide) (fun _ => rfl) (fun w1 => ?_)
  refine s_goto 28 E dX11_isCloseToOneOf_109 (by decide) ?_
  exact hb w1
def k_isCloseToOneOf_75 (a1 : Int32) (a2 : Int32) (a3 : Int32) (a4 : Int32) (s0 : Int32) (m : M) : Option ((Int32) ⊕ ((Unit) ⊕ ((Unit)))) :=
  (if s0 = 0 then Option.bind (rdI m 13 a2) (fun v1 => Option.bind (rdI m 13 a4) (fun v2 => (if v1 = v2 then some (.inr (.inr ())) else k_isCloseToOneOf_106 a1 a2 a3 a4 m))) else some (.inr (.inr ())))
set_option maxRecDepth 20000 in
theorem t_k_isCloseToOneOf_75 {G : GG} {x : Cx} {K : ((Int32) ⊕ ((Unit) ⊕ ((Unit)))) → Option (Option Value × M)} (E : En G x cX11_isCloseToOneOf "WreckBoard" 5 (some .boolean)) (hn : xn x = 6) (a1 : Int32) (a2 : Int32) (a3 : Int32) (a4 : Int32) (s0 : Int32) (m : M) (hb : ∀ z : Int32, Sm G x 28 [(0, .ref (G.2.1 0)), (1, .int a1), (2, .int a2), (3, .int a3), (4, .int z)] [] m (some (.inl z)) K) (hx0 : ∀ z : Unit, Sm G x 112 [] [] m (some (.inr (.inl z))) K) (hx1 : ∀ z : Unit, Sm G x 104 [] [] m (some (.inr (.inr z))) K) : Sm G x 75 [(0, .ref (G.2.1 0)), (1, .int a1), (2, .int a2), (3, .int a3), (4, .int a4)] [.int s0] m (k_isCloseToOneOf_75 a1 a2 a3 a4 s0 m) K := by
  unfold k_isCloseToOneOf_75
  refine s_istore (lv' := [(0, .ref (G.2.1 0)), (1, .int a1), (2, .int a2), (3, .int a3), (4, .int a4), (5, .int s0)]) [1, 2, 3, 4, 5, 0] E dX11_isCloseToOneOf_75 (by rw [hn]; decide) rfl ?_
  refine s_iload 5 E dX11_isCloseToOneOf_77 rfl ?_
  refine s_if_ne 104 E dX11_isCloseToOneOf_79 (by decide) ?_ ?_
  · refine s_sub (lv' := []) [] rfl ?_
    exact hx1 ()
  · refine s_aload_n 0 E dX11_isCloseToOneOf_82 rfl rfl ?_
    refine s_getr (k := 0) (T := TX11) 0 E rfl rfl rfl inX11 (by decide) W360 dX11_isCloseToOneOf_83 ?_
    refine s_getr (k := 12) (T := TX0) 1 E rfl rfl rfl inX0 (by decide) W251 dX11_isCloseToOneOf_86 ?_
    refine s_iload_n 2 E dX11_isCloseToOneOf_89 rfl rfl ?_
    refine s_iald E dX11_isCloseToOneOf_90 (fun v1 => ?_)
    refine s_aload_n 0 E dX11_isCloseToOneOf_91 rfl rfl ?_
    refine s_getr (k := 0) (T := TX11) 0 E rfl rfl rfl inX11 (by decide) W360 dX11_isCloseToOneOf_92 ?_
    refine s_getr (k := 12) (T := TX0) 1 E rfl rfl rfl inX0 (by decide) W251 dX11_isCloseToOneOf_95 ?_
    refine s_iload 4 E dX11_isCloseToOneOf_98 rfl ?_
    refine s_iald E dX11_isCloseToOneOf_100 (fun v2 => ?_)
    refine s_icmp_ne 106 E dX11_isCloseToOneOf_101 (by decide) ?_ ?_
    · refine s_sub (lv' := [(0, .ref (G.2.1 0)), (1, .int a1), (2, .int a2), (3, .int a3), (4, .int a4)]) [0, 1, 2, 3, 4] rfl ?_
      exact t_k_isCloseToOneOf_106 E hn a1 a2 a3 a4 m hb hx0 hx1
    · refine s_sub (lv' := []) [] rfl ?_
      exact hx1 ()
def k_isCloseToOneOf_74 (a1 : Int32) (a2 : Int32) (a3 : Int32) (a4 : Int32) (m : M) : Option ((Int32) ⊕ ((Unit) ⊕ ((Unit)))) :=
  k_isCloseToOneOf_75 a1 a2 a3 a4 (0 : Int32) m
set_option maxRecDepth 20000 in
theorem t_k_isCloseToOneOf_74 {G : GG} {x : Cx} {K : ((Int32) ⊕ ((Unit) ⊕ ((Unit)))) → Option (Option Value × M)} (E : En G x cX11_isCloseToOneOf "WreckBoard" 5 (some .boolean)) (hn : xn x = 6) (a1 : Int32) (a2 : Int32) (a3 : Int32) (a4 : Int32) (m : M) (hb : ∀ z : Int32, Sm G x 28 [(0, .ref (G.2.1 0)), (1, .int a1), (2, .int a2), (3, .int a3), (4, .int z)] [] m (some (.inl z)) K) (hx0 : ∀ z : Unit, Sm G x 112 [] [] m (some (.inr (.inl z))) K) (hx1 : ∀ z : Unit, Sm G x 104 [] [] m (some (.inr (.inr z))) K) : Sm G x 74 [(0, .ref (G.2.1 0)), (1, .int a1), (2, .int a2), (3, .int a3), (4, .int a4)] [] m (k_isCloseToOneOf_74 a1 a2 a3 a4 m) K := by
  unfold k_isCloseToOneOf_74
  refine s_iconst (v := (0 : Int32)) E dX11_isCloseToOneOf_74 (by decide) ?_
  exact t_k_isCloseToOneOf_75 E hn a1 a2 a3 a4 (0 : Int32) m hb hx0 hx1
def k_isCloseToOneOf_28b (a1 : Int32) (a2 : Int32) (a3 : Int32) (a4 : Int32) (m : M) : Option ((Int32) ⊕ ((Unit) ⊕ ((Unit)))) :=
  (if (m 1 6) ≤ a4 then some (.inr (.inl ())) else Option.bind (k_isIn a1 a4 m) (fun v1 => (if v1 = 0 then k_isCloseToOneOf_106 a1 a2 a3 a4 m else (if a3 = (1 : Int32) then k_isCloseToOneOf_74 a1 a2 a3 a4 m else Option.bind (b_leanOf a4 m) (fun v2 => Option.bind (k_side v2 m) (fun v3 => (if a3 = v3 then k_isCloseToOneOf_75 a1 a2 a3 a4 (1 : Int32) m else k_isCloseToOneOf_74 a1 a2 a3 a4 m)))))))
set_option maxRecDepth 20000 in
theorem t_k_isCloseToOneOf_28b {G : GG} {x : Cx} {K : ((Int32) ⊕ ((Unit) ⊕ ((Unit)))) → Option (Option Value × M)} (E : En G x cX11_isCloseToOneOf "WreckBoard" 5 (some .boolean)) (hn : xn x = 6) (a1 : Int32) (a2 : Int32) (a3 : Int32) (a4 : Int32) (m : M) (hb : ∀ z : Int32, Sm G x 28 [(0, .ref (G.2.1 0)), (1, .int a1), (2, .int a2), (3, .int a3), (4, .int z)] [] m (some (.inl z)) K) (hx0 : ∀ z : Unit, Sm G x 112 [] [] m (some (.inr (.inl z))) K) (hx1 : ∀ z : Unit, Sm G x 104 [] [] m (some (.inr (.inr z))) K) : Sm G x 28 [(0, .ref (G.2.1 0)), (1, .int a1), (2, .int a2), (3, .int a3), (4, .int a4)] [] m (k_isCloseToOneOf_28b a1 a2 a3 a4 m) K := by
  unfold k_isCloseToOneOf_28b
  refine s_iload 4 E dX11_isCloseToOneOf_28 rfl ?_
  refine s_aload_n 0 E dX11_isCloseToOneOf_30 rfl rfl ?_
  refine s_getr (k := 0) (T := TX11) 0 E rfl rfl rfl inX11 (by decide) W360 dX11_isCloseToOneOf_31 ?_
  refine s_geti (k := 6) (T := TX0) 1 E rfl rfl rfl inX0 (by decide) W237 dX11_isCloseToOneOf_34 ?_
  refine s_icmp_ge 112 E dX11_isCloseToOneOf_37 (by decide) ?_ ?_
  · refine s_sub (lv' := []) [] rfl ?_
    exact hx0 ()
  · refine s_iload_n 1 E dX11_isCloseToOneOf_40 rfl rfl ?_
    refine s_iload 4 E dX11_isCloseToOneOf_41 rfl ?_
    refine s_bd (fun v1 hz => ?_)
    refine s_cS (rest := []) E (C_k_isIn (xl x) G a1 a4 m hz) mdX11_isIn W520 W425 W91 W426 rfl rfl (Nat.le_of_ble_eq_true rfl) ⟨by decide, by decide⟩ dX11_isCloseToOneOf_43 ?_
    refine s_if_eq 106 E dX11_isCloseToOneOf_46 (by decide) ?_ ?_
    · exact t_k_isCloseToOneOf_106 E hn a1 a2 a3 a4 m hb hx0 hx1
    · refine s_iload_n 3 E dX11_isCloseToOneOf_49 rfl rfl ?_
      refine s_iconst (v := (1 : Int32)) E dX11_isCloseToOneOf_50 (by decide) ?_
      refine s_icmp_eq 74 E dX11_isCloseToOneOf_51 (by decide) ?_ ?_
      · exact t_k_isCloseToOneOf_74 E hn a1 a2 a3 a4 m hb hx0 hx1
      · refine s_iload_n 3 E dX11_isCloseToOneOf_54 rfl rfl ?_
        refine s_aload_n 0 E dX11_isCloseToOneOf_55 rfl rfl ?_
        refine s_getr (k := 0) (T := TX11) 0 E rfl rfl rfl inX11 (by decide) W360 dX11_isCloseToOneOf_56 ?_
        refine s_iload 4 E dX11_isCloseToOneOf_59 rfl ?_
        refine s_bd (fun v2 hz => ?_)
        refine s_cV (rest := [.int a3]) E (C_b_leanOf (xl x) G a4 m hz) mdX0_leanOf W427 W428 W429 W92 W430 rfl rfl rfl rfl (Nat.le_of_ble_eq_true rfl) ⟨by decide, by decide⟩ dX11_isCloseToOneOf_61 ?_
        refine s_bd (fun v3 hz => ?_)
        refine s_cS (rest := [.int a3]) E (C_k_side (xl x) G v2 m hz) mdX11_side W461 W462 W91 W463 rfl rfl (Nat.le_of_ble_eq_true rfl) ⟨by decide, by decide⟩ dX11_isCloseToOneOf_64 ?_
        refine s_icmp_ne 74 E dX11_isCloseToOneOf_67 (by decide) ?_ ?_
        · exact t_k_isCloseToOneOf_74 E hn a1 a2 a3 a4 m hb hx0 hx1
        · refine s_iconst (v := (1 : Int32)) E dX11_isCloseToOneOf_70 (by decide) ?_
          refine s_goto 75 E dX11_isCloseToOneOf_71 (by decide) ?_
          exact t_k_isCloseToOneOf_75 E hn a1 a2 a3 a4 (1 : Int32) m hb hx0 hx1
def k_isCloseToOneOf_28 (a1 : Int32) (a2 : Int32) (a3 : Int32) (a4 : Int32) (m : M) : Option (Int32) :=
  Option.bind (iter (fun z => k_isCloseToOneOf_28b a1 a2 a3 z m) FU a4) (fun r => (match r with
  | .inl r => some (0 : Int32)
  | .inr r => some (1 : Int32)))
set_option maxRecDepth 20000 in
theorem t_k_isCloseToOneOf_28 {G : GG} {x : Cx} (E : En G x cX11_isCloseToOneOf "WreckBoard" 5 (some .boolean)) (hn : xn x = 6) (a1 : Int32) (a2 : Int32) (a3 : Int32) (a4 : Int32) (m : M) : Sm G x 28 [(0, .ref (G.2.1 0)), (1, .int a1), (2, .int a2), (3, .int a3), (4, .int a4)] [] m (k_isCloseToOneOf_28 a1 a2 a3 a4 m) (KRi m) := by
  unfold k_isCloseToOneOf_28
  refine s_loop (fun z => [(0, .ref (G.2.1 0)), (1, .int a1), (2, .int a2), (3, .int a3), (4, .int z)]) (fun z => m) (fun K2 hb2 hr2 z => ?_) FU a4
  refine t_k_isCloseToOneOf_28b (K := K2) E hn a1 a2 a3 z m hb2 (fun r => s_out (hr2 (.inl r)) ?_) (fun r => s_out (hr2 (.inr r)) ?_)
  · refine s_iconst (v := (0 : Int32)) E dX11_isCloseToOneOf_112 (by decide) ?_
    exact s_zret E (by decide) rfl dX11_isCloseToOneOf_113
  · refine s_iconst (v := (1 : Int32)) E dX11_isCloseToOneOf_104 (by decide) ?_
    exact s_zret E (by decide) rfl dX11_isCloseToOneOf_105
def k_isCloseToOneOf (a1 : Int32) (a2 : Int32) (m : M) : Option (Int32) :=
  Option.bind (b_isHeard a2 m) (fun v1 => (if v1 = 0 then Option.bind (b_leanOf a2 m) (fun v2 => Option.bind (k_side v2 m) (fun v3 => k_isCloseToOneOf_28 a1 a2 v3 (0 : Int32) m)) else some (0 : Int32)))
set_option maxRecDepth 20000 in
theorem t_k_isCloseToOneOf {G : GG} {x : Cx} (E : En G x cX11_isCloseToOneOf "WreckBoard" 5 (some .boolean)) (hn : xn x = 6) (a1 : Int32) (a2 : Int32) (m : M) : Sm G x 0 [(0, .ref (G.2.1 0)), (1, .int a1), (2, .int a2)] [] m (k_isCloseToOneOf a1 a2 m) (KRi m) := by
  unfold k_isCloseToOneOf
  refine s_aload_n 0 E dX11_isCloseToOneOf_0 rfl rfl ?_
  refine s_getr (k := 0) (T := TX11) 0 E rfl rfl rfl inX11 (by decide) W360 dX11_isCloseToOneOf_1 ?_
  refine s_iload_n 2 E dX11_isCloseToOneOf_4 rfl rfl ?_
  refine s_bd (fun v1 hz => ?_)
  refine s_cV (rest := []) E (C_b_isHeard (xl x) G a2 m hz) mdX0_isHeard W420 W421 W422 W92 W423 rfl rfl rfl rfl (Nat.le_of_ble_eq_true rfl) ⟨by decide, by decide⟩ dX11_isCloseToOneOf_5 ?_
  refine s_if_eq 13 E dX11_isCloseToOneOf_8 (by decide) ?_ ?_
  · refine s_aload_n 0 E dX11_isCloseToOneOf_13 rfl rfl ?_
    refine s_getr (k := 0) (T := TX11) 0 E rfl rfl rfl inX11 (by decide) W360 dX11_isCloseToOneOf_14 ?_
    refine s_iload_n 2 E dX11_isCloseToOneOf_17 rfl rfl ?_
    refine s_bd (fun v2 hz => ?_)
    refine s_cV (rest := []) E (C_b_leanOf (xl x) G a2 m hz) mdX0_leanOf W427 W428 W429 W92 W430 rfl rfl rfl rfl (Nat.le_of_ble_eq_true rfl) ⟨by decide, by decide⟩ dX11_isCloseToOneOf_18 ?_
    refine s_bd (fun v3 hz => ?_)
    refine s_cS (rest := []) E (C_k_side (xl x) G v2 m hz) mdX11_side W461 W462 W91 W463 rfl rfl (Nat.le_of_ble_eq_true rfl) ⟨by decide, by decide⟩ dX11_isCloseToOneOf_21 ?_
    refine s_istore_n (lv' := [(0, .ref (G.2.1 0)), (1, .int a1), (2, .int a2), (3, .int v3)]) [1, 2, 3, 0] E dX11_isCloseToOneOf_24 rfl (by rw [hn]; decide) rfl ?_
    refine s_iconst (v := (0 : Int32)) E dX11_isCloseToOneOf_25 (by decide) ?_
    refine s_istore (lv' := [(0, .ref (G.2.1 0)), (1, .int a1), (2, .int a2), (3, .int v3), (4, .int (0 : Int32))]) [1, 2, 3, 4, 0] E dX11_isCloseToOneOf_26 (by rw [hn]; decide) rfl ?_
    exact t_k_isCloseToOneOf_28 E hn a1 a2 v3 (0 : Int32) m
  · refine s_iconst (v := (0 : Int32)) E dX11_isCloseToOneOf_11 (by decide) ?_
    exact s_zret E (by decide) rfl dX11_isCloseToOneOf_12
set_option maxRecDepth 20000 in
theorem C_k_isCloseToOneOf (l : Launch) (G : GG) (a1 : Int32) (a2 : Int32) (m : M) {z : Int32} (hz : k_isCloseToOneOf a1 a2 m = some z) : Ct l G yX11_isCloseToOneOf cX11_isCloseToOneOf 6 (some .boolean) 5 [.ref (G.2.1 0), .int a1, .int a2] m (some (.int z)) m :=
  ct_of (K := (KRi m)) (by decide) (Nat.le_of_ble_eq_true rfl) (congrArg (fun q => Option.bind q _) hz) (fun x hl hn E => (t_k_isCloseToOneOf E hn a1 a2 m))
theorem mdX11_isCloseToOneOf : mdq yX11_isCloseToOneOf 2 := ⟨by decide, by decide, by decide +kernel⟩
theorem dX11_partyOf_0 : decode cX11_partyOf 0 = .ok (.aload_n 0, 1) := by decide +kernel
theorem dX11_partyOf_1 : decode cX11_partyOf 1 = .ok (.getfield 12, 3) := by decide +kernel
theorem dX11_partyOf_4 : decode cX11_partyOf 4 = .ok (.iload_n 1, 1) := by decide +kernel
theorem dX11_partyOf_5 : decode cX11_partyOf 5 = .ok (.invokevirtual 89, 3) := by decide +kernel
theorem dX11_partyOf_8 : decode cX11_partyOf 8 = .ok (.ifCond .eq 5, 3) := by decide +kernel
theorem dX11_partyOf_11 : decode cX11_partyOf 11 = .ok (.iconst 0, 1) := by decide +kernel
theorem dX11_partyOf_12 : decode cX11_partyOf 12 = .ok (.ireturn, 1) := by decide +kernel
theorem dX11_partyOf_13 : decode cX11_partyOf 13 = .ok (.iconst 1, 1) := by decide +kernel
theorem dX11_partyOf_14 : decode cX11_partyOf 14 = .ok (.iload_n 1, 1) := by decide +kernel
theorem dX11_partyOf_15 : decode cX11_partyOf 15 = .ok (.ishl, 1) := by decide +kernel
theorem dX11_partyOf_16 : decode cX11_partyOf 16 = .ok (.istore_n 2, 1) := by decide +kernel
theorem dX11_partyOf_17 : decode cX11_partyOf 17 = .ok (.iconst 0, 1) := by decide +kernel
theorem dX11_partyOf_18 : decode cX11_partyOf 18 = .ok (.istore_n 3, 1) := by decide +kernel
theorem dX11_partyOf_19 : decode cX11_partyOf 19 = .ok (.iload_n 3, 1) := by decide +kernel
theorem dX11_partyOf_20 : decode cX11_partyOf 20 = .ok (.aload_n 0, 1) := by decide +kernel
theorem dX11_partyOf_21 : decode cX11_partyOf 21 = .ok (.getfield 12, 3) := by decide +kernel
theorem dX11_partyOf_24 : decode cX11_partyOf 24 = .ok (.getfield 65, 3) := by decide +kernel
theorem dX11_partyOf_27 : decode cX11_partyOf 27 = .ok (.if_icmp .ge 47, 3) := by decide +kernel
theorem dX11_partyOf_30 : decode cX11_partyOf 30 = .ok (.iconst 0, 1) := by decide +kernel
theorem dX11_partyOf_31 : decode cX11_partyOf 31 = .ok (.istore 4, 2) := by decide +kernel
theorem dX11_partyOf_33 : decode cX11_partyOf 33 = .ok (.iload 4, 2) := by decide +kernel
theorem dX11_partyOf_35 : decode cX11_partyOf 35 = .ok (.aload_n 0, 1) := by decide +kernel
theorem dX11_partyOf_36 : decode cX11_partyOf 36 = .ok (.getfield 12, 3) := by decide +kernel
theorem dX11_partyOf_39 : decode cX11_partyOf 39 = .ok (.getfield 65, 3) := by decide +kernel
theorem dX11_partyOf_42 : decode cX11_partyOf 42 = .ok (.if_icmp .ge 26, 3) := by decide +kernel
theorem dX11_partyOf_45 : decode cX11_partyOf 45 = .ok (.aload_n 0, 1) := by decide +kernel
theorem dX11_partyOf_46 : decode cX11_partyOf 46 = .ok (.iload_n 2, 1) := by decide +kernel
theorem dX11_partyOf_47 : decode cX11_partyOf 47 = .ok (.iload 4, 2) := by decide +kernel
theorem dX11_partyOf_49 : decode cX11_partyOf 49 = .ok (.invokevirtual 205, 3) := by decide +kernel
theorem dX11_partyOf_52 : decode cX11_partyOf 52 = .ok (.ifCond .eq 10, 3) := by decide +kernel
theorem dX11_partyOf_55 : decode cX11_partyOf 55 = .ok (.iload_n 2, 1) := by decide +kernel
theorem dX11_partyOf_56 : decode cX11_partyOf 56 = .ok (.iconst 1, 1) := by decide +kernel
theorem dX11_partyOf_57 : decode cX11_partyOf 57 = .ok (.iload 4, 2) := by decide +kernel
theorem dX11_partyOf_59 : decode cX11_partyOf 59 = .ok (.ishl, 1) := by decide +kernel
theorem dX11_partyOf_60 : decode cX11_partyOf 60 = .ok (.ior, 1) := by decide +kernel
theorem dX11_partyOf_61 : decode cX11_partyOf 61 = .ok (.istore_n 2, 1) := by decide +kernel
theorem dX11_partyOf_62 : decode cX11_partyOf 62 = .ok (.iinc 4 1, 3) := by decide +kernel
theorem dX11_partyOf_65 : decode cX11_partyOf 65 = .ok (.goto (-32), 3) := by decide +kernel
theorem dX11_partyOf_68 : decode cX11_partyOf 68 = .ok (.iinc 3 1, 3) := by decide +kernel
theorem dX11_partyOf_71 : decode cX11_partyOf 71 = .ok (.goto (-52), 3) := by decide +kernel
theorem dX11_partyOf_74 : decode cX11_partyOf 74 = .ok (.iload_n 2, 1) := by decide +kernel
theorem dX11_partyOf_75 : decode cX11_partyOf 75 = .ok (.ireturn, 1) := by decide +kernel
def k_partyOf_62 (a2 : Int32) (a3 : Int32) (a4 : Int32) (m : M) : Option ((Int32 × Int32) ⊕ ((Int32))) :=
  lt (a4 + (1 : Int32)) (fun w1 : Int32 => some (.inl (a2, w1)))
set_option maxRecDepth 20000 in
theorem t_k_partyOf_62 {G : GG} {x : Cx} {K : ((Int32 × Int32) ⊕ ((Int32))) → Option (Option Value × M)} (E : En G x cX11_partyOf "WreckBoard" 6 (some .int)) (hn : xn x = 5) (a2 : Int32) (a3 : Int32) (a4 : Int32) (m : M) (hb : ∀ z : Int32 × Int32, Sm G x 33 [(0, .ref (G.2.1 0)), (2, .int z.1), (3, .int a3), (4, .int z.2)] [] m (some (.inl z)) K) (hx0 : ∀ z : Int32, Sm G x 68 [(0, .ref (G.2.1 0)), (2, .int z), (3, .int a3)] [] m (some (.inr z)) K) : Sm G x 62 [(0, .ref (G.2.1 0)), (2, .int a2), (3, .int a3), (4, .int a4)] [] m (k_partyOf_62 a2 a3 a4 m) K := by
  unfold k_partyOf_62
  refine s_iincL (v := (1 : Int32)) 3 [1, 2, 3, 0] (fun w1 => [(0, .ref (G.2.1 0)), (2, .int a2), (3, .int a3), (4, .int w1)]) E dX11_partyOf_62 rfl (by decide) (by rw [hn]; decide) (fun _ => rfl) (fun w1 => ?_)
  refine s_goto 33 E dX11_partyOf_65 (by decide) ?_
  exact hb (a2, w1)
def k_partyOf_33b (a2 : Int32) (a3 : Int32) (a4 : Int32) (m : M) : Option ((Int32 × Int32) ⊕ ((Int32))) :=
  (if (m 1 6) ≤ a4 then some (.inr a2) else Option.bind (k_isCloseToOneOf a2 a4 m) (fun v1 => (if v1 = 0 then k_partyOf_62 a2 a3 a4 m else lt (a2 ||| ((1 : Int32) <<< (a4 &&& 31))) (fun w2 : Int32 => k_partyOf_62 w2 a3 a4 m))))
set_option maxRecDepth 20000 in
theorem t_k_partyOf_33b {G : GG} {x : Cx} {K : ((Int32 × Int32) ⊕ ((Int32))) → Option (Option Value × M)} (E : En G x cX11_partyOf "WreckBoard" 6 (some .int)) (hn : xn x = 5) (a2 : Int32) (a3 : Int32) (a4 : Int32) (m : M) (hb : ∀ z : Int32 × Int32, Sm G x 33 [(0, .ref (G.2.1 0)), (2, .int z.1), (3, .int a3), (4, .int z.2)] [] m (some (.inl z)) K) (hx0 : ∀ z : Int32, Sm G x 68 [(0, .ref (G.2.1 0)), (2, .int z), (3, .int a3)] [] m (some (.inr z)) K) : Sm G x 33 [(0, .ref (G.2.1 0)), (2, .int a2), (3, .int a3), (4, .int a4)] [] m (k_partyOf_33b a2 a3 a4 m) K := by
  unfold k_partyOf_33b
  refine s_iload 3 E dX11_partyOf_33 rfl ?_
  refine s_aload_n 0 E dX11_partyOf_35 rfl rfl ?_
  refine s_getr (k := 0) (T := TX11) 0 E rfl rfl rfl inX11 (by decide) W360 dX11_partyOf_36 ?_
  refine s_geti (k := 6) (T := TX0) 1 E rfl rfl rfl inX0 (by decide) W237 dX11_partyOf_39 ?_
  refine s_icmp_ge 68 E dX11_partyOf_42 (by decide) ?_ ?_
  · refine s_sub (lv' := [(0, .ref (G.2.1 0)), (2, .int a2), (3, .int a3)]) [0, 1, 2] rfl ?_
    exact hx0 a2
  · refine s_aload_n 0 E dX11_partyOf_45 rfl rfl ?_
    refine s_iload_n 1 E dX11_partyOf_46 rfl rfl ?_
    refine s_iload 3 E dX11_partyOf_47 rfl ?_
    refine s_bd (fun v1 hz => ?_)
    refine s_cV (rest := []) E (C_k_isCloseToOneOf (xl x) G a2 a4 m hz) mdX11_isCloseToOneOf W876 W878 W17 W91 W879 rfl rfl rfl rfl (Nat.le_of_ble_eq_true rfl) ⟨by decide, by decide⟩ dX11_partyOf_49 ?_
    refine s_if_eq 62 E dX11_partyOf_52 (by decide) ?_ ?_
    · exact t_k_partyOf_62 E hn a2 a3 a4 m hb hx0
    · refine s_iload_n 1 E dX11_partyOf_55 rfl rfl ?_
      refine s_iconst (v := (1 : Int32)) E dX11_partyOf_56 (by decide) ?_
      refine s_iload 3 E dX11_partyOf_57 rfl ?_
      refine s_ishl E dX11_partyOf_59 ?_
      refine s_ior E dX11_partyOf_60 ?_
      refine s_lt (fun w2 => [(0, .ref (G.2.1 0)), (2, .int a2), (3, .int a3), (4, .int a4)]) (fun w2 => [.int w2]) rfl rfl (fun w2 => ?_)
      refine s_istore_n (lv' := [(0, .ref (G.2.1 0)), (2, .int w2), (3, .int a3), (4, .int a4)]) [1, 0, 2, 3] E dX11_partyOf_61 rfl (by rw [hn]; decide) rfl ?_
      exact t_k_partyOf_62 E hn w2 a3 a4 m hb hx0
def k_partyOf_33 (a2 : Int32) (a3 : Int32) (a4 : Int32) (m : M) : Option ((Int32 × Int32) ⊕ ((Int32))) :=
  Option.bind (iter (fun z => k_partyOf_33b z.1 a3 z.2 m) FU (a2, a4)) (fun r => lt (a3 + (1 : Int32)) (fun w3 : Int32 => some (.inl (r, w3))))
set_option maxRecDepth 20000 in
theorem t_k_partyOf_33 {G : GG} {x : Cx} {K : ((Int32 × Int32) ⊕ ((Int32))) → Option (Option Value × M)} (E : En G x cX11_partyOf "WreckBoard" 6 (some .int)) (hn : xn x = 5) (a2 : Int32) (a3 : Int32) (a4 : Int32) (m : M) (hb : ∀ z : Int32 × Int32, Sm G x 19 [(0, .ref (G.2.1 0)), (2, .int z.1), (3, .int z.2)] [] m (some (.inl z)) K) (hx0 : ∀ z : Int32, Sm G x 74 [(2, .int z)] [] m (some (.inr z)) K) : Sm G x 33 [(0, .ref (G.2.1 0)), (2, .int a2), (3, .int a3), (4, .int a4)] [] m (k_partyOf_33 a2 a3 a4 m) K := by
  unfold k_partyOf_33
  refine s_loop (fun z => [(0, .ref (G.2.1 0)), (2, .int z.1), (3, .int a3), (4, .int z.2)]) (fun z => m) (fun K2 hb2 hr2 z => ?_) FU (a2, a4)
  refine t_k_partyOf_33b (K := K2) E hn z.1 a3 z.2 m hb2 (fun r => s_out (hr2 r) ?_)
  · refine s_iincL (v := (1 : Int32)) 2 [1, 2, 0] (fun w3 => [(0, .ref (G.2.1 0)), (2, .int r), (3, .int w3)]) E dX11_partyOf_68 rfl (by decide) (by rw [hn]; decide) (fun _ => rfl) (fun w3 => ?_)
    refine s_goto 19 E dX11_partyOf_71 (by decide) ?_
    exact hb (r, w3)
def k_partyOf_19b (a2 : Int32) (a3 : Int32) (m : M) : Option ((Int32 × Int32) ⊕ ((Int32))) :=
  (if (m 1 6) ≤ a3 then some (.inr a2) else k_partyOf_33 a2 a3 (0 : Int32) m)
set_option maxRecDepth 20000 in
theorem t_k_partyOf_19b {G : GG} {x : Cx} {K : ((Int32 × Int32) ⊕ ((Int32))) → Option (Option Value × M)} (E : En G x cX11_partyOf "WreckBoard" 6 (some .int)) (hn : xn x = 5) (a2 : Int32) (a3 : Int32) (m : M) (hb : ∀ z : Int32 × Int32, Sm G x 19 [(0, .ref (G.2.1 0)), (2, .int z.1), (3, .int z.2)] [] m (some (.inl z)) K) (hx0 : ∀ z : Int32, Sm G x 74 [(2, .int z)] [] m (some (.inr z)) K) : Sm G x 19 [(0, .ref (G.2.1 0)), (2, .int a2), (3, .int a3)] [] m (k_partyOf_19b a2 a3 m) K := by
  unfold k_partyOf_19b
  refine s_iload_n 2 E dX11_partyOf_19 rfl rfl ?_
  refine s_aload_n 0 E dX11_partyOf_20 rfl rfl ?_
  refine s_getr (k := 0) (T := TX11) 0 E rfl rfl rfl inX11 (by decide) W360 dX11_partyOf_21 ?_
  refine s_geti (k := 6) (T := TX0) 1 E rfl rfl rfl inX0 (by decide) W237 dX11_partyOf_24 ?_
  refine s_icmp_ge 74 E dX11_partyOf_27 (by decide) ?_ ?_
  · refine s_sub (lv' := [(2, .int a2)]) [1] rfl ?_
    exact hx0 a2
  · refine s_iconst (v := (0 : Int32)) E dX11_partyOf_30 (by decide) ?_
    refine s_istore (lv' := [(0, .ref (G.2.1 0)), (2, .int a2), (3, .int a3), (4, .int (0 : Int32))]) [1, 2, 3, 0] E dX11_partyOf_31 (by rw [hn]; decide) rfl ?_
    exact t_k_partyOf_33 E hn a2 a3 (0 : Int32) m hb hx0
def k_partyOf_19 (a2 : Int32) (a3 : Int32) (m : M) : Option (Int32) :=
  Option.bind (iter (fun z => k_partyOf_19b z.1 z.2 m) FU (a2, a3)) (fun r => some r)
set_option maxRecDepth 20000 in
theorem t_k_partyOf_19 {G : GG} {x : Cx} (E : En G x cX11_partyOf "WreckBoard" 6 (some .int)) (hn : xn x = 5) (a2 : Int32) (a3 : Int32) (m : M) : Sm G x 19 [(0, .ref (G.2.1 0)), (2, .int a2), (3, .int a3)] [] m (k_partyOf_19 a2 a3 m) (KRi m) := by
  unfold k_partyOf_19
  refine s_loop (fun z => [(0, .ref (G.2.1 0)), (2, .int z.1), (3, .int z.2)]) (fun z => m) (fun K2 hb2 hr2 z => ?_) FU (a2, a3)
  refine t_k_partyOf_19b (K := K2) E hn z.1 z.2 m hb2 (fun r => s_out (hr2 r) ?_)
  · refine s_iload_n 0 E dX11_partyOf_74 rfl rfl ?_
    exact s_iret E rfl dX11_partyOf_75
def k_partyOf (a1 : Int32) (m : M) : Option (Int32) :=
  Option.bind (b_isHeard a1 m) (fun v1 => (if v1 = 0 then lt ((1 : Int32) <<< (a1 &&& 31)) (fun w2 : Int32 => k_partyOf_19 w2 (0 : Int32) m) else some (0 : Int32)))
set_option maxRecDepth 20000 in
theorem t_k_partyOf {G : GG} {x : Cx} (E : En G x cX11_partyOf "WreckBoard" 6 (some .int)) (hn : xn x = 5) (a1 : Int32) (m : M) : Sm G x 0 [(0, .ref (G.2.1 0)), (1, .int a1)] [] m (k_partyOf a1 m) (KRi m) := by
  unfold k_partyOf
  refine s_aload_n 0 E dX11_partyOf_0 rfl rfl ?_
  refine s_getr (k := 0) (T := TX11) 0 E rfl rfl rfl inX11 (by decide) W360 dX11_partyOf_1 ?_
  refine s_iload_n 1 E dX11_partyOf_4 rfl rfl ?_
  refine s_bd (fun v1 hz => ?_)
  refine s_cV (rest := []) E (C_b_isHeard (xl x) G a1 m hz) mdX0_isHeard W420 W421 W422 W92 W423 rfl rfl rfl rfl (Nat.le_of_ble_eq_true rfl) ⟨by decide, by decide⟩ dX11_partyOf_5 ?_
  refine s_if_eq 13 E dX11_partyOf_8 (by decide) ?_ ?_
  · refine s_iconst (v := (1 : Int32)) E dX11_partyOf_13 (by decide) ?_
    refine s_iload_n 1 E dX11_partyOf_14 rfl rfl ?_
    refine s_ishl E dX11_partyOf_15 ?_
    refine s_lt (fun w2 => [(0, .ref (G.2.1 0)), (1, .int a1)]) (fun w2 => [.int w2]) rfl rfl (fun w2 => ?_)
    refine s_istore_n (lv' := [(0, .ref (G.2.1 0)), (2, .int w2)]) [1, 0] E dX11_partyOf_16 rfl (by rw [hn]; decide) rfl ?_
    refine s_iconst (v := (0 : Int32)) E dX11_partyOf_17 (by decide) ?_
    refine s_istore_n (lv' := [(0, .ref (G.2.1 0)), (2, .int w2), (3, .int (0 : Int32))]) [1, 2, 0] E dX11_partyOf_18 rfl (by rw [hn]; decide) rfl ?_
    exact t_k_partyOf_19 E hn w2 (0 : Int32) m
  · refine s_iconst (v := (0 : Int32)) E dX11_partyOf_11 (by decide) ?_
    exact s_iret E rfl dX11_partyOf_12
set_option maxRecDepth 20000 in
theorem C_k_partyOf (l : Launch) (G : GG) (a1 : Int32) (m : M) {z : Int32} (hz : k_partyOf a1 m = some z) : Ct l G yX11_partyOf cX11_partyOf 5 (some .int) 6 [.ref (G.2.1 0), .int a1] m (some (.int z)) m :=
  ct_of (K := (KRi m)) (by decide) (Nat.le_of_ble_eq_true rfl) (congrArg (fun q => Option.bind q _) hz) (fun x hl hn E => (t_k_partyOf E hn a1 m))
theorem mdX11_partyOf : mdq yX11_partyOf 1 := ⟨by decide, by decide, by decide +kernel⟩
theorem dX11_countOfParties_0 : decode cX11_countOfParties 0 = .ok (.iconst 0, 1) := by decide +kernel
theorem dX11_countOfParties_1 : decode cX11_countOfParties 1 = .ok (.istore_n 1, 1) := by decide +kernel
theorem dX11_countOfParties_2 : decode cX11_countOfParties 2 = .ok (.iconst 0, 1) := by decide +kernel
theorem dX11_countOfParties_3 : decode cX11_countOfParties 3 = .ok (.istore_n 2, 1) := by decide +kernel
theorem dX11_countOfParties_4 : decode cX11_countOfParties 4 = .ok (.iload_n 2, 1) := by decide +kernel
theorem dX11_countOfParties_5 : decode cX11_countOfParties 5 = .ok (.aload_n 0, 1) := by decide +kernel
theorem dX11_countOfParties_6 : decode cX11_countOfParties 6 = .ok (.getfield 12, 3) := by decide +kernel
theorem dX11_countOfParties_9 : decode cX11_countOfParties 9 = .ok (.getfield 65, 3) := by decide +kernel
theorem dX11_countOfParties_12 : decode cX11_countOfParties 12 = .ok (.if_icmp .ge 39, 3) := by decide +kernel
theorem dX11_countOfParties_15 : decode cX11_countOfParties 15 = .ok (.iconst 1, 1) := by decide +kernel
theorem dX11_countOfParties_16 : decode cX11_countOfParties 16 = .ok (.iload_n 2, 1) := by decide +kernel
theorem dX11_countOfParties_17 : decode cX11_countOfParties 17 = .ok (.ishl, 1) := by decide +kernel
theorem dX11_countOfParties_18 : decode cX11_countOfParties 18 = .ok (.iconst 1, 1) := by decide +kernel
theorem dX11_countOfParties_19 : decode cX11_countOfParties 19 = .ok (.isub, 1) := by decide +kernel
theorem dX11_countOfParties_20 : decode cX11_countOfParties 20 = .ok (.istore_n 3, 1) := by decide +kernel
theorem dX11_countOfParties_21 : decode cX11_countOfParties 21 = .ok (.aload_n 0, 1) := by decide +kernel
theorem dX11_countOfParties_22 : decode cX11_countOfParties 22 = .ok (.getfield 12, 3) := by decide +kernel
theorem dX11_countOfParties_25 : decode cX11_countOfParties 25 = .ok (.iload_n 2, 1) := by decide +kernel
theorem dX11_countOfParties_26 : decode cX11_countOfParties 26 = .ok (.invokevirtual 89, 3) := by decide +kernel
theorem dX11_countOfParties_29 : decode cX11_countOfParties 29 = .ok (.ifCond .ne 16, 3) := by decide +kernel
theorem dX11_countOfParties_32 : decode cX11_countOfParties 32 = .ok (.aload_n 0, 1) := by decide +kernel
theorem dX11_countOfParties_33 : decode cX11_countOfParties 33 = .ok (.iload_n 2, 1) := by decide +kernel
theorem dX11_countOfParties_34 : decode cX11_countOfParties 34 = .ok (.invokevirtual 202, 3) := by decide +kernel
theorem dX11_countOfParties_37 : decode cX11_countOfParties 37 = .ok (.iload_n 3, 1) := by decide +kernel
theorem dX11_countOfParties_38 : decode cX11_countOfParties 38 = .ok (.iand, 1) := by decide +kernel
theorem dX11_countOfParties_39 : decode cX11_countOfParties 39 = .ok (.ifCond .ne 6, 3) := by decide +kernel
theorem dX11_countOfParties_42 : decode cX11_countOfParties 42 = .ok (.iinc 1 1, 3) := by decide +kernel
theorem dX11_countOfParties_45 : decode cX11_countOfParties 45 = .ok (.iinc 2 1, 3) := by decide +kernel
theorem dX11_countOfParties_48 : decode cX11_countOfParties 48 = .ok (.goto (-44), 3) := by decide +kernel
theorem dX11_countOfParties_51 : decode cX11_countOfParties 51 = .ok (.iload_n 1, 1) := by decide +kernel
theorem dX11_countOfParties_52 : decode cX11_countOfParties 52 = .ok (.ireturn, 1) := by decide +kernel
def k_countOfParties_45 (a1 : Int32) (a2 : Int32) (m : M) : Option ((Int32 × Int32) ⊕ ((Int32))) :=
  lt (a2 + (1 : Int32)) (fun w1 : Int32 => some (.inl (a1, w1)))
set_option maxRecDepth 20000 in
theorem t_k_countOfParties_45 {G : GG} {x : Cx} {K : ((Int32 × Int32) ⊕ ((Int32))) → Option (Option Value × M)} (E : En G x cX11_countOfParties "WreckBoard" 7 (some .int)) (hn : xn x = 4) (a1 : Int32) (a2 : Int32) (m : M) (hb : ∀ z : Int32 × Int32, Sm G x 4 [(0, .ref (G.2.1 0)), (1, .int z.1), (2, .int z.2)] [] m (some (.inl z)) K) (hx0 : ∀ z : Int32, Sm G x 51 [(1, .int z)] [] m (some (.inr z)) K) : Sm G x 45 [(0, .ref (G.2.1 0)), (1, .int a1), (2, .int a2)] [] m (k_countOfParties_45 a1 a2 m) K := by
  unfold k_countOfParties_45
  refine s_iincL (v := (1 : Int32)) 2 [1, 2, 0] (fun w1 => [(0, .ref (G.2.1 0)), (1, .int a1), (2, .int w1)]) E dX11_countOfParties_45 rfl (by decide) (by rw [hn]; decide) (fun _ => rfl) (fun w1 => ?_)
  refine s_goto 4 E dX11_countOfParties_48 (by decide) ?_
  exact hb (a1, w1)
def k_countOfParties_4b (a1 : Int32) (a2 : Int32) (m : M) : Option ((Int32 × Int32) ⊕ ((Int32))) :=
  (if (m 1 6) ≤ a2 then some (.inr a1) else lt (((1 : Int32) <<< (a2 &&& 31)) - (1 : Int32)) (fun w1 : Int32 => Option.bind (b_isHeard a2 m) (fun v2 => (if v2 = 0 then Option.bind (k_partyOf a2 m) (fun v3 => (if (v3 &&& w1) = 0 then lt (a1 + (1 : Int32)) (fun w4 : Int32 => k_countOfParties_45 w4 a2 m) else k_countOfParties_45 a1 a2 m)) else k_countOfParties_45 a1 a2 m))))
set_option maxRecDepth 20000 in
theorem t_k_countOfParties_4b {G : GG} {x : Cx} {K : ((Int32 × Int32) ⊕ ((Int32))) → Option (Option Value × M)} (E : En G x cX11_countOfParties "WreckBoard" 7 (some .int)) (hn : xn x = 4) (a1 : Int32) (a2 : Int32) (m : M) (hb : ∀ z : Int32 × Int32, Sm G x 4 [(0, .ref (G.2.1 0)), (1, .int z.1), (2, .int z.2)] [] m (some (.inl z)) K) (hx0 : ∀ z : Int32, Sm G x 51 [(1, .int z)] [] m (some (.inr z)) K) : Sm G x 4 [(0, .ref (G.2.1 0)), (1, .int a1), (2, .int a2)] [] m (k_countOfParties_4b a1 a2 m) K := by
  unfold k_countOfParties_4b
  refine s_iload_n 2 E dX11_countOfParties_4 rfl rfl ?_
  refine s_aload_n 0 E dX11_countOfParties_5 rfl rfl ?_
  refine s_getr (k := 0) (T := TX11) 0 E rfl rfl rfl inX11 (by decide) W360 dX11_countOfParties_6 ?_
  refine s_geti (k := 6) (T := TX0) 1 E rfl rfl rfl inX0 (by decide) W237 dX11_countOfParties_9 ?_
  refine s_icmp_ge 51 E dX11_countOfParties_12 (by decide) ?_ ?_
  · refine s_sub (lv' := [(1, .int a1)]) [1] rfl ?_
    exact hx0 a1
  · refine s_iconst (v := (1 : Int32)) E dX11_countOfParties_15 (by decide) ?_
    refine s_iload_n 2 E dX11_countOfParties_16 rfl rfl ?_
    refine s_ishl E dX11_countOfParties_17 ?_
    refine s_iconst (v := (1 : Int32)) E dX11_countOfParties_18 (by decide) ?_
    refine s_isub E dX11_countOfParties_19 ?_
    refine s_lt (fun w1 => [(0, .ref (G.2.1 0)), (1, .int a1), (2, .int a2)]) (fun w1 => [.int w1]) rfl rfl (fun w1 => ?_)
    refine s_istore_n (lv' := [(0, .ref (G.2.1 0)), (1, .int a1), (2, .int a2), (3, .int w1)]) [1, 2, 3, 0] E dX11_countOfParties_20 rfl (by rw [hn]; decide) rfl ?_
    refine s_aload_n 0 E dX11_countOfParties_21 rfl rfl ?_
    refine s_getr (k := 0) (T := TX11) 0 E rfl rfl rfl inX11 (by decide) W360 dX11_countOfParties_22 ?_
    refine s_iload_n 2 E dX11_countOfParties_25 rfl rfl ?_
    refine s_bd (fun v2 hz => ?_)
    refine s_cV (rest := []) E (C_b_isHeard (xl x) G a2 m hz) mdX0_isHeard W420 W421 W422 W92 W423 rfl rfl rfl rfl (Nat.le_of_ble_eq_true rfl) ⟨by decide, by decide⟩ dX11_countOfParties_26 ?_
    refine s_if_ne 45 E dX11_countOfParties_29 (by decide) ?_ ?_
    · refine s_sub (lv' := [(0, .ref (G.2.1 0)), (1, .int a1), (2, .int a2)]) [0, 1, 2] rfl ?_
      exact t_k_countOfParties_45 E hn a1 a2 m hb hx0
    · refine s_aload_n 0 E dX11_countOfParties_32 rfl rfl ?_
      refine s_iload_n 2 E dX11_countOfParties_33 rfl rfl ?_
      refine s_bd (fun v3 hz => ?_)
      refine s_cV (rest := []) E (C_k_partyOf (xl x) G a2 m hz) mdX11_partyOf W872 W874 W16 W91 W875 rfl rfl rfl rfl (Nat.le_of_ble_eq_true rfl) ⟨by decide, by decide⟩ dX11_countOfParties_34 ?_
      refine s_iload_n 3 E dX11_countOfParties_37 rfl rfl ?_
      refine s_iand E dX11_countOfParties_38 ?_
      refine s_if_ne 45 E dX11_countOfParties_39 (by decide) ?_ ?_
      · refine s_sub (lv' := [(0, .ref (G.2.1 0)), (1, .int a1), (2, .int a2)]) [0, 1, 2] rfl ?_
        exact t_k_countOfParties_45 E hn a1 a2 m hb hx0
      · refine s_iincL (v := (1 : Int32)) 1 [1, 0, 2] (fun w4 => [(0, .ref (G.2.1 0)), (1, .int w4), (2, .int a2)]) E dX11_countOfParties_42 rfl (by decide) (by rw [hn]; decide) (fun _ => rfl) (fun w4 => ?_)
        exact t_k_countOfParties_45 E hn w4 a2 m hb hx0
def k_countOfParties_4 (a1 : Int32) (a2 : Int32) (m : M) : Option (Int32) :=
  Option.bind (iter (fun z => k_countOfParties_4b z.1 z.2 m) FU (a1, a2)) (fun r => some r)
set_option maxRecDepth 20000 in
theorem t_k_countOfParties_4 {G : GG} {x : Cx} (E : En G x cX11_countOfParties "WreckBoard" 7 (some .int)) (hn : xn x = 4) (a1 : Int32) (a2 : Int32) (m : M) : Sm G x 4 [(0, .ref (G.2.1 0)), (1, .int a1), (2, .int a2)] [] m (k_countOfParties_4 a1 a2 m) (KRi m) := by
  unfold k_countOfParties_4
  refine s_loop (fun z => [(0, .ref (G.2.1 0)), (1, .int z.1), (2, .int z.2)]) (fun z => m) (fun K2 hb2 hr2 z => ?_) FU (a1, a2)
  refine t_k_countOfParties_4b (K := K2) E hn z.1 z.2 m hb2 (fun r => s_out (hr2 r) ?_)
  · refine s_iload_n 0 E dX11_countOfParties_51 rfl rfl ?_
    exact s_iret E rfl dX11_countOfParties_52
def k_countOfParties  (m : M) : Option (Int32) :=
  k_countOfParties_4 (0 : Int32) (0 : Int32) m
set_option maxRecDepth 20000 in
theorem t_k_countOfParties {G : GG} {x : Cx} (E : En G x cX11_countOfParties "WreckBoard" 7 (some .int)) (hn : xn x = 4)  (m : M) : Sm G x 0 [(0, .ref (G.2.1 0))] [] m (k_countOfParties m) (KRi m) := by
  unfold k_countOfParties
  refine s_iconst (v := (0 : Int32)) E dX11_countOfParties_0 (by decide) ?_
  refine s_istore_n (lv' := [(0, .ref (G.2.1 0)), (1, .int (0 : Int32))]) [1, 0] E dX11_countOfParties_1 rfl (by rw [hn]; decide) rfl ?_
  refine s_iconst (v := (0 : Int32)) E dX11_countOfParties_2 (by decide) ?_
  refine s_istore_n (lv' := [(0, .ref (G.2.1 0)), (1, .int (0 : Int32)), (2, .int (0 : Int32))]) [1, 2, 0] E dX11_countOfParties_3 rfl (by rw [hn]; decide) rfl ?_
  exact t_k_countOfParties_4 E hn (0 : Int32) (0 : Int32) m
set_option maxRecDepth 20000 in
theorem C_k_countOfParties (l : Launch) (G : GG)  (m : M) {z : Int32} (hz : k_countOfParties m = some z) : Ct l G yX11_countOfParties cX11_countOfParties 4 (some .int) 7 [.ref (G.2.1 0)] m (some (.int z)) m :=
  ct_of (K := (KRi m)) (by decide) (Nat.le_of_ble_eq_true rfl) (congrArg (fun q => Option.bind q _) hz) (fun x hl hn E => (t_k_countOfParties E hn  m))
theorem mdX11_countOfParties : mdq yX11_countOfParties 0 := ⟨by decide, by decide, by decide +kernel⟩
theorem dX11_parties_0 : decode cX11_parties 0 = .ok (.iload_n 1, 1) := by decide +kernel
theorem dX11_parties_1 : decode cX11_parties 1 = .ok (.iconst (-1), 1) := by decide +kernel
theorem dX11_parties_2 : decode cX11_parties 2 = .ok (.if_icmp .ne 8, 3) := by decide +kernel
theorem dX11_parties_5 : decode cX11_parties 5 = .ok (.aload_n 0, 1) := by decide +kernel
theorem dX11_parties_6 : decode cX11_parties 6 = .ok (.invokevirtual 199, 3) := by decide +kernel
theorem dX11_parties_9 : decode cX11_parties 9 = .ok (.ireturn, 1) := by decide +kernel
theorem dX11_parties_10 : decode cX11_parties 10 = .ok (.aload_n 0, 1) := by decide +kernel
theorem dX11_parties_11 : decode cX11_parties 11 = .ok (.getfield 12, 3) := by decide +kernel
theorem dX11_parties_14 : decode cX11_parties 14 = .ok (.iload_n 1, 1) := by decide +kernel
theorem dX11_parties_15 : decode cX11_parties 15 = .ok (.invokevirtual 73, 3) := by decide +kernel
theorem dX11_parties_18 : decode cX11_parties 18 = .ok (.ifCond .eq 11, 3) := by decide +kernel
theorem dX11_parties_21 : decode cX11_parties 21 = .ok (.aload_n 0, 1) := by decide +kernel
theorem dX11_parties_22 : decode cX11_parties 22 = .ok (.iload_n 1, 1) := by decide +kernel
theorem dX11_parties_23 : decode cX11_parties 23 = .ok (.invokevirtual 202, 3) := by decide +kernel
theorem dX11_parties_26 : decode cX11_parties 26 = .ok (.goto 4, 3) := by decide +kernel
theorem dX11_parties_29 : decode cX11_parties 29 = .ok (.iconst (-1), 1) := by decide +kernel
theorem dX11_parties_30 : decode cX11_parties 30 = .ok (.ireturn, 1) := by decide +kernel
def k_parties (a1 : Int32) (m : M) : Option (Int32) :=
  (if a1 = (-1 : Int32) then Option.bind (k_countOfParties m) (fun v3 => some v3) else Option.bind (b_isMember a1 m) (fun v1 => (if v1 = 0 then some (-1 : Int32) else Option.bind (k_partyOf a1 m) (fun v2 => some v2))))
set_option maxRecDepth 20000 in
theorem t_k_parties {G : GG} {x : Cx} (E : En G x cX11_parties "WreckBoard" 8 (some .int)) (hn : xn x = 2) (a1 : Int32) (m : M) : Sm G x 0 [(0, .ref (G.2.1 0)), (1, .int a1)] [] m (k_parties a1 m) (KRi m) := by
  unfold k_parties
  refine s_iload_n 1 E dX11_parties_0 rfl rfl ?_
  refine s_iconst (v := (-1 : Int32)) E dX11_parties_1 (by decide) ?_
  refine s_icmp_ne 10 E dX11_parties_2 (by decide) ?_ ?_
  · refine s_aload_n 0 E dX11_parties_10 rfl rfl ?_
    refine s_getr (k := 0) (T := TX11) 0 E rfl rfl rfl inX11 (by decide) W360 dX11_parties_11 ?_
    refine s_iload_n 1 E dX11_parties_14 rfl rfl ?_
    refine s_bd (fun v1 hz => ?_)
    refine s_cV (rest := []) E (C_b_isMember (xl x) G a1 m hz) mdX0_isMember W415 W416 W417 W92 W418 rfl rfl rfl rfl (Nat.le_of_ble_eq_true rfl) ⟨by decide, by decide⟩ dX11_parties_15 ?_
    refine s_if_eq 29 E dX11_parties_18 (by decide) ?_ ?_
    · refine s_iconst (v := (-1 : Int32)) E dX11_parties_29 (by decide) ?_
      exact s_iret E rfl dX11_parties_30
    · refine s_aload_n 0 E dX11_parties_21 rfl rfl ?_
      refine s_iload_n 1 E dX11_parties_22 rfl rfl ?_
      refine s_bd (fun v2 hz => ?_)
      refine s_cV (rest := []) E (C_k_partyOf (xl x) G a1 m hz) mdX11_partyOf W872 W874 W16 W91 W875 rfl rfl rfl rfl (Nat.le_of_ble_eq_true rfl) ⟨by decide, by decide⟩ dX11_parties_23 ?_
      refine s_goto 30 E dX11_parties_26 (by decide) ?_
      exact s_iret E rfl dX11_parties_30
  · refine s_aload_n 0 E dX11_parties_5 rfl rfl ?_
    refine s_bd (fun v3 hz => ?_)
    refine s_cV (rest := []) E (C_k_countOfParties (xl x) G  m hz) mdX11_countOfParties W868 W870 W15 W91 W871 rfl rfl rfl rfl (Nat.le_of_ble_eq_true rfl) ⟨by decide, by decide⟩ dX11_parties_6 ?_
    exact s_iret E rfl dX11_parties_9
set_option maxRecDepth 20000 in
theorem C_k_parties (l : Launch) (G : GG) (a1 : Int32) (m : M) {z : Int32} (hz : k_parties a1 m = some z) : Ct l G yX11_parties cX11_parties 2 (some .int) 8 [.ref (G.2.1 0), .int a1] m (some (.int z)) m :=
  ct_of (K := (KRi m)) (by decide) (Nat.le_of_ble_eq_true rfl) (congrArg (fun q => Option.bind q _) hz) (fun x hl hn E => (t_k_parties E hn a1 m))
theorem dX11_weightOfSet_0 : decode cX11_weightOfSet 0 = .ok (.iconst 0, 1) := by decide +kernel
theorem dX11_weightOfSet_1 : decode cX11_weightOfSet 1 = .ok (.istore_n 2, 1) := by decide +kernel
theorem dX11_weightOfSet_2 : decode cX11_weightOfSet 2 = .ok (.iconst 0, 1) := by decide +kernel
theorem dX11_weightOfSet_3 : decode cX11_weightOfSet 3 = .ok (.istore_n 3, 1) := by decide +kernel
theorem dX11_weightOfSet_4 : decode cX11_weightOfSet 4 = .ok (.iload_n 3, 1) := by decide +kernel
theorem dX11_weightOfSet_5 : decode cX11_weightOfSet 5 = .ok (.aload_n 0, 1) := by decide +kernel
theorem dX11_weightOfSet_6 : decode cX11_weightOfSet 6 = .ok (.getfield 12, 3) := by decide +kernel
theorem dX11_weightOfSet_9 : decode cX11_weightOfSet 9 = .ok (.getfield 65, 3) := by decide +kernel
theorem dX11_weightOfSet_12 : decode cX11_weightOfSet 12 = .ok (.if_icmp .ge 28, 3) := by decide +kernel
theorem dX11_weightOfSet_15 : decode cX11_weightOfSet 15 = .ok (.iload_n 1, 1) := by decide +kernel
theorem dX11_weightOfSet_16 : decode cX11_weightOfSet 16 = .ok (.iload_n 3, 1) := by decide +kernel
theorem dX11_weightOfSet_17 : decode cX11_weightOfSet 17 = .ok (.invokestatic 208, 3) := by decide +kernel
theorem dX11_weightOfSet_20 : decode cX11_weightOfSet 20 = .ok (.ifCond .eq 14, 3) := by decide +kernel
theorem dX11_weightOfSet_23 : decode cX11_weightOfSet 23 = .ok (.iload_n 2, 1) := by decide +kernel
theorem dX11_weightOfSet_24 : decode cX11_weightOfSet 24 = .ok (.aload_n 0, 1) := by decide +kernel
theorem dX11_weightOfSet_25 : decode cX11_weightOfSet 25 = .ok (.getfield 12, 3) := by decide +kernel
theorem dX11_weightOfSet_28 : decode cX11_weightOfSet 28 = .ok (.iload_n 3, 1) := by decide +kernel
theorem dX11_weightOfSet_29 : decode cX11_weightOfSet 29 = .ok (.invokevirtual 99, 3) := by decide +kernel
theorem dX11_weightOfSet_32 : decode cX11_weightOfSet 32 = .ok (.iadd, 1) := by decide +kernel
theorem dX11_weightOfSet_33 : decode cX11_weightOfSet 33 = .ok (.istore_n 2, 1) := by decide +kernel
theorem dX11_weightOfSet_34 : decode cX11_weightOfSet 34 = .ok (.iinc 3 1, 3) := by decide +kernel
theorem dX11_weightOfSet_37 : decode cX11_weightOfSet 37 = .ok (.goto (-33), 3) := by decide +kernel
theorem dX11_weightOfSet_40 : decode cX11_weightOfSet 40 = .ok (.iload_n 2, 1) := by decide +kernel
theorem dX11_weightOfSet_41 : decode cX11_weightOfSet 41 = .ok (.ireturn, 1) := by decide +kernel
def k_weightOfSet_34 (a1 : Int32) (a2 : Int32) (a3 : Int32) (m : M) : Option ((Int32 × Int32) ⊕ ((Int32))) :=
  lt (a3 + (1 : Int32)) (fun w1 : Int32 => some (.inl (a2, w1)))
set_option maxRecDepth 20000 in
theorem t_k_weightOfSet_34 {G : GG} {x : Cx} {K : ((Int32 × Int32) ⊕ ((Int32))) → Option (Option Value × M)} (E : En G x cX11_weightOfSet "WreckBoard" 5 (some .int)) (hn : xn x = 4) (a1 : Int32) (a2 : Int32) (a3 : Int32) (m : M) (hb : ∀ z : Int32 × Int32, Sm G x 4 [(0, .ref (G.2.1 0)), (1, .int a1), (2, .int z.1), (3, .int z.2)] [] m (some (.inl z)) K) (hx0 : ∀ z : Int32, Sm G x 40 [(2, .int z)] [] m (some (.inr z)) K) : Sm G x 34 [(0, .ref (G.2.1 0)), (1, .int a1), (2, .int a2), (3, .int a3)] [] m (k_weightOfSet_34 a1 a2 a3 m) K := by
  unfold k_weightOfSet_34
  refine s_iincL (v := (1 : Int32)) 3 [1, 2, 3, 0] (fun w1 => [(0, .ref (G.2.1 0)), (1, .int a1), (2, .int a2), (3, .int w1)]) E dX11_weightOfSet_34 rfl (by decide) (by rw [hn]; decide) (fun _ => rfl) (fun w1 => ?_)
  refine s_goto 4 E dX11_weightOfSet_37 (by decide) ?_
  exact hb (a2, w1)
def k_weightOfSet_4b (a1 : Int32) (a2 : Int32) (a3 : Int32) (m : M) : Option ((Int32 × Int32) ⊕ ((Int32))) :=
  (if (m 1 6) ≤ a3 then some (.inr a2) else Option.bind (k_isIn a1 a3 m) (fun v1 => (if v1 = 0 then k_weightOfSet_34 a1 a2 a3 m else Option.bind (b_weightOf a3 m) (fun v2 => lt (a2 + v2) (fun w3 : Int32 => k_weightOfSet_34 a1 w3 a3 m)))))
set_option maxRecDepth 20000 in
theorem t_k_weightOfSet_4b {G : GG} {x : Cx} {K : ((Int32 × Int32) ⊕ ((Int32))) → Option (Option Value × M)} (E : En G x cX11_weightOfSet "WreckBoard" 5 (some .int)) (hn : xn x = 4) (a1 : Int32) (a2 : Int32) (a3 : Int32) (m : M) (hb : ∀ z : Int32 × Int32, Sm G x 4 [(0, .ref (G.2.1 0)), (1, .int a1), (2, .int z.1), (3, .int z.2)] [] m (some (.inl z)) K) (hx0 : ∀ z : Int32, Sm G x 40 [(2, .int z)] [] m (some (.inr z)) K) : Sm G x 4 [(0, .ref (G.2.1 0)), (1, .int a1), (2, .int a2), (3, .int a3)] [] m (k_weightOfSet_4b a1 a2 a3 m) K := by
  unfold k_weightOfSet_4b
  refine s_iload_n 3 E dX11_weightOfSet_4 rfl rfl ?_
  refine s_aload_n 0 E dX11_weightOfSet_5 rfl rfl ?_
  refine s_getr (k := 0) (T := TX11) 0 E rfl rfl rfl inX11 (by decide) W360 dX11_weightOfSet_6 ?_
  refine s_geti (k := 6) (T := TX0) 1 E rfl rfl rfl inX0 (by decide) W237 dX11_weightOfSet_9 ?_
  refine s_icmp_ge 40 E dX11_weightOfSet_12 (by decide) ?_ ?_
  · refine s_sub (lv' := [(2, .int a2)]) [2] rfl ?_
    exact hx0 a2
  · refine s_iload_n 1 E dX11_weightOfSet_15 rfl rfl ?_
    refine s_iload_n 3 E dX11_weightOfSet_16 rfl rfl ?_
    refine s_bd (fun v1 hz => ?_)
    refine s_cS (rest := []) E (C_k_isIn (xl x) G a1 a3 m hz) mdX11_isIn W520 W425 W91 W426 rfl rfl (Nat.le_of_ble_eq_true rfl) ⟨by decide, by decide⟩ dX11_weightOfSet_17 ?_
    refine s_if_eq 34 E dX11_weightOfSet_20 (by decide) ?_ ?_
    · exact t_k_weightOfSet_34 E hn a1 a2 a3 m hb hx0
    · refine s_iload_n 2 E dX11_weightOfSet_23 rfl rfl ?_
      refine s_aload_n 0 E dX11_weightOfSet_24 rfl rfl ?_
      refine s_getr (k := 0) (T := TX11) 0 E rfl rfl rfl inX11 (by decide) W360 dX11_weightOfSet_25 ?_
      refine s_iload_n 3 E dX11_weightOfSet_28 rfl rfl ?_
      refine s_bd (fun v2 hz => ?_)
      refine s_cV (rest := [.int a2]) E (C_b_weightOf (xl x) G a3 m hz) mdX0_weightOf W464 W465 W466 W92 W467 rfl rfl rfl rfl (Nat.le_of_ble_eq_true rfl) ⟨by decide, by decide⟩ dX11_weightOfSet_29 ?_
      refine s_iadd E dX11_weightOfSet_32 ?_
      refine s_lt (fun w3 => [(0, .ref (G.2.1 0)), (1, .int a1), (2, .int a2), (3, .int a3)]) (fun w3 => [.int w3]) rfl rfl (fun w3 => ?_)
      refine s_istore_n (lv' := [(0, .ref (G.2.1 0)), (1, .int a1), (2, .int w3), (3, .int a3)]) [1, 2, 0, 3] E dX11_weightOfSet_33 rfl (by rw [hn]; decide) rfl ?_
      exact t_k_weightOfSet_34 E hn a1 w3 a3 m hb hx0
def k_weightOfSet_4 (a1 : Int32) (a2 : Int32) (a3 : Int32) (m : M) : Option (Int32) :=
  Option.bind (iter (fun z => k_weightOfSet_4b a1 z.1 z.2 m) FU (a2, a3)) (fun r => some r)
set_option maxRecDepth 20000 in
theorem t_k_weightOfSet_4 {G : GG} {x : Cx} (E : En G x cX11_weightOfSet "WreckBoard" 5 (some .int)) (hn : xn x = 4) (a1 : Int32) (a2 : Int32) (a3 : Int32) (m : M) : Sm G x 4 [(0, .ref (G.2.1 0)), (1, .int a1), (2, .int a2), (3, .int a3)] [] m (k_weightOfSet_4 a1 a2 a3 m) (KRi m) := by
  unfold k_weightOfSet_4
  refine s_loop (fun z => [(0, .ref (G.2.1 0)), (1, .int a1), (2, .int z.1), (3, .int z.2)]) (fun z => m) (fun K2 hb2 hr2 z => ?_) FU (a2, a3)
  refine t_k_weightOfSet_4b (K := K2) E hn a1 z.1 z.2 m hb2 (fun r => s_out (hr2 r) ?_)
  · refine s_iload_n 0 E dX11_weightOfSet_40 rfl rfl ?_
    exact s_iret E rfl dX11_weightOfSet_41
def k_weightOfSet (a1 : Int32) (m : M) : Option (Int32) :=
  k_weightOfSet_4 a1 (0 : Int32) (0 : Int32) m
set_option maxRecDepth 20000 in
theorem t_k_weightOfSet {G : GG} {x : Cx} (E : En G x cX11_weightOfSet "WreckBoard" 5 (some .int)) (hn : xn x = 4) (a1 : Int32) (m : M) : Sm G x 0 [(0, .ref (G.2.1 0)), (1, .int a1)] [] m (k_weightOfSet a1 m) (KRi m) := by
  unfold k_weightOfSet
  refine s_iconst (v := (0 : Int32)) E dX11_weightOfSet_0 (by decide) ?_
  refine s_istore_n (lv' := [(0, .ref (G.2.1 0)), (1, .int a1), (2, .int (0 : Int32))]) [1, 2, 0] E dX11_weightOfSet_1 rfl (by rw [hn]; decide) rfl ?_
  refine s_iconst (v := (0 : Int32)) E dX11_weightOfSet_2 (by decide) ?_
  refine s_istore_n (lv' := [(0, .ref (G.2.1 0)), (1, .int a1), (2, .int (0 : Int32)), (3, .int (0 : Int32))]) [1, 2, 3, 0] E dX11_weightOfSet_3 rfl (by rw [hn]; decide) rfl ?_
  exact t_k_weightOfSet_4 E hn a1 (0 : Int32) (0 : Int32) m
set_option maxRecDepth 20000 in
theorem C_k_weightOfSet (l : Launch) (G : GG) (a1 : Int32) (m : M) {z : Int32} (hz : k_weightOfSet a1 m = some z) : Ct l G yX11_weightOfSet cX11_weightOfSet 4 (some .int) 5 [.ref (G.2.1 0), .int a1] m (some (.int z)) m :=
  ct_of (K := (KRi m)) (by decide) (Nat.le_of_ble_eq_true rfl) (congrArg (fun q => Option.bind q _) hz) (fun x hl hn E => (t_k_weightOfSet E hn a1 m))
theorem mdX11_weightOfSet : mdq yX11_weightOfSet 1 := ⟨by decide, by decide, by decide +kernel⟩
theorem dJ6_bitCount_0f7a4_0 : decode cJ6_bitCount_0f7a4 0 = .ok (.iload_n 0, 1) := by decide +kernel
theorem dJ6_bitCount_0f7a4_1 : decode cJ6_bitCount_0f7a4 1 = .ok (.iload_n 0, 1) := by decide +kernel
theorem dJ6_bitCount_0f7a4_2 : decode cJ6_bitCount_0f7a4 2 = .ok (.iconst 1, 1) := by decide +kernel
theorem dJ6_bitCount_0f7a4_3 : decode cJ6_bitCount_0f7a4 3 = .ok (.iushr, 1) := by decide +kernel
theorem dJ6_bitCount_0f7a4_4 : decode cJ6_bitCount_0f7a4 4 = .ok (.ldc_w 265, 3) := by decide +kernel
theorem dJ6_bitCount_0f7a4_7 : decode cJ6_bitCount_0f7a4 7 = .ok (.iand, 1) := by decide +kernel
theorem dJ6_bitCount_0f7a4_8 : decode cJ6_bitCount_0f7a4 8 = .ok (.isub, 1) := by decide +kernel
theorem dJ6_bitCount_0f7a4_9 : decode cJ6_bitCount_0f7a4 9 = .ok (.istore_n 0, 1) := by decide +kernel
theorem dJ6_bitCount_0f7a4_10 : decode cJ6_bitCount_0f7a4 10 = .ok (.iload_n 0, 1) := by decide +kernel
theorem dJ6_bitCount_0f7a4_11 : decode cJ6_bitCount_0f7a4 11 = .ok (.ldc_w 266, 3) := by decide +kernel
theorem dJ6_bitCount_0f7a4_14 : decode cJ6_bitCount_0f7a4 14 = .ok (.iand, 1) := by decide +kernel
theorem dJ6_bitCount_0f7a4_15 : decode cJ6_bitCount_0f7a4 15 = .ok (.iload_n 0, 1) := by decide +kernel
theorem dJ6_bitCount_0f7a4_16 : decode cJ6_bitCount_0f7a4 16 = .ok (.iconst 2, 1) := by decide +kernel
theorem dJ6_bitCount_0f7a4_17 : decode cJ6_bitCount_0f7a4 17 = .ok (.iushr, 1) := by decide +kernel
theorem dJ6_bitCount_0f7a4_18 : decode cJ6_bitCount_0f7a4 18 = .ok (.ldc_w 266, 3) := by decide +kernel
theorem dJ6_bitCount_0f7a4_21 : decode cJ6_bitCount_0f7a4 21 = .ok (.iand, 1) := by decide +kernel
theorem dJ6_bitCount_0f7a4_22 : decode cJ6_bitCount_0f7a4 22 = .ok (.iadd, 1) := by decide +kernel
theorem dJ6_bitCount_0f7a4_23 : decode cJ6_bitCount_0f7a4 23 = .ok (.istore_n 0, 1) := by decide +kernel
theorem dJ6_bitCount_0f7a4_24 : decode cJ6_bitCount_0f7a4 24 = .ok (.iload_n 0, 1) := by decide +kernel
theorem dJ6_bitCount_0f7a4_25 : decode cJ6_bitCount_0f7a4 25 = .ok (.iload_n 0, 1) := by decide +kernel
theorem dJ6_bitCount_0f7a4_26 : decode cJ6_bitCount_0f7a4 26 = .ok (.iconst 4, 1) := by decide +kernel
theorem dJ6_bitCount_0f7a4_27 : decode cJ6_bitCount_0f7a4 27 = .ok (.iushr, 1) := by decide +kernel
theorem dJ6_bitCount_0f7a4_28 : decode cJ6_bitCount_0f7a4 28 = .ok (.iadd, 1) := by decide +kernel
theorem dJ6_bitCount_0f7a4_29 : decode cJ6_bitCount_0f7a4 29 = .ok (.ldc_w 267, 3) := by decide +kernel
theorem dJ6_bitCount_0f7a4_32 : decode cJ6_bitCount_0f7a4 32 = .ok (.iand, 1) := by decide +kernel
theorem dJ6_bitCount_0f7a4_33 : decode cJ6_bitCount_0f7a4 33 = .ok (.istore_n 0, 1) := by decide +kernel
theorem dJ6_bitCount_0f7a4_34 : decode cJ6_bitCount_0f7a4 34 = .ok (.iload_n 0, 1) := by decide +kernel
theorem dJ6_bitCount_0f7a4_35 : decode cJ6_bitCount_0f7a4 35 = .ok (.iload_n 0, 1) := by decide +kernel
theorem dJ6_bitCount_0f7a4_36 : decode cJ6_bitCount_0f7a4 36 = .ok (.bipush 8, 2) := by decide +kernel
theorem dJ6_bitCount_0f7a4_38 : decode cJ6_bitCount_0f7a4 38 = .ok (.iushr, 1) := by decide +kernel
theorem dJ6_bitCount_0f7a4_39 : decode cJ6_bitCount_0f7a4 39 = .ok (.iadd, 1) := by decide +kernel
theorem dJ6_bitCount_0f7a4_40 : decode cJ6_bitCount_0f7a4 40 = .ok (.istore_n 0, 1) := by decide +kernel
theorem dJ6_bitCount_0f7a4_41 : decode cJ6_bitCount_0f7a4 41 = .ok (.iload_n 0, 1) := by decide +kernel
theorem dJ6_bitCount_0f7a4_42 : decode cJ6_bitCount_0f7a4 42 = .ok (.iload_n 0, 1) := by decide +kernel
theorem dJ6_bitCount_0f7a4_43 : decode cJ6_bitCount_0f7a4 43 = .ok (.bipush 16, 2) := by decide +kernel
theorem dJ6_bitCount_0f7a4_45 : decode cJ6_bitCount_0f7a4 45 = .ok (.iushr, 1) := by decide +kernel
theorem dJ6_bitCount_0f7a4_46 : decode cJ6_bitCount_0f7a4 46 = .ok (.iadd, 1) := by decide +kernel
theorem dJ6_bitCount_0f7a4_47 : decode cJ6_bitCount_0f7a4 47 = .ok (.istore_n 0, 1) := by decide +kernel
theorem dJ6_bitCount_0f7a4_48 : decode cJ6_bitCount_0f7a4 48 = .ok (.iload_n 0, 1) := by decide +kernel
theorem dJ6_bitCount_0f7a4_49 : decode cJ6_bitCount_0f7a4 49 = .ok (.bipush 63, 2) := by decide +kernel
theorem dJ6_bitCount_0f7a4_51 : decode cJ6_bitCount_0f7a4 51 = .ok (.iand, 1) := by decide +kernel
theorem dJ6_bitCount_0f7a4_52 : decode cJ6_bitCount_0f7a4 52 = .ok (.ireturn, 1) := by decide +kernel
def i_bitCount (a0 : Int32) (m : M) : Option (Int32) :=
  lt (a0 - (((Int32.toUInt32 a0 >>> (Int32.toUInt32 (1 : Int32) &&& Int32.toUInt32 31)).toInt32) &&& (1431655765 : Int32))) (fun w1 : Int32 => lt ((w1 &&& (858993459 : Int32)) + (((Int32.toUInt32 w1 >>> (Int32.toUInt32 (2 : Int32) &&& Int32.toUInt32 31)).toInt32) &&& (858993459 : Int32))) (fun w2 : Int32 => lt ((w2 + ((Int32.toUInt32 w2 >>> (Int32.toUInt32 (4 : Int32) &&& Int32.toUInt32 31)).toInt32)) &&& (252645135 : Int32)) (fun w3 : Int32 => lt (w3 + ((Int32.toUInt32 w3 >>> (Int32.toUInt32 (8 : Int32) &&& Int32.toUInt32 31)).toInt32)) (fun w4 : Int32 => lt (w4 + ((Int32.toUInt32 w4 >>> (Int32.toUInt32 (16 : Int32) &&& Int32.toUInt32 31)).toInt32)) (fun w5 : Int32 => some (w5 &&& (63 : Int32)))))))
set_option maxRecDepth 20000 in
theorem t_i_bitCount {G : GG} {x : Cx} (E : En G x cJ6_bitCount_0f7a4 "java/lang/Integer" 1 (some .int)) (hn : xn x = 1) (a0 : Int32) (m : M) : Sm G x 0 [(0, .int a0)] [] m (i_bitCount a0 m) (KRi m) := by
  unfold i_bitCount
  refine s_iload_n 0 E dJ6_bitCount_0f7a4_0 rfl rfl ?_
  refine s_iload_n 0 E dJ6_bitCount_0f7a4_1 rfl rfl ?_
  refine s_iconst (v := (1 : Int32)) E dJ6_bitCount_0f7a4_2 (by decide) ?_
  refine s_iushr E dJ6_bitCount_0f7a4_3 ?_
  refine s_ldcw (v := (1431655765 : Int32)) E dJ6_bitCount_0f7a4_4 W894 ?_
  refine s_iand E dJ6_bitCount_0f7a4_7 ?_
  refine s_isub E dJ6_bitCount_0f7a4_8 ?_
  refine s_lt (fun w1 => [(0, .int a0)]) (fun w1 => [.int w1]) rfl rfl (fun w1 => ?_)
  refine s_istore_n (lv' := [(0, .int w1)]) [0] E dJ6_bitCount_0f7a4_9 rfl (by rw [hn]; decide) rfl ?_
  refine s_iload_n 0 E dJ6_bitCount_0f7a4_10 rfl rfl ?_
  refine s_ldcw (v := (858993459 : Int32)) E dJ6_bitCount_0f7a4_11 W895 ?_
  refine s_iand E dJ6_bitCount_0f7a4_14 ?_
  refine s_iload_n 0 E dJ6_bitCount_0f7a4_15 rfl rfl ?_
  refine s_iconst (v := (2 : Int32)) E dJ6_bitCount_0f7a4_16 (by decide) ?_
  refine s_iushr E dJ6_bitCount_0f7a4_17 ?_
  refine s_ldcw (v := (858993459 : Int32)) E dJ6_bitCount_0f7a4_18 W895 ?_
  refine s_iand E dJ6_bitCount_0f7a4_21 ?_
  refine s_iadd E dJ6_bitCount_0f7a4_22 ?_
  refine s_lt (fun w2 => [(0, .int w1)]) (fun w2 => [.int w2]) rfl rfl (fun w2 => ?_)
  refine s_istore_n (lv' := [(0, .int w2)]) [0] E dJ6_bitCount_0f7a4_23 rfl (by rw [hn]; decide) rfl ?_
  refine s_iload_n 0 E dJ6_bitCount_0f7a4_24 rfl rfl ?_
  refine s_iload_n 0 E dJ6_bitCount_0f7a4_25 rfl rfl ?_
  refine s_iconst (v := (4 : Int32)) E dJ6_bitCount_0f7a4_26 (by decide) ?_
  refine s_iushr E dJ6_bitCount_0f7a4_27 ?_
  refine s_iadd E dJ6_bitCount_0f7a4_28 ?_
  refine s_ldcw (v := (252645135 : Int32)) E dJ6_bitCount_0f7a4_29 W896 ?_
  refine s_iand E dJ6_bitCount_0f7a4_32 ?_
  refine s_lt (fun w3 => [(0, .int w2)]) (fun w3 => [.int w3]) rfl rfl (fun w3 => ?_)
  refine s_istore_n (lv' := [(0, .int w3)]) [0] E dJ6_bitCount_0f7a4_33 rfl (by rw [hn]; decide) rfl ?_
  refine s_iload_n 0 E dJ6_bitCount_0f7a4_34 rfl rfl ?_
  refine s_iload_n 0 E dJ6_bitCount_0f7a4_35 rfl rfl ?_
  refine s_bipush (v := (8 : Int32)) E dJ6_bitCount_0f7a4_36 (by decide) ?_
  refine s_iushr E dJ6_bitCount_0f7a4_38 ?_
  refine s_iadd E dJ6_bitCount_0f7a4_39 ?_
  refine s_lt (fun w4 => [(0, .int w3)]) (fun w4 => [.int w4]) rfl rfl (fun w4 => ?_)
  refine s_istore_n (lv' := [(0, .int w4)]) [0] E dJ6_bitCount_0f7a4_40 rfl (by rw [hn]; decide) rfl ?_
  refine s_iload_n 0 E dJ6_bitCount_0f7a4_41 rfl rfl ?_
  refine s_iload_n 0 E dJ6_bitCount_0f7a4_42 rfl rfl ?_
  refine s_bipush (v := (16 : Int32)) E dJ6_bitCount_0f7a4_43 (by decide) ?_
  refine s_iushr E dJ6_bitCount_0f7a4_45 ?_
  refine s_iadd E dJ6_bitCount_0f7a4_46 ?_
  refine s_lt (fun w5 => [(0, .int w4)]) (fun w5 => [.int w5]) rfl rfl (fun w5 => ?_)
  refine s_istore_n (lv' := [(0, .int w5)]) [0] E dJ6_bitCount_0f7a4_47 rfl (by rw [hn]; decide) rfl ?_
  refine s_iload_n 0 E dJ6_bitCount_0f7a4_48 rfl rfl ?_
  refine s_bipush (v := (63 : Int32)) E dJ6_bitCount_0f7a4_49 (by decide) ?_
  refine s_iand E dJ6_bitCount_0f7a4_51 ?_
  exact s_iret E rfl dJ6_bitCount_0f7a4_52
set_option maxRecDepth 20000 in
theorem C_i_bitCount (l : Launch) (G : GG) (a0 : Int32) (m : M) {z : Int32} (hz : i_bitCount a0 m = some z) : Ct l G yJ6_bitCount_0f7a4 cJ6_bitCount_0f7a4 1 (some .int) 1 [.int a0] m (some (.int z)) m :=
  ct_of (K := (KRi m)) (by decide) (Nat.le_of_ble_eq_true rfl) (congrArg (fun q => Option.bind q _) hz) (fun x hl hn E => (t_i_bitCount E hn a0 m))
theorem mdJ6_bitCount_0f7a4 : mdq yJ6_bitCount_0f7a4 1 := ⟨by decide, by decide, by decide +kernel⟩
theorem dX11_ordersOf_0 : decode cX11_ordersOf 0 = .ok (.iload_n 0, 1) := by decide +kernel
theorem dX11_ordersOf_1 : decode cX11_ordersOf 1 = .ok (.invokestatic 217, 3) := by decide +kernel
theorem dX11_ordersOf_4 : decode cX11_ordersOf 4 = .ok (.istore_n 1, 1) := by decide +kernel
theorem dX11_ordersOf_5 : decode cX11_ordersOf 5 = .ok (.iload_n 1, 1) := by decide +kernel
theorem dX11_ordersOf_6 : decode cX11_ordersOf 6 = .ok (.getstatic 222, 3) := by decide +kernel
theorem dX11_ordersOf_9 : decode cX11_ordersOf 9 = .ok (.arraylength, 1) := by decide +kernel
theorem dX11_ordersOf_10 : decode cX11_ordersOf 10 = .ok (.if_icmp .ge 11, 3) := by decide +kernel
theorem dX11_ordersOf_13 : decode cX11_ordersOf 13 = .ok (.getstatic 222, 3) := by decide +kernel
theorem dX11_ordersOf_16 : decode cX11_ordersOf 16 = .ok (.iload_n 1, 1) := by decide +kernel
theorem dX11_ordersOf_17 : decode cX11_ordersOf 17 = .ok (.iaload, 1) := by decide +kernel
theorem dX11_ordersOf_18 : decode cX11_ordersOf 18 = .ok (.goto 4, 3) := by decide +kernel
theorem dX11_ordersOf_21 : decode cX11_ordersOf 21 = .ok (.iconst 0, 1) := by decide +kernel
theorem dX11_ordersOf_22 : decode cX11_ordersOf 22 = .ok (.ireturn, 1) := by decide +kernel
def k_ordersOf (a0 : Int32) (m : M) : Option (Int32) :=
  Option.bind (i_bitCount a0 m) (fun v1 => (if (6 : Int32) ≤ v1 then some (0 : Int32) else Option.bind (rdK tabOrders v1) (fun v2 => some v2)))
set_option maxRecDepth 20000 in
theorem t_k_ordersOf {G : GG} {x : Cx} (E : En G x cX11_ordersOf "WreckBoard" 2 (some .int)) (hn : xn x = 2) (a0 : Int32) (m : M) : Sm G x 0 [(0, .int a0)] [] m (k_ordersOf a0 m) (KRi m) := by
  unfold k_ordersOf
  refine s_iload_n 0 E dX11_ordersOf_0 rfl rfl ?_
  refine s_bd (fun v1 hz => ?_)
  refine s_cS (rest := []) E (C_i_bitCount (xl x) G a0 m hz) mdJ6_bitCount_0f7a4 W891 W892 W111 W893 rfl rfl (Nat.le_of_ble_eq_true rfl) ⟨by decide, by decide⟩ dX11_ordersOf_1 ?_
  refine s_istore_n (lv' := [(1, .int v1)]) [0] E dX11_ordersOf_4 rfl (by rw [hn]; decide) rfl ?_
  refine s_iload_n 0 E dX11_ordersOf_5 rfl rfl ?_
  refine s_getsO E W897 dX11_ordersOf_6 ?_
  refine s_lenO (v := (6 : Int32)) E (by decide) dX11_ordersOf_9 ?_
  refine s_icmp_ge 21 E dX11_ordersOf_10 (by decide) ?_ ?_
  · refine s_iconst (v := (0 : Int32)) E dX11_ordersOf_21 (by decide) ?_
    exact s_iret E rfl dX11_ordersOf_22
  · refine s_getsO E W897 dX11_ordersOf_13 ?_
    refine s_iload_n 0 E dX11_ordersOf_16 rfl rfl ?_
    refine s_staO E dX11_ordersOf_17 (fun v2 => ?_)
    refine s_goto 22 E dX11_ordersOf_18 (by decide) ?_
    exact s_iret E rfl dX11_ordersOf_22
set_option maxRecDepth 20000 in
theorem C_k_ordersOf (l : Launch) (G : GG) (a0 : Int32) (m : M) {z : Int32} (hz : k_ordersOf a0 m = some z) : Ct l G yX11_ordersOf cX11_ordersOf 2 (some .int) 2 [.int a0] m (some (.int z)) m :=
  ct_of (K := (KRi m)) (by decide) (Nat.le_of_ble_eq_true rfl) (congrArg (fun q => Option.bind q _) hz) (fun x hl hn E => (t_k_ordersOf E hn a0 m))
theorem mdX11_ordersOf : mdq yX11_ordersOf 1 := ⟨by decide, by decide, by decide +kernel⟩
theorem dX11_power_0 : decode cX11_power 0 = .ok (.aload_n 0, 1) := by decide +kernel
theorem dX11_power_1 : decode cX11_power 1 = .ok (.getfield 12, 3) := by decide +kernel
theorem dX11_power_4 : decode cX11_power 4 = .ok (.iload_n 1, 1) := by decide +kernel
theorem dX11_power_5 : decode cX11_power 5 = .ok (.invokevirtual 73, 3) := by decide +kernel
theorem dX11_power_8 : decode cX11_power 8 = .ok (.ifCond .ne 5, 3) := by decide +kernel
theorem dX11_power_11 : decode cX11_power 11 = .ok (.iconst (-1), 1) := by decide +kernel
theorem dX11_power_12 : decode cX11_power 12 = .ok (.ireturn, 1) := by decide +kernel
theorem dX11_power_13 : decode cX11_power 13 = .ok (.iconst 1, 1) := by decide +kernel
theorem dX11_power_14 : decode cX11_power 14 = .ok (.aload_n 0, 1) := by decide +kernel
theorem dX11_power_15 : decode cX11_power 15 = .ok (.getfield 12, 3) := by decide +kernel
theorem dX11_power_18 : decode cX11_power 18 = .ok (.getfield 65, 3) := by decide +kernel
theorem dX11_power_21 : decode cX11_power 21 = .ok (.ishl, 1) := by decide +kernel
theorem dX11_power_22 : decode cX11_power 22 = .ok (.istore_n 2, 1) := by decide +kernel
theorem dX11_power_23 : decode cX11_power 23 = .ok (.aload_n 0, 1) := by decide +kernel
theorem dX11_power_24 : decode cX11_power 24 = .ok (.iload_n 2, 1) := by decide +kernel
theorem dX11_power_25 : decode cX11_power 25 = .ok (.iconst 1, 1) := by decide +kernel
theorem dX11_power_26 : decode cX11_power 26 = .ok (.isub, 1) := by decide +kernel
theorem dX11_power_27 : decode cX11_power 27 = .ok (.invokevirtual 211, 3) := by decide +kernel
theorem dX11_power_30 : decode cX11_power 30 = .ok (.istore_n 3, 1) := by decide +kernel
theorem dX11_power_31 : decode cX11_power 31 = .ok (.aload_n 0, 1) := by decide +kernel
theorem dX11_power_32 : decode cX11_power 32 = .ok (.getfield 12, 3) := by decide +kernel
theorem dX11_power_35 : decode cX11_power 35 = .ok (.iload_n 1, 1) := by decide +kernel
theorem dX11_power_36 : decode cX11_power 36 = .ok (.invokevirtual 99, 3) := by decide +kernel
theorem dX11_power_39 : decode cX11_power 39 = .ok (.istore 4, 2) := by decide +kernel
theorem dX11_power_41 : decode cX11_power 41 = .ok (.iconst 0, 1) := by decide +kernel
theorem dX11_power_42 : decode cX11_power 42 = .ok (.istore 5, 2) := by decide +kernel
theorem dX11_power_44 : decode cX11_power 44 = .ok (.iconst 0, 1) := by decide +kernel
theorem dX11_power_45 : decode cX11_power 45 = .ok (.istore 6, 2) := by decide +kernel
theorem dX11_power_47 : decode cX11_power 47 = .ok (.iload 6, 2) := by decide +kernel
theorem dX11_power_49 : decode cX11_power 49 = .ok (.iload_n 2, 1) := by decide +kernel
theorem dX11_power_50 : decode cX11_power 50 = .ok (.if_icmp .ge 73, 3) := by decide +kernel
theorem dX11_power_53 : decode cX11_power 53 = .ok (.iload 6, 2) := by decide +kernel
theorem dX11_power_55 : decode cX11_power 55 = .ok (.iload_n 1, 1) := by decide +kernel
theorem dX11_power_56 : decode cX11_power 56 = .ok (.invokestatic 208, 3) := by decide +kernel
theorem dX11_power_59 : decode cX11_power 59 = .ok (.ifCond .ne 58, 3) := by decide +kernel
theorem dX11_power_62 : decode cX11_power 62 = .ok (.aload_n 0, 1) := by decide +kernel
theorem dX11_power_63 : decode cX11_power 63 = .ok (.iload 6, 2) := by decide +kernel
theorem dX11_power_65 : decode cX11_power 65 = .ok (.invokevirtual 211, 3) := by decide +kernel
theorem dX11_power_68 : decode cX11_power 68 = .ok (.istore 7, 2) := by decide +kernel
theorem dX11_power_70 : decode cX11_power 70 = .ok (.iconst 2, 1) := by decide +kernel
theorem dX11_power_71 : decode cX11_power 71 = .ok (.iload 7, 2) := by decide +kernel
theorem dX11_power_73 : decode cX11_power 73 = .ok (.imul, 1) := by decide +kernel
theorem dX11_power_74 : decode cX11_power 74 = .ok (.iload_n 3, 1) := by decide +kernel
theorem dX11_power_75 : decode cX11_power 75 = .ok (.if_icmp .gt 42, 3) := by decide +kernel
theorem dX11_power_78 : decode cX11_power 78 = .ok (.iconst 2, 1) := by decide +kernel
theorem dX11_power_79 : decode cX11_power 79 = .ok (.iload 7, 2) := by decide +kernel
theorem dX11_power_81 : decode cX11_power 81 = .ok (.iload 4, 2) := by decide +kernel
theorem dX11_power_83 : decode cX11_power 83 = .ok (.iadd, 1) := by decide +kernel
theorem dX11_power_84 : decode cX11_power 84 = .ok (.imul, 1) := by decide +kernel
theorem dX11_power_85 : decode cX11_power 85 = .ok (.iload_n 3, 1) := by decide +kernel
theorem dX11_power_86 : decode cX11_power 86 = .ok (.if_icmp .le 31, 3) := by decide +kernel
theorem dX11_power_89 : decode cX11_power 89 = .ok (.iload_n 2, 1) := by decide +kernel
theorem dX11_power_90 : decode cX11_power 90 = .ok (.iconst 1, 1) := by decide +kernel
theorem dX11_power_91 : decode cX11_power 91 = .ok (.isub, 1) := by decide +kernel
theorem dX11_power_92 : decode cX11_power 92 = .ok (.iload 6, 2) := by decide +kernel
theorem dX11_power_94 : decode cX11_power 94 = .ok (.ixor, 1) := by decide +kernel
theorem dX11_power_95 : decode cX11_power 95 = .ok (.iconst 1, 1) := by decide +kernel
theorem dX11_power_96 : decode cX11_power 96 = .ok (.iload_n 1, 1) := by decide +kernel
theorem dX11_power_97 : decode cX11_power 97 = .ok (.ishl, 1) := by decide +kernel
theorem dX11_power_98 : decode cX11_power 98 = .ok (.ixor, 1) := by decide +kernel
theorem dX11_power_99 : decode cX11_power 99 = .ok (.istore 8, 2) := by decide +kernel
theorem dX11_power_101 : decode cX11_power 101 = .ok (.iload 5, 2) := by decide +kernel
theorem dX11_power_103 : decode cX11_power 103 = .ok (.iload 6, 2) := by decide +kernel
theorem dX11_power_105 : decode cX11_power 105 = .ok (.invokestatic 214, 3) := by decide +kernel
theorem dX11_power_108 : decode cX11_power 108 = .ok (.iload 8, 2) := by decide +kernel
theorem dX11_power_110 : decode cX11_power 110 = .ok (.invokestatic 214, 3) := by decide +kernel
theorem dX11_power_113 : decode cX11_power 113 = .ok (.imul, 1) := by decide +kernel
theorem dX11_power_114 : decode cX11_power 114 = .ok (.iadd, 1) := by decide +kernel
theorem dX11_power_115 : decode cX11_power 115 = .ok (.istore 5, 2) := by decide +kernel
theorem dX11_power_117 : decode cX11_power 117 = .ok (.iinc 6 1, 3) := by decide +kernel
theorem dX11_power_120 : decode cX11_power 120 = .ok (.goto (-73), 3) := by decide +kernel
theorem dX11_power_123 : decode cX11_power 123 = .ok (.iload 5, 2) := by decide +kernel
theorem dX11_power_125 : decode cX11_power 125 = .ok (.ireturn, 1) := by decide +kernel
def k_power_117 (a1 : Int32) (a2 : Int32) (a3 : Int32) (a4 : Int32) (a5 : Int32) (a6 : Int32) (m : M) : Option ((Int32 × Int32) ⊕ ((Int32))) :=
  lt (a6 + (1 : Int32)) (fun w1 : Int32 => some (.inl (a5, w1)))
set_option maxRecDepth 20000 in
theorem t_k_power_117 {G : GG} {x : Cx} {K : ((Int32 × Int32) ⊕ ((Int32))) → Option (Option Value × M)} (E : En G x cX11_power "WreckBoard" 6 (some .int)) (hn : xn x = 9) (a1 : Int32) (a2 : Int32) (a3 : Int32) (a4 : Int32) (a5 : Int32) (a6 : Int32) (m : M) (hb : ∀ z : Int32 × Int32, Sm G x 47 [(0, .ref (G.2.1 0)), (1, .int a1), (2, .int a2), (3, .int a3), (4, .int a4), (5, .int z.1), (6, .int z.2)] [] m (some (.inl z)) K) (hx0 : ∀ z : Int32, Sm G x 123 [(5, .int z)] [] m (some (.inr z)) K) : Sm G x 117 [(0, .ref (G.2.1 0)), (1, .int a1), (2, .int a2), (3, .int a3), (4, .int a4), (5, .int a5), (6, .int a6)] [] m (k_power_117 a1 a2 a3 a4 a5 a6 m) K := by
  unfold k_power_117
  refine s_iincL (v := (1 : Int32)) 6 [1, 2, 3, 4, 5, 6, 0] (fun w1 => [(0, .ref (G.2.1 0)), (1, .int a1), (2, .int a2), (3, .int a3), (4, .int a4), (5, .int a5), (6, .int w1)]) E dX11_power_117 rfl (by decide) (by rw [hn]; decide) (fun _ => rfl) (fun w1 => ?_)
  refine s_goto 47 E dX11_power_120 (by decide) ?_
  exact hb (a5, w1)
def k_power_47b (a1 : Int32) (a2 : Int32) (a3 : Int32) (a4 : Int32) (a5 : Int32) (a6 : Int32) (m : M) : Option ((Int32 × Int32) ⊕ ((Int32))) :=
  (if a2 ≤ a6 then some (.inr a5) else Option.bind (k_isIn a6 a1 m) (fun v1 => (if v1 = 0 then Option.bind (k_weightOfSet a6 m) (fun v2 => (if a3 < ((2 : Int32) * v2) then k_power_117 a1 a2 a3 a4 a5 a6 m else (if ((2 : Int32) * (v2 + a4)) ≤ a3 then k_power_117 a1 a2 a3 a4 a5 a6 m else lt (((a2 - (1 : Int32)) ^^^ a6) ^^^ ((1 : Int32) <<< (a1 &&& 31))) (fun w3 : Int32 => Option.bind (k_ordersOf a6 m) (fun v4 => Option.bind (k_ordersOf w3 m) (fun v5 => lt (a5 + (v4 * v5)) (fun w6 : Int32 => k_power_117 a1 a2 a3 a4 w6 a6 m))))))) else k_power_117 a1 a2 a3 a4 a5 a6 m)))
set_option maxRecDepth 20000 in
theorem t_k_power_47b {G : GG} {x : Cx} {K : ((Int32 × Int32) ⊕ ((Int32))) → Option (Option Value × M)} (E : En G x cX11_power "WreckBoard" 6 (some .int)) (hn : xn x = 9) (a1 : Int32) (a2 : Int32) (a3 : Int32) (a4 : Int32) (a5 : Int32) (a6 : Int32) (m : M) (hb : ∀ z : Int32 × Int32, Sm G x 47 [(0, .ref (G.2.1 0)), (1, .int a1), (2, .int a2), (3, .int a3), (4, .int a4), (5, .int z.1), (6, .int z.2)] [] m (some (.inl z)) K) (hx0 : ∀ z : Int32, Sm G x 123 [(5, .int z)] [] m (some (.inr z)) K) : Sm G x 47 [(0, .ref (G.2.1 0)), (1, .int a1), (2, .int a2), (3, .int a3), (4, .int a4), (5, .int a5), (6, .int a6)] [] m (k_power_47b a1 a2 a3 a4 a5 a6 m) K := by
  unfold k_power_47b
  refine s_iload 6 E dX11_power_47 rfl ?_
  refine s_iload_n 2 E dX11_power_49 rfl rfl ?_
  refine s_icmp_ge 123 E dX11_power_50 (by decide) ?_ ?_
  · refine s_sub (lv' := [(5, .int a5)]) [5] rfl ?_
    exact hx0 a5
  · refine s_iload 6 E dX11_power_53 rfl ?_
    refine s_iload_n 1 E dX11_power_55 rfl rfl ?_
    refine s_bd (fun v1 hz => ?_)
    refine s_cS (rest := []) E (C_k_isIn (xl x) G a6 a1 m hz) mdX11_isIn W520 W425 W91 W426 rfl rfl (Nat.le_of_ble_eq_true rfl) ⟨by decide, by decide⟩ dX11_power_56 ?_
    refine s_if_ne 117 E dX11_power_59 (by decide) ?_ ?_
    · exact t_k_power_117 E hn a1 a2 a3 a4 a5 a6 m hb hx0
    · refine s_aload_n 0 E dX11_power_62 rfl rfl ?_
      refine s_iload 6 E dX11_power_63 rfl ?_
      refine s_bd (fun v2 hz => ?_)
      refine s_cV (rest := []) E (C_k_weightOfSet (xl x) G a6 m hz) mdX11_weightOfSet W884 W886 W18 W91 W887 rfl rfl rfl rfl (Nat.le_of_ble_eq_true rfl) ⟨by decide, by decide⟩ dX11_power_65 ?_
      refine s_istore (lv' := [(0, .ref (G.2.1 0)), (1, .int a1), (2, .int a2), (3, .int a3), (4, .int a4), (5, .int a5), (6, .int a6), (7, .int v2)]) [1, 2, 3, 4, 5, 6, 7, 0] E dX11_power_68 (by rw [hn]; decide) rfl ?_
      refine s_iconst (v := (2 : Int32)) E dX11_power_70 (by decide) ?_
      refine s_iload 7 E dX11_power_71 rfl ?_
      refine s_imul E dX11_power_73 ?_
      refine s_iload_n 3 E dX11_power_74 rfl rfl ?_
      refine s_icmp_gt 117 E dX11_power_75 (by decide) ?_ ?_
      · refine s_sub (lv' := [(0, .ref (G.2.1 0)), (1, .int a1), (2, .int a2), (3, .int a3), (4, .int a4), (5, .int a5), (6, .int a6)]) [0, 1, 2, 3, 4, 5, 6] rfl ?_
        exact t_k_power_117 E hn a1 a2 a3 a4 a5 a6 m hb hx0
      · refine s_iconst (v := (2 : Int32)) E dX11_power_78 (by decide) ?_
        refine s_iload 7 E dX11_power_79 rfl ?_
        refine s_iload 4 E dX11_power_81 rfl ?_
        refine s_iadd E dX11_power_83 ?_
        refine s_imul E dX11_power_84 ?_
        refine s_iload_n 3 E dX11_power_85 rfl rfl ?_
        refine s_icmp_le 117 E dX11_power_86 (by decide) ?_ ?_
        · refine s_sub (lv' := [(0, .ref (G.2.1 0)), (1, .int a1), (2, .int a2), (3, .int a3), (4, .int a4), (5, .int a5), (6, .int a6)]) [0, 1, 2, 3, 4, 5, 6] rfl ?_
          exact t_k_power_117 E hn a1 a2 a3 a4 a5 a6 m hb hx0
        · refine s_iload_n 2 E dX11_power_89 rfl rfl ?_
          refine s_iconst (v := (1 : Int32)) E dX11_power_90 (by decide) ?_
          refine s_isub E dX11_power_91 ?_
          refine s_iload 6 E dX11_power_92 rfl ?_
          refine s_ixor E dX11_power_94 ?_
          refine s_iconst (v := (1 : Int32)) E dX11_power_95 (by decide) ?_
          refine s_iload_n 1 E dX11_power_96 rfl rfl ?_
          refine s_ishl E dX11_power_97 ?_
          refine s_ixor E dX11_power_98 ?_
          refine s_lt (fun w3 => [(0, .ref (G.2.1 0)), (1, .int a1), (2, .int a2), (3, .int a3), (4, .int a4), (5, .int a5), (6, .int a6), (7, .int v2)]) (fun w3 => [.int w3]) rfl rfl (fun w3 => ?_)
          refine s_istore (lv' := [(0, .ref (G.2.1 0)), (1, .int a1), (2, .int a2), (3, .int a3), (4, .int a4), (5, .int a5), (6, .int a6), (8, .int w3)]) [1, 2, 3, 4, 5, 6, 7, 0] E dX11_power_99 (by rw [hn]; decide) rfl ?_
          refine s_iload 5 E dX11_power_101 rfl ?_
          refine s_iload 6 E dX11_power_103 rfl ?_
          refine s_bd (fun v4 hz => ?_)
          refine s_cS (rest := [.int a5]) E (C_k_ordersOf (xl x) G a6 m hz) mdX11_ordersOf W888 W889 W91 W890 rfl rfl (Nat.le_of_ble_eq_true rfl) ⟨by decide, by decide⟩ dX11_power_105 ?_
          refine s_iload 7 E dX11_power_108 rfl ?_
          refine s_bd (fun v5 hz => ?_)
          refine s_cS (rest := [.int v4, .int a5]) E (C_k_ordersOf (xl x) G w3 m hz) mdX11_ordersOf W888 W889 W91 W890 rfl rfl (Nat.le_of_ble_eq_true rfl) ⟨by decide, by decide⟩ dX11_power_110 ?_
          refine s_imul E dX11_power_113 ?_
          refine s_iadd E dX11_power_114 ?_
          refine s_lt (fun w6 => [(0, .ref (G.2.1 0)), (1, .int a1), (2, .int a2), (3, .int a3), (4, .int a4), (5, .int a5), (6, .int a6), (8, .int w3)]) (fun w6 => [.int w6]) rfl rfl (fun w6 => ?_)
          refine s_istore (lv' := [(0, .ref (G.2.1 0)), (1, .int a1), (2, .int a2), (3, .int a3), (4, .int a4), (5, .int w6), (6, .int a6)]) [1, 2, 3, 4, 5, 0, 6] E dX11_power_115 (by rw [hn]; decide) rfl ?_
          exact t_k_power_117 E hn a1 a2 a3 a4 w6 a6 m hb hx0
def k_power_47 (a1 : Int32) (a2 : Int32) (a3 : Int32) (a4 : Int32) (a5 : Int32) (a6 : Int32) (m : M) : Option (Int32) :=
  Option.bind (iter (fun z => k_power_47b a1 a2 a3 a4 z.1 z.2 m) FU (a5, a6)) (fun r => some r)
set_option maxRecDepth 20000 in
theorem t_k_power_47 {G : GG} {x : Cx} (E : En G x cX11_power "WreckBoard" 6 (some .int)) (hn : xn x = 9) (a1 : Int32) (a2 : Int32) (a3 : Int32) (a4 : Int32) (a5 : Int32) (a6 : Int32) (m : M) : Sm G x 47 [(0, .ref (G.2.1 0)), (1, .int a1), (2, .int a2), (3, .int a3), (4, .int a4), (5, .int a5), (6, .int a6)] [] m (k_power_47 a1 a2 a3 a4 a5 a6 m) (KRi m) := by
  unfold k_power_47
  refine s_loop (fun z => [(0, .ref (G.2.1 0)), (1, .int a1), (2, .int a2), (3, .int a3), (4, .int a4), (5, .int z.1), (6, .int z.2)]) (fun z => m) (fun K2 hb2 hr2 z => ?_) FU (a5, a6)
  refine t_k_power_47b (K := K2) E hn a1 a2 a3 a4 z.1 z.2 m hb2 (fun r => s_out (hr2 r) ?_)
  · refine s_iload 0 E dX11_power_123 rfl ?_
    exact s_iret E rfl dX11_power_125
def k_power (a1 : Int32) (m : M) : Option (Int32) :=
  Option.bind (b_isMember a1 m) (fun v1 => (if v1 = 0 then some (-1 : Int32) else lt ((1 : Int32) <<< ((m 1 6) &&& 31)) (fun w2 : Int32 => Option.bind (k_weightOfSet (w2 - (1 : Int32)) m) (fun v3 => Option.bind (b_weightOf a1 m) (fun v4 => k_power_47 a1 w2 v3 v4 (0 : Int32) (0 : Int32) m)))))
set_option maxRecDepth 20000 in
theorem t_k_power {G : GG} {x : Cx} (E : En G x cX11_power "WreckBoard" 6 (some .int)) (hn : xn x = 9) (a1 : Int32) (m : M) : Sm G x 0 [(0, .ref (G.2.1 0)), (1, .int a1)] [] m (k_power a1 m) (KRi m) := by
  unfold k_power
  refine s_aload_n 0 E dX11_power_0 rfl rfl ?_
  refine s_getr (k := 0) (T := TX11) 0 E rfl rfl rfl inX11 (by decide) W360 dX11_power_1 ?_
  refine s_iload_n 1 E dX11_power_4 rfl rfl ?_
  refine s_bd (fun v1 hz => ?_)
  refine s_cV (rest := []) E (C_b_isMember (xl x) G a1 m hz) mdX0_isMember W415 W416 W417 W92 W418 rfl rfl rfl rfl (Nat.le_of_ble_eq_true rfl) ⟨by decide, by decide⟩ dX11_power_5 ?_
  refine s_if_ne 13 E dX11_power_8 (by decide) ?_ ?_
  · refine s_iconst (v := (1 : Int32)) E dX11_power_13 (by decide) ?_
    refine s_aload_n 0 E dX11_power_14 rfl rfl ?_
    refine s_getr (k := 0) (T := TX11) 0 E rfl rfl rfl inX11 (by decide) W360 dX11_power_15 ?_
    refine s_geti (k := 6) (T := TX0) 1 E rfl rfl rfl inX0 (by decide) W237 dX11_power_18 ?_
    refine s_ishl E dX11_power_21 ?_
    refine s_lt (fun w2 => [(0, .ref (G.2.1 0)), (1, .int a1)]) (fun w2 => [.int w2]) rfl rfl (fun w2 => ?_)
    refine s_istore_n (lv' := [(0, .ref (G.2.1 0)), (1, .int a1), (2, .int w2)]) [1, 2, 0] E dX11_power_22 rfl (by rw [hn]; decide) rfl ?_
    refine s_aload_n 0 E dX11_power_23 rfl rfl ?_
    refine s_iload_n 2 E dX11_power_24 rfl rfl ?_
    refine s_iconst (v := (1 : Int32)) E dX11_power_25 (by decide) ?_
    refine s_isub E dX11_power_26 ?_
    refine s_bd (fun v3 hz => ?_)
    refine s_cV (rest := []) E (C_k_weightOfSet (xl x) G (w2 - (1 : Int32)) m hz) mdX11_weightOfSet W884 W886 W18 W91 W887 rfl rfl rfl rfl (Nat.le_of_ble_eq_true rfl) ⟨by decide, by decide⟩ dX11_power_27 ?_
    refine s_istore_n (lv' := [(0, .ref (G.2.1 0)), (1, .int a1), (2, .int w2), (3, .int v3)]) [1, 2, 3, 0] E dX11_power_30 rfl (by rw [hn]; decide) rfl ?_
    refine s_aload_n 0 E dX11_power_31 rfl rfl ?_
    refine s_getr (k := 0) (T := TX11) 0 E rfl rfl rfl inX11 (by decide) W360 dX11_power_32 ?_
    refine s_iload_n 1 E dX11_power_35 rfl rfl ?_
    refine s_bd (fun v4 hz => ?_)
    refine s_cV (rest := []) E (C_b_weightOf (xl x) G a1 m hz) mdX0_weightOf W464 W465 W466 W92 W467 rfl rfl rfl rfl (Nat.le_of_ble_eq_true rfl) ⟨by decide, by decide⟩ dX11_power_36 ?_
    refine s_istore (lv' := [(0, .ref (G.2.1 0)), (1, .int a1), (2, .int w2), (3, .int v3), (4, .int v4)]) [1, 2, 3, 4, 0] E dX11_power_39 (by rw [hn]; decide) rfl ?_
    refine s_iconst (v := (0 : Int32)) E dX11_power_41 (by decide) ?_
    refine s_istore (lv' := [(0, .ref (G.2.1 0)), (1, .int a1), (2, .int w2), (3, .int v3), (4, .int v4), (5, .int (0 : Int32))]) [1, 2, 3, 4, 5, 0] E dX11_power_42 (by rw [hn]; decide) rfl ?_
    refine s_iconst (v := (0 : Int32)) E dX11_power_44 (by decide) ?_
    refine s_istore (lv' := [(0, .ref (G.2.1 0)), (1, .int a1), (2, .int w2), (3, .int v3), (4, .int v4), (5, .int (0 : Int32)), (6, .int (0 : Int32))]) [1, 2, 3, 4, 5, 6, 0] E dX11_power_45 (by rw [hn]; decide) rfl ?_
    exact t_k_power_47 E hn a1 w2 v3 v4 (0 : Int32) (0 : Int32) m
  · refine s_iconst (v := (-1 : Int32)) E dX11_power_11 (by decide) ?_
    exact s_iret E rfl dX11_power_12
