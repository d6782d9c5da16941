def t_tokenAt_46b (a1 : Int32) (a2 : Int32) (a3 : Int32) (m : M) : Option ((Int32) ⊕ ((Int32))) :=
  (if (m 7 0) ≤ a3 then some (.inr a3) else Option.bind (rdI m 46 a3) (fun v1 => Option.bind (t_sortOf v1 m) (fun v2 => (if v2 = a2 then lt (a3 + (1 : Int32)) (fun w3 : Int32 => some (.inl w3)) else some (.inr a3)))))
set_option maxRecDepth 20000 in
theorem t_t_tokenAt_46b {G : GG} {x : Cx} {K : ((Int32) ⊕ ((Int32))) → Option (Option Value × M)} (E : En G x cX9_tokenAt "WreckBoard$Tape" 7 (some .int)) (hn : xn x = 4) (a1 : Int32) (a2 : Int32) (a3 : Int32) (m : M) (hb : ∀ z : Int32, Sm G x 46 [(0, .ref (G.2.1 7)), (1, .int a1), (2, .int a2), (3, .int z)] [] m (some (.inl z)) K) (hx0 : ∀ z : Int32, Sm G x 73 [(0, .ref (G.2.1 7)), (1, .int a1), (2, .int a2), (3, .int z)] [] m (some (.inr z)) K) : Sm G x 46 [(0, .ref (G.2.1 7)), (1, .int a1), (2, .int a2), (3, .int a3)] [] m (t_tokenAt_46b a1 a2 a3 m) K := by
  unfold t_tokenAt_46b
  refine s_iload_n 3 E dX9_tokenAt_46 rfl rfl ?_
  refine s_aload_n 0 E dX9_tokenAt_47 rfl rfl ?_
  refine s_geti (k := 0) (T := TX9) 7 E rfl rfl rfl inX9 (by decide) W309 dX9_tokenAt_48 ?_
  refine s_icmp_ge 73 E dX9_tokenAt_51 (by decide) ?_ ?_
  · exact hx0 a3
  · refine s_aload_n 0 E dX9_tokenAt_54 rfl rfl ?_
    refine s_getr (k := 1) (T := TX9) 7 E rfl rfl rfl inX9 (by decide) W311 dX9_tokenAt_55 ?_
    refine s_iload_n 3 E dX9_tokenAt_58 rfl rfl ?_
    refine s_iald E dX9_tokenAt_59 (fun v1 => ?_)
    refine s_bd (fun v2 hz => ?_)
    refine s_cS (rest := []) E (C_t_sortOf (xl x) G v1 m hz) mdX9_sortOf W611 W612 W101 W613 rfl rfl (Nat.le_of_ble_eq_true rfl) ⟨by decide, by decide⟩ dX9_tokenAt_60 ?_
    refine s_iload_n 2 E dX9_tokenAt_63 rfl rfl ?_
    refine s_icmp_ne 73 E dX9_tokenAt_64 (by decide) ?_ ?_
    · exact hx0 a3
    · refine s_iincL (v := (1 : Int32)) 3 [1, 2, 3, 0] (fun w3 => [(0, .ref (G.2.1 7)), (1, .int a1), (2, .int a2), (3, .int w3)]) E dX9_tokenAt_67 rfl (by decide) (by rw [hn]; decide) (fun _ => rfl) (fun w3 => ?_)
      refine s_goto 46 E dX9_tokenAt_70 (by decide) ?_
      exact hb w3
def t_tokenAt_73 (a1 : Int32) (a2 : Int32) (a3 : Int32) (m : M) : Option (Int32) :=
  (if a2 = (2 : Int32) then Option.bind (t_numberToken a1 a3 m) (fun v2 => some v2) else Option.bind (t_nameToken a1 a3 m) (fun v1 => some v1))
set_option maxRecDepth 20000 in
theorem t_t_tokenAt_73 {G : GG} {x : Cx} (E : En G x cX9_tokenAt "WreckBoard$Tape" 7 (some .int)) (hn : xn x = 4) (a1 : Int32) (a2 : Int32) (a3 : Int32) (m : M) : Sm G x 73 [(0, .ref (G.2.1 7)), (1, .int a1), (2, .int a2), (3, .int a3)] [] m (t_tokenAt_73 a1 a2 a3 m) (KRi m) := by
  unfold t_tokenAt_73
  refine s_iload_n 2 E dX9_tokenAt_73 rfl rfl ?_
  refine s_iconst (v := (2 : Int32)) E dX9_tokenAt_74 (by decide) ?_
  refine s_icmp_ne 87 E dX9_tokenAt_75 (by decide) ?_ ?_
  · refine s_aload_n 0 E dX9_tokenAt_87 rfl rfl ?_
    refine s_iload_n 1 E dX9_tokenAt_88 rfl rfl ?_
    refine s_iload_n 3 E dX9_tokenAt_89 rfl rfl ?_
    refine s_bd (fun v1 hz => ?_)
    refine s_cV (rest := []) E (C_t_nameToken (xl x) G a1 a3 m hz) mdX9_nameToken W706 W708 W4 W101 W709 rfl rfl rfl rfl (Nat.le_of_ble_eq_true rfl) ⟨by decide, by decide⟩ dX9_tokenAt_90 ?_
    exact s_iret E rfl dX9_tokenAt_93
  · refine s_aload_n 0 E dX9_tokenAt_78 rfl rfl ?_
    refine s_iload_n 1 E dX9_tokenAt_79 rfl rfl ?_
    refine s_iload_n 3 E dX9_tokenAt_80 rfl rfl ?_
    refine s_bd (fun v2 hz => ?_)
    refine s_cV (rest := []) E (C_t_numberToken (xl x) G a1 a3 m hz) mdX9_numberToken W702 W704 W3 W101 W705 rfl rfl rfl rfl (Nat.le_of_ble_eq_true rfl) ⟨by decide, by decide⟩ dX9_tokenAt_81 ?_
    refine s_goto 93 E dX9_tokenAt_84 (by decide) ?_
    exact s_iret E rfl dX9_tokenAt_93
def t_tokenAt_46 (a1 : Int32) (a2 : Int32) (a3 : Int32) (m : M) : Option (Int32) :=
  Option.bind (iter (fun z => t_tokenAt_46b a1 a2 z m) FU a3) (fun r => t_tokenAt_73 a1 a2 r m)
set_option maxRecDepth 20000 in
theorem t_t_tokenAt_46 {G : GG} {x : Cx} (E : En G x cX9_tokenAt "WreckBoard$Tape" 7 (some .int)) (hn : xn x = 4) (a1 : Int32) (a2 : Int32) (a3 : Int32) (m : M) : Sm G x 46 [(0, .ref (G.2.1 7)), (1, .int a1), (2, .int a2), (3, .int a3)] [] m (t_tokenAt_46 a1 a2 a3 m) (KRi m) := by
  unfold t_tokenAt_46
  refine s_loop (fun z => [(0, .ref (G.2.1 7)), (1, .int a1), (2, .int a2), (3, .int z)]) (fun z => m) (fun K2 hb2 hr2 z => ?_) FU a3
  refine t_t_tokenAt_46b (K := K2) E hn a1 a2 z m hb2 (fun r => s_out (hr2 r) ?_)
  · exact t_t_tokenAt_73 E hn a1 a2 r m
def t_tokenAt (a1 : Int32) (m : M) : Option (Int32) :=
  Option.bind (rdI m 46 a1) (fun v1 => Option.bind (t_sortOf v1 m) (fun v2 => (if v2 = (3 : Int32) then Option.bind (rdI m 46 a1) (fun v4 => Option.bind (s_indexOf (UInt32.toInt32 (Int32.toUInt32 v4 % 65536)) m) (fun v5 => (if 0 ≤ v5 then some ((10018 : Int32) + v5) else some (-1 : Int32)))) else lt (a1 + (1 : Int32)) (fun w3 : Int32 => t_tokenAt_46 a1 v2 w3 m))))
set_option maxRecDepth 20000 in
theorem t_t_tokenAt {G : GG} {x : Cx} (E : En G x cX9_tokenAt "WreckBoard$Tape" 7 (some .int)) (hn : xn x = 4) (a1 : Int32) (m : M) : Sm G x 0 [(0, .ref (G.2.1 7)), (1, .int a1)] [] m (t_tokenAt a1 m) (KRi m) := by
  unfold t_tokenAt
  refine s_aload_n 0 E dX9_tokenAt_0 rfl rfl ?_
  refine s_getr (k := 1) (T := TX9) 7 E rfl rfl rfl inX9 (by decide) W311 dX9_tokenAt_1 ?_
  refine s_iload_n 1 E dX9_tokenAt_4 rfl rfl ?_
  refine s_iald E dX9_tokenAt_5 (fun v1 => ?_)
  refine s_bd (fun v2 hz => ?_)
  refine s_cS (rest := []) E (C_t_sortOf (xl x) G v1 m hz) mdX9_sortOf W611 W612 W101 W613 rfl rfl (Nat.le_of_ble_eq_true rfl) ⟨by decide, by decide⟩ dX9_tokenAt_6 ?_
  refine s_istore_n (lv' := [(0, .ref (G.2.1 7)), (1, .int a1), (2, .int v2)]) [1, 2, 0] E dX9_tokenAt_9 rfl (by rw [hn]; decide) rfl ?_
  refine s_iload_n 2 E dX9_tokenAt_10 rfl rfl ?_
  refine s_iconst (v := (3 : Int32)) E dX9_tokenAt_11 (by decide) ?_
  refine s_icmp_ne 42 E dX9_tokenAt_12 (by decide) ?_ ?_
  · refine s_iload_n 1 E dX9_tokenAt_42 rfl rfl ?_
    refine s_iconst (v := (1 : Int32)) E dX9_tokenAt_43 (by decide) ?_
    refine s_iadd E dX9_tokenAt_44 ?_
    refine s_lt (fun w3 => [(0, .ref (G.2.1 7)), (1, .int a1), (2, .int v2)]) (fun w3 => [.int w3]) rfl rfl (fun w3 => ?_)
    refine s_istore_n (lv' := [(0, .ref (G.2.1 7)), (1, .int a1), (2, .int v2), (3, .int w3)]) [1, 2, 3, 0] E dX9_tokenAt_45 rfl (by rw [hn]; decide) rfl ?_
    exact t_t_tokenAt_46 E hn a1 v2 w3 m
  · refine s_ldcG E dX9_tokenAt_15 ?_
    refine s_aload_n 0 E dX9_tokenAt_17 rfl rfl ?_
    refine s_getr (k := 1) (T := TX9) 7 E rfl rfl rfl inX9 (by decide) W311 dX9_tokenAt_18 ?_
    refine s_iload_n 1 E dX9_tokenAt_21 rfl rfl ?_
    refine s_iald E dX9_tokenAt_22 (fun v4 => ?_)
    refine s_i2c E dX9_tokenAt_23 ?_
    refine s_bd (fun v5 hz => ?_)
    refine s_cT (rest := []) 1 (by decide) E (C_s_indexOf (xl x) G (UInt32.toInt32 (Int32.toUInt32 v4 % 65536)) m hz) mdJ0_indexOf_0f7a4 W620 W621 W622 W105 W623 rfl rfl (Nat.le_of_ble_eq_true rfl) ⟨by decide, by decide⟩ dX9_tokenAt_24 ?_
    refine s_istore_n (lv' := [(3, .int v5)]) [0] E dX9_tokenAt_27 rfl (by rw [hn]; decide) rfl ?_
    refine s_iload_n 0 E dX9_tokenAt_28 rfl rfl ?_
    refine s_if_ge 36 E dX9_tokenAt_29 (by decide) ?_ ?_
    · refine s_sipush (v := (10018 : Int32)) E dX9_tokenAt_36 (by decide) ?_
      refine s_iload_n 0 E dX9_tokenAt_39 rfl rfl ?_
      refine s_iadd E dX9_tokenAt_40 ?_
      exact s_iret E rfl dX9_tokenAt_41
    · refine s_iconst (v := (-1 : Int32)) E dX9_tokenAt_32 (by decide) ?_
      refine s_goto 41 E dX9_tokenAt_33 (by decide) ?_
      exact s_iret E rfl dX9_tokenAt_41
set_option maxRecDepth 20000 in
theorem C_t_tokenAt (l : Launch) (G : GG) (a1 : Int32) (m : M) {z : Int32} (hz : t_tokenAt a1 m = some z) : Ct l G yX9_tokenAt cX9_tokenAt 4 (some .int) 7 [.ref (G.2.1 7), .int a1] m (some (.int z)) m :=
  ct_of (K := (KRi m)) (by decide) (Nat.le_of_ble_eq_true rfl) (congrArg (fun q => Option.bind q _) hz) (fun x hl hn E => (t_t_tokenAt E hn a1 m))
theorem mdX9_tokenAt : mdq yX9_tokenAt 1 := ⟨by decide, by decide, by decide +kernel⟩
theorem dX9_split_0 : decode cX9_split 0 = .ok (.iconst 0, 1) := by decide +kernel
theorem dX9_split_1 : decode cX9_split 1 = .ok (.istore_n 1, 1) := by decide +kernel
theorem dX9_split_2 : decode cX9_split 2 = .ok (.iconst 0, 1) := by decide +kernel
theorem dX9_split_3 : decode cX9_split 3 = .ok (.istore_n 2, 1) := by decide +kernel
theorem dX9_split_4 : decode cX9_split 4 = .ok (.iload_n 2, 1) := by decide +kernel
theorem dX9_split_5 : decode cX9_split 5 = .ok (.aload_n 0, 1) := by decide +kernel
theorem dX9_split_6 : decode cX9_split 6 = .ok (.getfield 21, 3) := by decide +kernel
theorem dX9_split_9 : decode cX9_split 9 = .ok (.if_icmp .ge 38, 3) := by decide +kernel
theorem dX9_split_12 : decode cX9_split 12 = .ok (.aload_n 0, 1) := by decide +kernel
theorem dX9_split_13 : decode cX9_split 13 = .ok (.iload_n 2, 1) := by decide +kernel
theorem dX9_split_14 : decode cX9_split 14 = .ok (.invokevirtual 40, 3) := by decide +kernel
theorem dX9_split_17 : decode cX9_split 17 = .ok (.ifCond .eq 24, 3) := by decide +kernel
theorem dX9_split_20 : decode cX9_split 20 = .ok (.aload_n 0, 1) := by decide +kernel
theorem dX9_split_21 : decode cX9_split 21 = .ok (.getfield 15, 3) := by decide +kernel
theorem dX9_split_24 : decode cX9_split 24 = .ok (.iload_n 1, 1) := by decide +kernel
theorem dX9_split_25 : decode cX9_split 25 = .ok (.aload_n 0, 1) := by decide +kernel
theorem dX9_split_26 : decode cX9_split 26 = .ok (.iload_n 2, 1) := by decide +kernel
theorem dX9_split_27 : decode cX9_split 27 = .ok (.invokevirtual 44, 3) := by decide +kernel
theorem dX9_split_30 : decode cX9_split 30 = .ok (.iastore, 1) := by decide +kernel
theorem dX9_split_31 : decode cX9_split 31 = .ok (.aload_n 0, 1) := by decide +kernel
theorem dX9_split_32 : decode cX9_split 32 = .ok (.getfield 18, 3) := by decide +kernel
theorem dX9_split_35 : decode cX9_split 35 = .ok (.iload_n 1, 1) := by decide +kernel
theorem dX9_split_36 : decode cX9_split 36 = .ok (.iload_n 2, 1) := by decide +kernel
theorem dX9_split_37 : decode cX9_split 37 = .ok (.iastore, 1) := by decide +kernel
theorem dX9_split_38 : decode cX9_split 38 = .ok (.iinc 1 1, 3) := by decide +kernel
theorem dX9_split_41 : decode cX9_split 41 = .ok (.iinc 2 1, 3) := by decide +kernel
theorem dX9_split_44 : decode cX9_split 44 = .ok (.goto (-40), 3) := by decide +kernel
theorem dX9_split_47 : decode cX9_split 47 = .ok (.aload_n 0, 1) := by decide +kernel
theorem dX9_split_48 : decode cX9_split 48 = .ok (.getfield 15, 3) := by decide +kernel
theorem dX9_split_51 : decode cX9_split 51 = .ok (.iload_n 1, 1) := by decide +kernel
theorem dX9_split_52 : decode cX9_split 52 = .ok (.bipush (-2), 2) := by decide +kernel
theorem dX9_split_54 : decode cX9_split 54 = .ok (.iastore, 1) := by decide +kernel
theorem dX9_split_55 : decode cX9_split 55 = .ok (.aload_n 0, 1) := by decide +kernel
theorem dX9_split_56 : decode cX9_split 56 = .ok (.getfield 18, 3) := by decide +kernel
theorem dX9_split_59 : decode cX9_split 59 = .ok (.iload_n 1, 1) := by decide +kernel
theorem dX9_split_60 : decode cX9_split 60 = .ok (.aload_n 0, 1) := by decide +kernel
theorem dX9_split_61 : decode cX9_split 61 = .ok (.getfield 21, 3) := by decide +kernel
theorem dX9_split_64 : decode cX9_split 64 = .ok (.iastore, 1) := by decide +kernel
theorem dX9_split_65 : decode cX9_split 65 = .ok (.return_, 1) := by decide +kernel
def t_split_41 (a1 : Int32) (a2 : Int32) (m : M) : Option ((Int32 × Int32 × M) ⊕ ((Int32 × M))) :=
  lt (a2 + (1 : Int32)) (fun w1 : Int32 => some (.inl (a1, w1, m)))
set_option maxRecDepth 20000 in
theorem t_t_split_41 {G : GG} {x : Cx} {K : ((Int32 × Int32 × M) ⊕ ((Int32 × M))) → Option (Option Value × M)} (E : En G x cX9_split "WreckBoard$Tape" 8 none) (hn : xn x = 3) (a1 : Int32) (a2 : Int32) (m : M) (hb : ∀ z : Int32 × Int32 × M, Sm G x 4 [(0, .ref (G.2.1 7)), (1, .int z.1), (2, .int z.2.1)] [] z.2.2 (some (.inl z)) K) (hx0 : ∀ z : Int32 × M, Sm G x 47 [(0, .ref (G.2.1 7)), (1, .int z.1)] [] z.2 (some (.inr z)) K) : Sm G x 41 [(0, .ref (G.2.1 7)), (1, .int a1), (2, .int a2)] [] m (t_split_41 a1 a2 m) K := by
  unfold t_split_41
  refine s_iincL (v := (1 : Int32)) 2 [1, 2, 0] (fun w1 => [(0, .ref (G.2.1 7)), (1, .int a1), (2, .int w1)]) E dX9_split_41 rfl (by decide) (by rw [hn]; decide) (fun _ => rfl) (fun w1 => ?_)
  refine s_goto 4 E dX9_split_44 (by decide) ?_
  exact hb (a1, w1, m)
def t_split_4b (a1 : Int32) (a2 : Int32) (m : M) : Option ((Int32 × Int32 × M) ⊕ ((Int32 × M))) :=
  (if (m 7 0) ≤ a2 then some (.inr (a1, m)) else Option.bind (t_beginsAt a2 m) (fun v1 => (if v1 = 0 then t_split_41 a1 a2 m else Option.bind (t_tokenAt a2 m) (fun v2 => Option.bind (wrI m 47 a1 v2) (fun m3 => Option.bind (wrI m3 48 a1 a2) (fun m4 => lt (a1 + (1 : Int32)) (fun w5 : Int32 => t_split_41 w5 a2 m4)))))))
set_option maxRecDepth 20000 in
theorem t_t_split_4b {G : GG} {x : Cx} {K : ((Int32 × Int32 × M) ⊕ ((Int32 × M))) → Option (Option Value × M)} (E : En G x cX9_split "WreckBoard$Tape" 8 none) (hn : xn x = 3) (a1 : Int32) (a2 : Int32) (m : M) (hb : ∀ z : Int32 × Int32 × M, Sm G x 4 [(0, .ref (G.2.1 7)), (1, .int z.1), (2, .int z.2.1)] [] z.2.2 (some (.inl z)) K) (hx0 : ∀ z : Int32 × M, Sm G x 47 [(0, .ref (G.2.1 7)), (1, .int z.1)] [] z.2 (some (.inr z)) K) : Sm G x 4 [(0, .ref (G.2.1 7)), (1, .int a1), (2, .int a2)] [] m (t_split_4b a1 a2 m) K := by
  unfold t_split_4b
  refine s_iload_n 2 E dX9_split_4 rfl rfl ?_
  refine s_aload_n 0 E dX9_split_5 rfl rfl ?_
  refine s_geti (k := 0) (T := TX9) 7 E rfl rfl rfl inX9 (by decide) W309 dX9_split_6 ?_
  refine s_icmp_ge 47 E dX9_split_9 (by decide) ?_ ?_
  · refine s_sub (lv' := [(0, .ref (G.2.1 7)), (1, .int a1)]) [0, 1] rfl ?_
    exact hx0 (a1, m)
  · refine s_aload_n 0 E dX9_split_12 rfl rfl ?_
    refine s_iload_n 2 E dX9_split_13 rfl rfl ?_
    refine s_bd (fun v1 hz => ?_)
    refine s_cV (rest := []) E (C_t_beginsAt (xl x) G a2 m hz) mdX9_beginsAt W607 W609 W1 W101 W610 rfl rfl rfl rfl (Nat.le_of_ble_eq_true rfl) ⟨by decide, by decide⟩ dX9_split_14 ?_
    refine s_if_eq 41 E dX9_split_17 (by decide) ?_ ?_
    · exact t_t_split_41 E hn a1 a2 m hb hx0
    · refine s_aload_n 0 E dX9_split_20 rfl rfl ?_
      refine s_getr (k := 2) (T := TX9) 7 E rfl rfl rfl inX9 (by decide) W312 dX9_split_21 ?_
      refine s_iload_n 1 E dX9_split_24 rfl rfl ?_
      refine s_aload_n 0 E dX9_split_25 rfl rfl ?_
      refine s_iload_n 2 E dX9_split_26 rfl rfl ?_
      refine s_bd (fun v2 hz => ?_)
      refine s_cV (rest := [.int a1, .ref (G.2.1 47)]) E (C_t_tokenAt (xl x) G a2 m hz) mdX9_tokenAt W615 W617 W2 W101 W618 rfl rfl rfl rfl (Nat.le_of_ble_eq_true rfl) ⟨by decide, by decide⟩ dX9_split_27 ?_
      refine s_iast E dX9_split_30 (fun m3 => ?_)
      refine s_aload_n 0 E dX9_split_31 rfl rfl ?_
      refine s_getr (k := 3) (T := TX9) 7 E rfl rfl rfl inX9 (by decide) W313 dX9_split_32 ?_
      refine s_iload_n 1 E dX9_split_35 rfl rfl ?_
      refine s_iload_n 2 E dX9_split_36 rfl rfl ?_
      refine s_iast E dX9_split_37 (fun m4 => ?_)
      refine s_iincL (v := (1 : Int32)) 1 [1, 0, 2] (fun w5 => [(0, .ref (G.2.1 7)), (1, .int w5), (2, .int a2)]) E dX9_split_38 rfl (by decide) (by rw [hn]; decide) (fun _ => rfl) (fun w5 => ?_)
      exact t_t_split_41 E hn w5 a2 m4 hb hx0
def t_split_4 (a1 : Int32) (a2 : Int32) (m : M) : Option (M) :=
  Option.bind (iter (fun z => t_split_4b z.1 z.2.1 z.2.2) FU (a1, a2, m)) (fun r => Option.bind (wrI r.2 47 r.1 (-2 : Int32)) (fun m6 => Option.bind (wrI m6 48 r.1 (m6 7 0)) (fun m7 => some m7)))
set_option maxRecDepth 20000 in
theorem t_t_split_4 {G : GG} {x : Cx} (E : En G x cX9_split "WreckBoard$Tape" 8 none) (hn : xn x = 3) (a1 : Int32) (a2 : Int32) (m : M) : Sm G x 4 [(0, .ref (G.2.1 7)), (1, .int a1), (2, .int a2)] [] m (t_split_4 a1 a2 m) KWv := by
  unfold t_split_4
  refine s_loop (fun z => [(0, .ref (G.2.1 7)), (1, .int z.1), (2, .int z.2.1)]) (fun z => z.2.2) (fun K2 hb2 hr2 z => ?_) FU (a1, a2, m)
  refine t_t_split_4b (K := K2) E hn z.1 z.2.1 z.2.2 hb2 (fun r => s_out (hr2 r) ?_)
  · refine s_aload_n 0 E dX9_split_47 rfl rfl ?_
    refine s_getr (k := 2) (T := TX9) 7 E rfl rfl rfl inX9 (by decide) W312 dX9_split_48 ?_
    refine s_iload_n 1 E dX9_split_51 rfl rfl ?_
    refine s_bipush (v := (-2 : Int32)) E dX9_split_52 (by decide) ?_
    refine s_iast E dX9_split_54 (fun m6 => ?_)
    refine s_aload_n 0 E dX9_split_55 rfl rfl ?_
    refine s_getr (k := 3) (T := TX9) 7 E rfl rfl rfl inX9 (by decide) W313 dX9_split_56 ?_
    refine s_iload_n 1 E dX9_split_59 rfl rfl ?_
    refine s_aload_n 0 E dX9_split_60 rfl rfl ?_
    refine s_geti (k := 0) (T := TX9) 7 E rfl rfl rfl inX9 (by decide) W309 dX9_split_61 ?_
    refine s_iast E dX9_split_64 (fun m7 => ?_)
    exact s_vret E rfl dX9_split_65
def t_split  (m : M) : Option (M) :=
  t_split_4 (0 : Int32) (0 : Int32) m
set_option maxRecDepth 20000 in
theorem t_t_split {G : GG} {x : Cx} (E : En G x cX9_split "WreckBoard$Tape" 8 none) (hn : xn x = 3)  (m : M) : Sm G x 0 [(0, .ref (G.2.1 7))] [] m (t_split m) KWv := by
  unfold t_split
  refine s_iconst (v := (0 : Int32)) E dX9_split_0 (by decide) ?_
  refine s_istore_n (lv' := [(0, .ref (G.2.1 7)), (1, .int (0 : Int32))]) [1, 0] E dX9_split_1 rfl (by rw [hn]; decide) rfl ?_
  refine s_iconst (v := (0 : Int32)) E dX9_split_2 (by decide) ?_
  refine s_istore_n (lv' := [(0, .ref (G.2.1 7)), (1, .int (0 : Int32)), (2, .int (0 : Int32))]) [1, 2, 0] E dX9_split_3 rfl (by rw [hn]; decide) rfl ?_
  exact t_t_split_4 E hn (0 : Int32) (0 : Int32) m
set_option maxRecDepth 20000 in
theorem C_t_split (l : Launch) (G : GG)  (m : M) {z : M} (hz : t_split m = some z) : Ct l G yX9_split cX9_split 3 none 8 [.ref (G.2.1 7)] m none z :=
  ct_of (K := KWv) (by decide) (Nat.le_of_ble_eq_true rfl) (congrArg (fun q => Option.bind q _) hz) (fun x hl hn E => (t_t_split E hn  m))
theorem mdX9_split : mdq yX9_split 0 := ⟨by decide, by decide, by decide +kernel⟩
theorem dX7_clear_0 : decode cX7_clear 0 = .ok (.aload_n 0, 1) := by decide +kernel
theorem dX7_clear_1 : decode cX7_clear 1 = .ok (.iconst 0, 1) := by decide +kernel
theorem dX7_clear_2 : decode cX7_clear 2 = .ok (.putfield 26, 3) := by decide +kernel
theorem dX7_clear_5 : decode cX7_clear 5 = .ok (.aload_n 0, 1) := by decide +kernel
theorem dX7_clear_6 : decode cX7_clear 6 = .ok (.iconst 0, 1) := by decide +kernel
theorem dX7_clear_7 : decode cX7_clear 7 = .ok (.putfield 30, 3) := by decide +kernel
theorem dX7_clear_10 : decode cX7_clear 10 = .ok (.return_, 1) := by decide +kernel
def u_clear  (m : M) : Option (M) :=
  lt (wrF m 8 0 (0 : Int32)) (fun m1 => lt (wrF m1 8 5 (0 : Int32)) (fun m2 => some m2))
set_option maxRecDepth 20000 in
theorem t_u_clear {G : GG} {x : Cx} (E : En G x cX7_clear "WreckBoard$Rules" 1 none) (hn : xn x = 1)  (m : M) : Sm G x 0 [(0, .ref (G.2.1 8))] [] m (u_clear m) KWv := by
  unfold u_clear
  refine s_aload_n 0 E dX7_clear_0 rfl rfl ?_
  refine s_iconst (v := (0 : Int32)) E dX7_clear_1 (by decide) ?_
  refine s_put (k := 0) (T := TX7) (ty := .int) 8 E rfl rfl rfl inX7 tyX7 tyX7_ok nmX7 (by decide) W132 rfl (by decide +kernel) rfl rfl dX7_clear_2 ?_
  refine s_ltm rfl (fun m1 => ?_)
  refine s_aload_n 0 E dX7_clear_5 rfl rfl ?_
  refine s_iconst (v := (0 : Int32)) E dX7_clear_6 (by decide) ?_
  refine s_put (k := 5) (T := TX7) (ty := .int) 8 E rfl rfl rfl inX7 tyX7 tyX7_ok nmX7 (by decide) W141 rfl (by decide +kernel) rfl rfl dX7_clear_7 ?_
  refine s_ltm rfl (fun m2 => ?_)
  exact s_vret E rfl dX7_clear_10
set_option maxRecDepth 20000 in
theorem C_u_clear (l : Launch) (G : GG)  (m : M) {z : M} (hz : u_clear m = some z) : Ct l G yX7_clear cX7_clear 1 none 1 [.ref (G.2.1 8)] m none z :=
  ct_of (K := KWv) (by decide) (Nat.le_of_ble_eq_true rfl) (congrArg (fun q => Option.bind q _) hz) (fun x hl hn E => (t_u_clear E hn  m))
theorem mdX7_clear : mdq yX7_clear 0 := ⟨by decide, by decide, by decide +kernel⟩
theorem dX9_next_0 : decode cX9_next 0 = .ok (.aload_n 0, 1) := by decide +kernel
theorem dX9_next_1 : decode cX9_next 1 = .ok (.getfield 15, 3) := by decide +kernel
theorem dX9_next_4 : decode cX9_next 4 = .ok (.aload_n 0, 1) := by decide +kernel
theorem dX9_next_5 : decode cX9_next 5 = .ok (.getfield 28, 3) := by decide +kernel
theorem dX9_next_8 : decode cX9_next 8 = .ok (.iaload, 1) := by decide +kernel
theorem dX9_next_9 : decode cX9_next 9 = .ok (.istore_n 3, 1) := by decide +kernel
theorem dX9_next_10 : decode cX9_next 10 = .ok (.iload_n 3, 1) := by decide +kernel
theorem dX9_next_11 : decode cX9_next 11 = .ok (.iload_n 1, 1) := by decide +kernel
theorem dX9_next_12 : decode cX9_next 12 = .ok (.if_icmp .lt 8, 3) := by decide +kernel
theorem dX9_next_15 : decode cX9_next 15 = .ok (.iload_n 3, 1) := by decide +kernel
theorem dX9_next_16 : decode cX9_next 16 = .ok (.iload_n 2, 1) := by decide +kernel
theorem dX9_next_17 : decode cX9_next 17 = .ok (.if_icmp .le 5, 3) := by decide +kernel
theorem dX9_next_20 : decode cX9_next 20 = .ok (.iconst (-1), 1) := by decide +kernel
theorem dX9_next_21 : decode cX9_next 21 = .ok (.ireturn, 1) := by decide +kernel
theorem dX9_next_22 : decode cX9_next 22 = .ok (.aload_n 0, 1) := by decide +kernel
theorem dX9_next_23 : decode cX9_next 23 = .ok (.dup, 1) := by decide +kernel
theorem dX9_next_24 : decode cX9_next 24 = .ok (.getfield 28, 3) := by decide +kernel
theorem dX9_next_27 : decode cX9_next 27 = .ok (.iconst 1, 1) := by decide +kernel
theorem dX9_next_28 : decode cX9_next 28 = .ok (.iadd, 1) := by decide +kernel
theorem dX9_next_29 : decode cX9_next 29 = .ok (.putfield 28, 3) := by decide +kernel
theorem dX9_next_32 : decode cX9_next 32 = .ok (.iload_n 3, 1) := by decide +kernel
theorem dX9_next_33 : decode cX9_next 33 = .ok (.ireturn, 1) := by decide +kernel
def t_next (a1 : Int32) (a2 : Int32) (m : M) : Option (Int32 × M) :=
  Option.bind (rdI m 47 (m 7 4)) (fun v1 => (if v1 < a1 then some ((-1 : Int32), m) else (if v1 ≤ a2 then lt (wrF m 7 4 ((m 7 4) + (1 : Int32))) (fun m2 => some (v1, m2)) else some ((-1 : Int32), m))))
set_option maxRecDepth 20000 in
theorem t_t_next {G : GG} {x : Cx} (E : En G x cX9_next "WreckBoard$Tape" 1 (some .int)) (hn : xn x = 4) (a1 : Int32) (a2 : Int32) (m : M) : Sm G x 0 [(0, .ref (G.2.1 7)), (1, .int a1), (2, .int a2)] [] m (t_next a1 a2 m) KWi := by
  unfold t_next
  refine s_aload_n 0 E dX9_next_0 rfl rfl ?_
  refine s_getr (k := 2) (T := TX9) 7 E rfl rfl rfl inX9 (by decide) W312 dX9_next_1 ?_
  refine s_aload_n 0 E dX9_next_4 rfl rfl ?_
  refine s_geti (k := 4) (T := TX9) 7 E rfl rfl rfl inX9 (by decide) W314 dX9_next_5 ?_
  refine s_iald E dX9_next_8 (fun v1 => ?_)
  refine s_istore_n (lv' := [(0, .ref (G.2.1 7)), (1, .int a1), (2, .int a2), (3, .int v1)]) [1, 2, 3, 0] E dX9_next_9 rfl (by rw [hn]; decide) rfl ?_
  refine s_iload_n 3 E dX9_next_10 rfl rfl ?_
  refine s_iload_n 1 E dX9_next_11 rfl rfl ?_
  refine s_icmp_lt 20 E dX9_next_12 (by decide) ?_ ?_
  · refine s_iconst (v := (-1 : Int32)) E dX9_next_20 (by decide) ?_
    exact s_iret E rfl dX9_next_21
  · refine s_iload_n 3 E dX9_next_15 rfl rfl ?_
    refine s_iload_n 2 E dX9_next_16 rfl rfl ?_
    refine s_icmp_le 22 E dX9_next_17 (by decide) ?_ ?_
    · refine s_aload_n 0 E dX9_next_22 rfl rfl ?_
      refine s_dup E dX9_next_23 rfl ?_
      refine s_geti (k := 4) (T := TX9) 7 E rfl rfl rfl inX9 (by decide) W314 dX9_next_24 ?_
      refine s_iconst (v := (1 : Int32)) E dX9_next_27 (by decide) ?_
      refine s_iadd E dX9_next_28 ?_
      refine s_put (k := 4) (T := TX9) (ty := .int) 7 E rfl rfl rfl inX9 tyX9 tyX9_ok nmX9 (by decide) W314 rfl (by decide +kernel) rfl rfl dX9_next_29 ?_
      refine s_ltm rfl (fun m2 => ?_)
      refine s_iload_n 3 E dX9_next_32 rfl rfl ?_
      exact s_iret E rfl dX9_next_33
    · refine s_iconst (v := (-1 : Int32)) E dX9_next_20 (by decide) ?_
      exact s_iret E rfl dX9_next_21
set_option maxRecDepth 20000 in
theorem C_t_next (l : Launch) (G : GG) (a1 : Int32) (a2 : Int32) (m : M) {z : Int32 × M} (hz : t_next a1 a2 m = some z) : Ct l G yX9_next cX9_next 4 (some .int) 1 [.ref (G.2.1 7), .int a1, .int a2] m (some (.int z.1)) z.2 :=
  ct_of (K := KWi) (by decide) (Nat.le_of_ble_eq_true rfl) (congrArg (fun q => Option.bind q _) hz) (fun x hl hn E => (t_t_next E hn a1 a2 m))
theorem mdX9_next : mdq yX9_next 2 := ⟨by decide, by decide, by decide +kernel⟩
theorem dX9_takes_0 : decode cX9_takes 0 = .ok (.aload_n 0, 1) := by decide +kernel
theorem dX9_takes_1 : decode cX9_takes 1 = .ok (.iload_n 1, 1) := by decide +kernel
theorem dX9_takes_2 : decode cX9_takes 2 = .ok (.iload_n 1, 1) := by decide +kernel
theorem dX9_takes_3 : decode cX9_takes 3 = .ok (.invokevirtual 82, 3) := by decide +kernel
theorem dX9_takes_6 : decode cX9_takes 6 = .ok (.iconst (-1), 1) := by decide +kernel
theorem dX9_takes_7 : decode cX9_takes 7 = .ok (.if_icmp .eq 7, 3) := by decide +kernel
theorem dX9_takes_10 : decode cX9_takes 10 = .ok (.iconst 1, 1) := by decide +kernel
theorem dX9_takes_11 : decode cX9_takes 11 = .ok (.goto 4, 3) := by decide +kernel
theorem dX9_takes_14 : decode cX9_takes 14 = .ok (.iconst 0, 1) := by decide +kernel
theorem dX9_takes_15 : decode cX9_takes 15 = .ok (.ireturn, 1) := by decide +kernel
def t_takes (a1 : Int32) (m : M) : Option (Int32 × M) :=
  Option.bind (t_next a1 a1 m) (fun z1 => (if z1.1 = (-1 : Int32) then some ((0 : Int32), z1.2) else some ((1 : Int32), z1.2)))
set_option maxRecDepth 20000 in
theorem t_t_takes {G : GG} {x : Cx} (E : En G x cX9_takes "WreckBoard$Tape" 2 (some .boolean)) (hn : xn x = 2) (a1 : Int32) (m : M) : Sm G x 0 [(0, .ref (G.2.1 7)), (1, .int a1)] [] m (t_takes a1 m) KWi := by
  unfold t_takes
  refine s_aload_n 0 E dX9_takes_0 rfl rfl ?_
  refine s_iload_n 1 E dX9_takes_1 rfl rfl ?_
  refine s_iload_n 1 E dX9_takes_2 rfl rfl ?_
  refine s_bd (fun z1 hz => ?_)
  refine s_cV (rest := []) E (C_t_next (xl x) G a1 a1 m hz) mdX9_next W744 W746 W7 W101 W747 rfl rfl rfl rfl (Nat.le_of_ble_eq_true rfl) ⟨by decide, by decide⟩ dX9_takes_3 ?_
  refine s_iconst (v := (-1 : Int32)) E dX9_takes_6 (by decide) ?_
  refine s_icmp_eq 14 E dX9_takes_7 (by decide) ?_ ?_
  · refine s_iconst (v := (0 : Int32)) E dX9_takes_14 (by decide) ?_
    exact s_zret E (by decide) rfl dX9_takes_15
  · refine s_iconst (v := (1 : Int32)) E dX9_takes_10 (by decide) ?_
    refine s_goto 15 E dX9_takes_11 (by decide) ?_
    exact s_zret E (by decide) rfl dX9_takes_15
set_option maxRecDepth 20000 in
theorem C_t_takes (l : Launch) (G : GG) (a1 : Int32) (m : M) {z : Int32 × M} (hz : t_takes a1 m = some z) : Ct l G yX9_takes cX9_takes 2 (some .boolean) 2 [.ref (G.2.1 7), .int a1] m (some (.int z.1)) z.2 :=
  ct_of (K := KWi) (by decide) (Nat.le_of_ble_eq_true rfl) (congrArg (fun q => Option.bind q _) hz) (fun x hl hn E => (t_t_takes E hn a1 m))
theorem mdX9_takes : mdq yX9_takes 1 := ⟨by decide, by decide, by decide +kernel⟩
theorem dX7_add_0 : decode cX7_add 0 = .ok (.aload_n 0, 1) := by decide +kernel
theorem dX7_add_1 : decode cX7_add 1 = .ok (.getfield 26, 3) := by decide +kernel
theorem dX7_add_4 : decode cX7_add 4 = .ok (.bipush 8, 2) := by decide +kernel
theorem dX7_add_6 : decode cX7_add 6 = .ok (.if_icmp .ge 46, 3) := by decide +kernel
theorem dX7_add_9 : decode cX7_add 9 = .ok (.aload_n 0, 1) := by decide +kernel
theorem dX7_add_10 : decode cX7_add 10 = .ok (.getfield 9, 3) := by decide +kernel
theorem dX7_add_13 : decode cX7_add 13 = .ok (.aload_n 0, 1) := by decide +kernel
theorem dX7_add_14 : decode cX7_add 14 = .ok (.getfield 26, 3) := by decide +kernel
theorem dX7_add_17 : decode cX7_add 17 = .ok (.iload_n 1, 1) := by decide +kernel
theorem dX7_add_18 : decode cX7_add 18 = .ok (.iastore, 1) := by decide +kernel
theorem dX7_add_19 : decode cX7_add 19 = .ok (.aload_n 0, 1) := by decide +kernel
theorem dX7_add_20 : decode cX7_add 20 = .ok (.getfield 15, 3) := by decide +kernel
theorem dX7_add_23 : decode cX7_add 23 = .ok (.aload_n 0, 1) := by decide +kernel
theorem dX7_add_24 : decode cX7_add 24 = .ok (.getfield 26, 3) := by decide +kernel
theorem dX7_add_27 : decode cX7_add 27 = .ok (.iload_n 2, 1) := by decide +kernel
theorem dX7_add_28 : decode cX7_add 28 = .ok (.iastore, 1) := by decide +kernel
theorem dX7_add_29 : decode cX7_add 29 = .ok (.aload_n 0, 1) := by decide +kernel
theorem dX7_add_30 : decode cX7_add 30 = .ok (.getfield 18, 3) := by decide +kernel
theorem dX7_add_33 : decode cX7_add 33 = .ok (.aload_n 0, 1) := by decide +kernel
theorem dX7_add_34 : decode cX7_add 34 = .ok (.getfield 26, 3) := by decide +kernel
theorem dX7_add_37 : decode cX7_add 37 = .ok (.aload_n 0, 1) := by decide +kernel
theorem dX7_add_38 : decode cX7_add 38 = .ok (.getfield 30, 3) := by decide +kernel
theorem dX7_add_41 : decode cX7_add 41 = .ok (.iastore, 1) := by decide +kernel
theorem dX7_add_42 : decode cX7_add 42 = .ok (.aload_n 0, 1) := by decide +kernel
theorem dX7_add_43 : decode cX7_add 43 = .ok (.dup, 1) := by decide +kernel
theorem dX7_add_44 : decode cX7_add 44 = .ok (.getfield 26, 3) := by decide +kernel
theorem dX7_add_47 : decode cX7_add 47 = .ok (.iconst 1, 1) := by decide +kernel
theorem dX7_add_48 : decode cX7_add 48 = .ok (.iadd, 1) := by decide +kernel
theorem dX7_add_49 : decode cX7_add 49 = .ok (.putfield 26, 3) := by decide +kernel
theorem dX7_add_52 : decode cX7_add 52 = .ok (.return_, 1) := by decide +kernel
def u_add (a1 : Int32) (a2 : Int32) (m : M) : Option (M) :=
  (if (8 : Int32) ≤ (m 8 0) then some m else Option.bind (wrI m 42 (m 8 0) a1) (fun m1 => Option.bind (wrI m1 43 (m1 8 0) a2) (fun m2 => Option.bind (wrI m2 44 (m2 8 0) (m2 8 5)) (fun m3 => lt (wrF m3 8 0 ((m3 8 0) + (1 : Int32))) (fun m4 => some m4)))))
set_option maxRecDepth 20000 in
theorem t_u_add {G : GG} {x : Cx} (E : En G x cX7_add "WreckBoard$Rules" 1 none) (hn : xn x = 3) (a1 : Int32) (a2 : Int32) (m : M) : Sm G x 0 [(0, .ref (G.2.1 8)), (1, .int a1), (2, .int a2)] [] m (u_add a1 a2 m) KWv := by
  unfold u_add
  refine s_aload_n 0 E dX7_add_0 rfl rfl ?_
  refine s_geti (k := 0) (T := TX7) 8 E rfl rfl rfl inX7 (by decide) W132 dX7_add_1 ?_
  refine s_bipush (v := (8 : Int32)) E dX7_add_4 (by decide) ?_
  refine s_icmp_ge 52 E dX7_add_6 (by decide) ?_ ?_
  · exact s_vret E rfl dX7_add_52
  · refine s_aload_n 0 E dX7_add_9 rfl rfl ?_
    refine s_getr (k := 1) (T := TX7) 8 E rfl rfl rfl inX7 (by decide) W135 dX7_add_10 ?_
    refine s_aload_n 0 E dX7_add_13 rfl rfl ?_
    refine s_geti (k := 0) (T := TX7) 8 E rfl rfl rfl inX7 (by decide) W132 dX7_add_14 ?_
    refine s_iload_n 1 E dX7_add_17 rfl rfl ?_
    refine s_iast E dX7_add_18 (fun m1 => ?_)
    refine s_aload_n 0 E dX7_add_19 rfl rfl ?_
    refine s_getr (k := 2) (T := TX7) 8 E rfl rfl rfl inX7 (by decide) W137 dX7_add_20 ?_
    refine s_aload_n 0 E dX7_add_23 rfl rfl ?_
    refine s_geti (k := 0) (T := TX7) 8 E rfl rfl rfl inX7 (by decide) W132 dX7_add_24 ?_
    refine s_iload_n 2 E dX7_add_27 rfl rfl ?_
    refine s_iast E dX7_add_28 (fun m2 => ?_)
    refine s_aload_n 0 E dX7_add_29 rfl rfl ?_
    refine s_getr (k := 3) (T := TX7) 8 E rfl rfl rfl inX7 (by decide) W139 dX7_add_30 ?_
    refine s_aload_n 0 E dX7_add_33 rfl rfl ?_
    refine s_geti (k := 0) (T := TX7) 8 E rfl rfl rfl inX7 (by decide) W132 dX7_add_34 ?_
    refine s_aload_n 0 E dX7_add_37 rfl rfl ?_
    refine s_geti (k := 5) (T := TX7) 8 E rfl rfl rfl inX7 (by decide) W141 dX7_add_38 ?_
    refine s_iast E dX7_add_41 (fun m3 => ?_)
    refine s_aload_n 0 E dX7_add_42 rfl rfl ?_
    refine s_dup E dX7_add_43 rfl ?_
    refine s_geti (k := 0) (T := TX7) 8 E rfl rfl rfl inX7 (by decide) W132 dX7_add_44 ?_
    refine s_iconst (v := (1 : Int32)) E dX7_add_47 (by decide) ?_
    refine s_iadd E dX7_add_48 ?_
    refine s_put (k := 0) (T := TX7) (ty := .int) 8 E rfl rfl rfl inX7 tyX7 tyX7_ok nmX7 (by decide) W132 rfl (by decide +kernel) rfl rfl dX7_add_49 ?_
    refine s_ltm rfl (fun m4 => ?_)
    exact s_vret E rfl dX7_add_52
set_option maxRecDepth 20000 in
theorem C_u_add (l : Launch) (G : GG) (a1 : Int32) (a2 : Int32) (m : M) {z : M} (hz : u_add a1 a2 m = some z) : Ct l G yX7_add cX7_add 3 none 1 [.ref (G.2.1 8), .int a1, .int a2] m none z :=
  ct_of (K := KWv) (by decide) (Nat.le_of_ble_eq_true rfl) (congrArg (fun q => Option.bind q _) hz) (fun x hl hn E => (t_u_add E hn a1 a2 m))
theorem mdX7_add : mdq yX7_add 2 := ⟨by decide, by decide, by decide +kernel⟩
theorem dX7_addStep_0 : decode cX7_addStep 0 = .ok (.aload_n 0, 1) := by decide +kernel
theorem dX7_addStep_1 : decode cX7_addStep 1 = .ok (.getfield 30, 3) := by decide +kernel
theorem dX7_addStep_4 : decode cX7_addStep 4 = .ok (.aload_n 0, 1) := by decide +kernel
theorem dX7_addStep_5 : decode cX7_addStep 5 = .ok (.getfield 23, 3) := by decide +kernel
theorem dX7_addStep_8 : decode cX7_addStep 8 = .ok (.arraylength, 1) := by decide +kernel
theorem dX7_addStep_9 : decode cX7_addStep 9 = .ok (.if_icmp .ge 23, 3) := by decide +kernel
theorem dX7_addStep_12 : decode cX7_addStep 12 = .ok (.aload_n 0, 1) := by decide +kernel
theorem dX7_addStep_13 : decode cX7_addStep 13 = .ok (.getfield 23, 3) := by decide +kernel
theorem dX7_addStep_16 : decode cX7_addStep 16 = .ok (.aload_n 0, 1) := by decide +kernel
theorem dX7_addStep_17 : decode cX7_addStep 17 = .ok (.getfield 30, 3) := by decide +kernel
theorem dX7_addStep_20 : decode cX7_addStep 20 = .ok (.iload_n 1, 1) := by decide +kernel
theorem dX7_addStep_21 : decode cX7_addStep 21 = .ok (.iastore, 1) := by decide +kernel
theorem dX7_addStep_22 : decode cX7_addStep 22 = .ok (.aload_n 0, 1) := by decide +kernel
theorem dX7_addStep_23 : decode cX7_addStep 23 = .ok (.dup, 1) := by decide +kernel
theorem dX7_addStep_24 : decode cX7_addStep 24 = .ok (.getfield 30, 3) := by decide +kernel
theorem dX7_addStep_27 : decode cX7_addStep 27 = .ok (.iconst 1, 1) := by decide +kernel
theorem dX7_addStep_28 : decode cX7_addStep 28 = .ok (.iadd, 1) := by decide +kernel
theorem dX7_addStep_29 : decode cX7_addStep 29 = .ok (.putfield 30, 3) := by decide +kernel
theorem dX7_addStep_32 : decode cX7_addStep 32 = .ok (.return_, 1) := by decide +kernel
def u_addStep (a1 : Int32) (m : M) : Option (M) :=
  (if (200 : Int32) ≤ (m 8 5) then some m else Option.bind (wrI m 45 (m 8 5) a1) (fun m1 => lt (wrF m1 8 5 ((m1 8 5) + (1 : Int32))) (fun m2 => some m2)))
set_option maxRecDepth 20000 in
theorem t_u_addStep {G : GG} {x : Cx} (E : En G x cX7_addStep "WreckBoard$Rules" 1 none) (hn : xn x = 2) (a1 : Int32) (m : M) : Sm G x 0 [(0, .ref (G.2.1 8)), (1, .int a1)] [] m (u_addStep a1 m) KWv := by
  unfold u_addStep
  refine s_aload_n 0 E dX7_addStep_0 rfl rfl ?_
  refine s_geti (k := 5) (T := TX7) 8 E rfl rfl rfl inX7 (by decide) W141 dX7_addStep_1 ?_
  refine s_aload_n 0 E dX7_addStep_4 rfl rfl ?_
  refine s_getr (k := 4) (T := TX7) 8 E rfl rfl rfl inX7 (by decide) W140 dX7_addStep_5 ?_
  refine s_alen (n := 200) (v := (200 : Int32)) E rfl (by decide) (by decide) dX7_addStep_8 ?_
  refine s_icmp_ge 32 E dX7_addStep_9 (by decide) ?_ ?_
  · exact s_vret E rfl dX7_addStep_32
  · refine s_aload_n 0 E dX7_addStep_12 rfl rfl ?_
    refine s_getr (k := 4) (T := TX7) 8 E rfl rfl rfl inX7 (by decide) W140 dX7_addStep_13 ?_
    refine s_aload_n 0 E dX7_addStep_16 rfl rfl ?_
    refine s_geti (k := 5) (T := TX7) 8 E rfl rfl rfl inX7 (by decide) W141 dX7_addStep_17 ?_
    refine s_iload_n 1 E dX7_addStep_20 rfl rfl ?_
    refine s_iast E dX7_addStep_21 (fun m1 => ?_)
    refine s_aload_n 0 E dX7_addStep_22 rfl rfl ?_
    refine s_dup E dX7_addStep_23 rfl ?_
    refine s_geti (k := 5) (T := TX7) 8 E rfl rfl rfl inX7 (by decide) W141 dX7_addStep_24 ?_
    refine s_iconst (v := (1 : Int32)) E dX7_addStep_27 (by decide) ?_
    refine s_iadd E dX7_addStep_28 ?_
    refine s_put (k := 5) (T := TX7) (ty := .int) 8 E rfl rfl rfl inX7 tyX7 tyX7_ok nmX7 (by decide) W141 rfl (by decide +kernel) rfl rfl dX7_addStep_29 ?_
    refine s_ltm rfl (fun m2 => ?_)
    exact s_vret E rfl dX7_addStep_32
set_option maxRecDepth 20000 in
theorem C_u_addStep (l : Launch) (G : GG) (a1 : Int32) (m : M) {z : M} (hz : u_addStep a1 m = some z) : Ct l G yX7_addStep cX7_addStep 2 none 1 [.ref (G.2.1 8), .int a1] m none z :=
  ct_of (K := KWv) (by decide) (Nat.le_of_ble_eq_true rfl) (congrArg (fun q => Option.bind q _) hz) (fun x hl hn E => (t_u_addStep E hn a1 m))
theorem mdX7_addStep : mdq yX7_addStep 1 := ⟨by decide, by decide, by decide +kernel⟩
theorem dX9_readsComparison_0 : decode cX9_readsComparison 0 = .ok (.aload_n 0, 1) := by decide +kernel
theorem dX9_readsComparison_1 : decode cX9_readsComparison 1 = .ok (.bipush 13, 2) := by decide +kernel
theorem dX9_readsComparison_3 : decode cX9_readsComparison 3 = .ok (.sipush 10017, 3) := by decide +kernel
theorem dX9_readsComparison_6 : decode cX9_readsComparison 6 = .ok (.invokevirtual 82, 3) := by decide +kernel
theorem dX9_readsComparison_9 : decode cX9_readsComparison 9 = .ok (.istore_n 2, 1) := by decide +kernel
theorem dX9_readsComparison_10 : decode cX9_readsComparison 10 = .ok (.iload_n 2, 1) := by decide +kernel
theorem dX9_readsComparison_11 : decode cX9_readsComparison 11 = .ok (.iconst (-1), 1) := by decide +kernel
theorem dX9_readsComparison_12 : decode cX9_readsComparison 12 = .ok (.if_icmp .ne 5, 3) := by decide +kernel
theorem dX9_readsComparison_15 : decode cX9_readsComparison 15 = .ok (.iconst 0, 1) := by decide +kernel
theorem dX9_readsComparison_16 : decode cX9_readsComparison 16 = .ok (.ireturn, 1) := by decide +kernel
theorem dX9_readsComparison_17 : decode cX9_readsComparison 17 = .ok (.aload_n 0, 1) := by decide +kernel
theorem dX9_readsComparison_18 : decode cX9_readsComparison 18 = .ok (.sipush 10018, 3) := by decide +kernel
theorem dX9_readsComparison_21 : decode cX9_readsComparison 21 = .ok (.sipush 10020, 3) := by decide +kernel
theorem dX9_readsComparison_24 : decode cX9_readsComparison 24 = .ok (.invokevirtual 82, 3) := by decide +kernel
theorem dX9_readsComparison_27 : decode cX9_readsComparison 27 = .ok (.istore_n 3, 1) := by decide +kernel
theorem dX9_readsComparison_28 : decode cX9_readsComparison 28 = .ok (.iload_n 3, 1) := by decide +kernel
theorem dX9_readsComparison_29 : decode cX9_readsComparison 29 = .ok (.iconst (-1), 1) := by decide +kernel
theorem dX9_readsComparison_30 : decode cX9_readsComparison 30 = .ok (.if_icmp .ne 5, 3) := by decide +kernel
theorem dX9_readsComparison_33 : decode cX9_readsComparison 33 = .ok (.iconst 0, 1) := by decide +kernel
theorem dX9_readsComparison_34 : decode cX9_readsComparison 34 = .ok (.ireturn, 1) := by decide +kernel
theorem dX9_readsComparison_35 : decode cX9_readsComparison 35 = .ok (.aload_n 0, 1) := by decide +kernel
theorem dX9_readsComparison_36 : decode cX9_readsComparison 36 = .ok (.bipush 13, 2) := by decide +kernel
theorem dX9_readsComparison_38 : decode cX9_readsComparison 38 = .ok (.sipush 10017, 3) := by decide +kernel
theorem dX9_readsComparison_41 : decode cX9_readsComparison 41 = .ok (.invokevirtual 82, 3) := by decide +kernel
theorem dX9_readsComparison_44 : decode cX9_readsComparison 44 = .ok (.istore 4, 2) := by decide +kernel
theorem dX9_readsComparison_46 : decode cX9_readsComparison 46 = .ok (.iload 4, 2) := by decide +kernel
theorem dX9_readsComparison_48 : decode cX9_readsComparison 48 = .ok (.iconst (-1), 1) := by decide +kernel
theorem dX9_readsComparison_49 : decode cX9_readsComparison 49 = .ok (.if_icmp .ne 5, 3) := by decide +kernel
theorem dX9_readsComparison_52 : decode cX9_readsComparison 52 = .ok (.iconst 0, 1) := by decide +kernel
theorem dX9_readsComparison_53 : decode cX9_readsComparison 53 = .ok (.ireturn, 1) := by decide +kernel
theorem dX9_readsComparison_54 : decode cX9_readsComparison 54 = .ok (.aload_n 1, 1) := by decide +kernel
theorem dX9_readsComparison_55 : decode cX9_readsComparison 55 = .ok (.iload_n 3, 1) := by decide +kernel
theorem dX9_readsComparison_56 : decode cX9_readsComparison 56 = .ok (.invokevirtual 99, 3) := by decide +kernel
theorem dX9_readsComparison_59 : decode cX9_readsComparison 59 = .ok (.aload_n 1, 1) := by decide +kernel
theorem dX9_readsComparison_60 : decode cX9_readsComparison 60 = .ok (.iload_n 2, 1) := by decide +kernel
theorem dX9_readsComparison_61 : decode cX9_readsComparison 61 = .ok (.invokevirtual 99, 3) := by decide +kernel
theorem dX9_readsComparison_64 : decode cX9_readsComparison 64 = .ok (.aload_n 1, 1) := by decide +kernel
theorem dX9_readsComparison_65 : decode cX9_readsComparison 65 = .ok (.iload 4, 2) := by decide +kernel
theorem dX9_readsComparison_67 : decode cX9_readsComparison 67 = .ok (.invokevirtual 99, 3) := by decide +kernel
theorem dX9_readsComparison_70 : decode cX9_readsComparison 70 = .ok (.iconst 1, 1) := by decide +kernel
theorem dX9_readsComparison_71 : decode cX9_readsComparison 71 = .ok (.ireturn, 1) := by decide +kernel
def t_readsComparison  (m : M) : Option (Int32 × M) :=
  Option.bind (t_next (13 : Int32) (10017 : Int32) m) (fun z1 => (if z1.1 = (-1 : Int32) then some ((0 : Int32), z1.2) else Option.bind (t_next (10018 : Int32) (10020 : Int32) z1.2) (fun z2 => (if z2.1 = (-1 : Int32) then some ((0 : Int32), z2.2) else Option.bind (t_next (13 : Int32) (10017 : Int32) z2.2) (fun z3 => (if z3.1 = (-1 : Int32) then some ((0 : Int32), z3.2) else Option.bind (u_addStep z2.1 z3.2) (fun m4 => Option.bind (u_addStep z1.1 m4) (fun m5 => Option.bind (u_addStep z3.1 m5) (fun m6 => some ((1 : Int32), m6))))))))))
set_option maxRecDepth 20000 in
theorem t_t_readsComparison {G : GG} {x : Cx} (E : En G x cX9_readsComparison "WreckBoard$Tape" 2 (some .boolean)) (hn : xn x = 5)  (m : M) : Sm G x 0 [(0, .ref (G.2.1 7)), (1, .ref (G.2.1 8))] [] m (t_readsComparison m) KWi := by
  unfold t_readsComparison
  refine s_aload_n 0 E dX9_readsComparison_0 rfl rfl ?_
  refine s_bipush (v := (13 : Int32)) E dX9_readsComparison_1 (by decide) ?_
  refine s_sipush (v := (10017 : Int32)) E dX9_readsComparison_3 (by decide) ?_
  refine s_bd (fun z1 hz => ?_)
  refine s_cV (rest := []) E (C_t_next (xl x) G (13 : Int32) (10017 : Int32) m hz) mdX9_next W744 W746 W7 W101 W747 rfl rfl rfl rfl (Nat.le_of_ble_eq_true rfl) ⟨by decide, by decide⟩ dX9_readsComparison_6 ?_
  refine s_istore_n (lv' := [(0, .ref (G.2.1 7)), (1, .ref (G.2.1 8)), (2, .int z1.1)]) [1, 2, 0] E dX9_readsComparison_9 rfl (by rw [hn]; decide) rfl ?_
  refine s_iload_n 2 E dX9_readsComparison_10 rfl rfl ?_
  refine s_iconst (v := (-1 : Int32)) E dX9_readsComparison_11 (by decide) ?_
  refine s_icmp_ne 17 E dX9_readsComparison_12 (by decide) ?_ ?_
  · refine s_aload_n 0 E dX9_readsComparison_17 rfl rfl ?_
    refine s_sipush (v := (10018 : Int32)) E dX9_readsComparison_18 (by decide) ?_
    refine s_sipush (v := (10020 : Int32)) E dX9_readsComparison_21 (by decide) ?_
    refine s_bd (fun z2 hz => ?_)
    refine s_cV (rest := []) E (C_t_next (xl x) G (10018 : Int32) (10020 : Int32) z1.2 hz) mdX9_next W744 W746 W7 W101 W747 rfl rfl rfl rfl (Nat.le_of_ble_eq_true rfl) ⟨by decide, by decide⟩ dX9_readsComparison_24 ?_
    refine s_istore_n (lv' := [(0, .ref (G.2.1 7)), (1, .ref (G.2.1 8)), (2, .int z1.1), (3, .int z2.1)]) [1, 2, 3, 0] E dX9_readsComparison_27 rfl (by rw [hn]; decide) rfl ?_
    refine s_iload_n 3 E dX9_readsComparison_28 rfl rfl ?_
    refine s_iconst (v := (-1 : Int32)) E dX9_readsComparison_29 (by decide) ?_
    refine s_icmp_ne 35 E dX9_readsComparison_30 (by decide) ?_ ?_
    · refine s_aload_n 0 E dX9_readsComparison_35 rfl rfl ?_
      refine s_bipush (v := (13 : Int32)) E dX9_readsComparison_36 (by decide) ?_
      refine s_sipush (v := (10017 : Int32)) E dX9_readsComparison_38 (by decide) ?_
      refine s_bd (fun z3 hz => ?_)
      refine s_cV (rest := []) E (C_t_next (xl x) G (13 : Int32) (10017 : Int32) z2.2 hz) mdX9_next W744 W746 W7 W101 W747 rfl rfl rfl rfl (Nat.le_of_ble_eq_true rfl) ⟨by decide, by decide⟩ dX9_readsComparison_41 ?_
      refine s_istore (lv' := [(1, .ref (G.2.1 8)), (2, .int z1.1), (3, .int z2.1), (4, .int z3.1)]) [2, 3, 4, 0] E dX9_readsComparison_44 (by rw [hn]; decide) rfl ?_
      refine s_iload 3 E dX9_readsComparison_46 rfl ?_
      refine s_iconst (v := (-1 : Int32)) E dX9_readsComparison_48 (by decide) ?_
      refine s_icmp_ne 54 E dX9_readsComparison_49 (by decide) ?_ ?_
      · refine s_aload_n 0 E dX9_readsComparison_54 rfl rfl ?_
        refine s_iload_n 2 E dX9_readsComparison_55 rfl rfl ?_
        refine s_bd (fun m4 hz => ?_)
        refine s_cV (rest := []) E (C_u_addStep (xl x) G z2.1 z3.2 hz) mdX7_addStep W768 W769 W770 W93 W771 rfl rfl rfl rfl (Nat.le_of_ble_eq_true rfl) ⟨by decide, by decide⟩ dX9_readsComparison_56 ?_
        refine s_aload_n 0 E dX9_readsComparison_59 rfl rfl ?_
        refine s_iload_n 1 E dX9_readsComparison_60 rfl rfl ?_
        refine s_bd (fun m5 hz => ?_)
        refine s_cV (rest := []) E (C_u_addStep (xl x) G z1.1 m4 hz) mdX7_addStep W768 W769 W770 W93 W771 rfl rfl rfl rfl (Nat.le_of_ble_eq_true rfl) ⟨by decide, by decide⟩ dX9_readsComparison_61 ?_
        refine s_aload_n 0 E dX9_readsComparison_64 rfl rfl ?_
        refine s_iload 3 E dX9_readsComparison_65 rfl ?_
        refine s_bd (fun m6 hz => ?_)
        refine s_cV (rest := []) E (C_u_addStep (xl x) G z3.1 m5 hz) mdX7_addStep W768 W769 W770 W93 W771 rfl rfl rfl rfl (Nat.le_of_ble_eq_true rfl) ⟨by decide, by decide⟩ dX9_readsComparison_67 ?_
        refine s_iconst (v := (1 : Int32)) E dX9_readsComparison_70 (by decide) ?_
        exact s_zret E (by decide) rfl dX9_readsComparison_71
      · refine s_iconst (v := (0 : Int32)) E dX9_readsComparison_52 (by decide) ?_
        exact s_zret E (by decide) rfl dX9_readsComparison_53
    · refine s_iconst (v := (0 : Int32)) E dX9_readsComparison_33 (by decide) ?_
      exact s_zret E (by decide) rfl dX9_readsComparison_34
  · refine s_iconst (v := (0 : Int32)) E dX9_readsComparison_15 (by decide) ?_
    exact s_zret E (by decide) rfl dX9_readsComparison_16
set_option maxRecDepth 20000 in
theorem C_t_readsComparison (l : Launch) (G : GG)  (m : M) {z : Int32 × M} (hz : t_readsComparison m = some z) : Ct l G yX9_readsComparison cX9_readsComparison 5 (some .boolean) 2 [.ref (G.2.1 7), .ref (G.2.1 8)] m (some (.int z.1)) z.2 :=
  ct_of (K := KWi) (by decide) (Nat.le_of_ble_eq_true rfl) (congrArg (fun q => Option.bind q _) hz) (fun x hl hn E => (t_t_readsComparison E hn  m))
theorem mdX9_readsComparison : mdq yX9_readsComparison 1 := ⟨by decide, by decide, by decide +kernel⟩
theorem mdX9_readsCond : mdq yX9_readsCond 2 := ⟨by decide, by decide, by decide +kernel⟩
theorem mdX9_readsOne : mdq yX9_readsOne 2 := ⟨by decide, by decide, by decide +kernel⟩
theorem mdX9_readsAll : mdq yX9_readsAll 2 := ⟨by decide, by decide, by decide +kernel⟩
theorem dX9_readsOne_0 : decode cX9_readsOne 0 = .ok (.iconst 0, 1) := by decide +kernel
theorem dX9_readsOne_1 : decode cX9_readsOne 1 = .ok (.istore_n 3, 1) := by decide +kernel
theorem dX9_readsOne_2 : decode cX9_readsOne 2 = .ok (.iconst 0, 1) := by decide +kernel
theorem dX9_readsOne_3 : decode cX9_readsOne 3 = .ok (.istore 4, 2) := by decide +kernel
theorem dX9_readsOne_5 : decode cX9_readsOne 5 = .ok (.iload 4, 2) := by decide +kernel
theorem dX9_readsOne_7 : decode cX9_readsOne 7 = .ok (.sipush 200, 3) := by decide +kernel
theorem dX9_readsOne_10 : decode cX9_readsOne 10 = .ok (.if_icmp .ge 28, 3) := by decide +kernel
theorem dX9_readsOne_13 : decode cX9_readsOne 13 = .ok (.aload_n 0, 1) := by decide +kernel
theorem dX9_readsOne_14 : decode cX9_readsOne 14 = .ok (.bipush 12, 2) := by decide +kernel
theorem dX9_readsOne_16 : decode cX9_readsOne 16 = .ok (.invokevirtual 85, 3) := by decide +kernel
theorem dX9_readsOne_19 : decode cX9_readsOne 19 = .ok (.ifCond .eq 19, 3) := by decide +kernel
theorem dX9_readsOne_22 : decode cX9_readsOne 22 = .ok (.iload_n 3, 1) := by decide +kernel
theorem dX9_readsOne_23 : decode cX9_readsOne 23 = .ok (.ifCond .ne 7, 3) := by decide +kernel
theorem dX9_readsOne_26 : decode cX9_readsOne 26 = .ok (.iconst 1, 1) := by decide +kernel
theorem dX9_readsOne_27 : decode cX9_readsOne 27 = .ok (.goto 4, 3) := by decide +kernel
theorem dX9_readsOne_30 : decode cX9_readsOne 30 = .ok (.iconst 0, 1) := by decide +kernel
theorem dX9_readsOne_31 : decode cX9_readsOne 31 = .ok (.istore_n 3, 1) := by decide +kernel
theorem dX9_readsOne_32 : decode cX9_readsOne 32 = .ok (.iinc 4 1, 3) := by decide +kernel
theorem dX9_readsOne_35 : decode cX9_readsOne 35 = .ok (.goto (-30), 3) := by decide +kernel
theorem dX9_readsOne_38 : decode cX9_readsOne 38 = .ok (.iload_n 2, 1) := by decide +kernel
theorem dX9_readsOne_39 : decode cX9_readsOne 39 = .ok (.iconst 3, 1) := by decide +kernel
theorem dX9_readsOne_40 : decode cX9_readsOne 40 = .ok (.if_icmp .ge 44, 3) := by decide +kernel
theorem dX9_readsOne_43 : decode cX9_readsOne 43 = .ok (.aload_n 0, 1) := by decide +kernel
theorem dX9_readsOne_44 : decode cX9_readsOne 44 = .ok (.sipush 10021, 3) := by decide +kernel
theorem dX9_readsOne_47 : decode cX9_readsOne 47 = .ok (.invokevirtual 85, 3) := by decide +kernel
theorem dX9_readsOne_50 : decode cX9_readsOne 50 = .ok (.ifCond .eq 34, 3) := by decide +kernel
theorem dX9_readsOne_53 : decode cX9_readsOne 53 = .ok (.aload_n 0, 1) := by decide +kernel
theorem dX9_readsOne_54 : decode cX9_readsOne 54 = .ok (.aload_n 1, 1) := by decide +kernel
theorem dX9_readsOne_55 : decode cX9_readsOne 55 = .ok (.iload_n 2, 1) := by decide +kernel
theorem dX9_readsOne_56 : decode cX9_readsOne 56 = .ok (.iconst 1, 1) := by decide +kernel
theorem dX9_readsOne_57 : decode cX9_readsOne 57 = .ok (.iadd, 1) := by decide +kernel
theorem dX9_readsOne_58 : decode cX9_readsOne 58 = .ok (.invokevirtual 88, 3) := by decide +kernel
theorem dX9_readsOne_61 : decode cX9_readsOne 61 = .ok (.ifCond .eq 17, 3) := by decide +kernel
theorem dX9_readsOne_64 : decode cX9_readsOne 64 = .ok (.aload_n 0, 1) := by decide +kernel
theorem dX9_readsOne_65 : decode cX9_readsOne 65 = .ok (.sipush 10022, 3) := by decide +kernel
theorem dX9_readsOne_68 : decode cX9_readsOne 68 = .ok (.invokevirtual 85, 3) := by decide +kernel
theorem dX9_readsOne_71 : decode cX9_readsOne 71 = .ok (.ifCond .eq 7, 3) := by decide +kernel
theorem dX9_readsOne_74 : decode cX9_readsOne 74 = .ok (.iconst 1, 1) := by decide +kernel
theorem dX9_readsOne_75 : decode cX9_readsOne 75 = .ok (.goto 4, 3) := by decide +kernel
theorem dX9_readsOne_78 : decode cX9_readsOne 78 = .ok (.iconst 0, 1) := by decide +kernel
theorem dX9_readsOne_79 : decode cX9_readsOne 79 = .ok (.istore 4, 2) := by decide +kernel
theorem dX9_readsOne_81 : decode cX9_readsOne 81 = .ok (.goto 10, 3) := by decide +kernel
theorem dX9_readsOne_84 : decode cX9_readsOne 84 = .ok (.aload_n 0, 1) := by decide +kernel
theorem dX9_readsOne_85 : decode cX9_readsOne 85 = .ok (.aload_n 1, 1) := by decide +kernel
theorem dX9_readsOne_86 : decode cX9_readsOne 86 = .ok (.invokevirtual 106, 3) := by decide +kernel
theorem dX9_readsOne_89 : decode cX9_readsOne 89 = .ok (.istore 4, 2) := by decide +kernel
theorem dX9_readsOne_91 : decode cX9_readsOne 91 = .ok (.iload_n 3, 1) := by decide +kernel
theorem dX9_readsOne_92 : decode cX9_readsOne 92 = .ok (.ifCond .eq 9, 3) := by decide +kernel
theorem dX9_readsOne_95 : decode cX9_readsOne 95 = .ok (.aload_n 1, 1) := by decide +kernel
theorem dX9_readsOne_96 : decode cX9_readsOne 96 = .ok (.bipush 12, 2) := by decide +kernel
theorem dX9_readsOne_98 : decode cX9_readsOne 98 = .ok (.invokevirtual 99, 3) := by decide +kernel
theorem dX9_readsOne_101 : decode cX9_readsOne 101 = .ok (.iload 4, 2) := by decide +kernel
theorem dX9_readsOne_103 : decode cX9_readsOne 103 = .ok (.ireturn, 1) := by decide +kernel
def t_readsOne_31 (rec : Int32 → M → Option (Int32 × M)) (a2 : Int32) (a4 : Int32) (s0 : Int32) (m : M) : Option ((Int32 × Int32 × M) ⊕ ((Int32 × M))) :=
  lt (a4 + (1 : Int32)) (fun w1 : Int32 => some (.inl (s0, w1, m)))
set_option maxRecDepth 20000 in
theorem t_t_readsOne_31 {G : GG} {x : Cx} {lv0 : Nat} {K : ((Int32 × Int32 × M) ⊕ ((Int32 × M))) → Option (Option Value × M)} (E : En G x cX9_readsOne "WreckBoard$Tape" (lv0 + 1) (some .boolean)) (hn : xn x = 5) (rec : Int32 → M → Option (Int32 × M)) (hlb : 2 ≤ lv0) (hrec : ∀ (a2 : Int32) (m : M) (z : Int32 × M), rec a2 m = some z → Ct (xl x) G yX9_readsCond cX9_readsCond 4 (some .boolean) lv0 [.ref (G.2.1 7), .ref (G.2.1 8), .int a2] m (some (.int z.1)) z.2) (a2 : Int32) (a4 : Int32) (s0 : Int32) (m : M) (hb : ∀ z : Int32 × Int32 × M, Sm G x 5 [(0, .ref (G.2.1 7)), (1, .ref (G.2.1 8)), (2, .int a2), (3, .int z.1), (4, .int z.2.1)] [] z.2.2 (some (.inl z)) K) (hx0 : ∀ z : Int32 × M, Sm G x 38 [(0, .ref (G.2.1 7)), (1, .ref (G.2.1 8)), (2, .int a2), (3, .int z.1)] [] z.2 (some (.inr z)) K) : Sm G x 31 [(0, .ref (G.2.1 7)), (1, .ref (G.2.1 8)), (2, .int a2), (4, .int a4)] [.int s0] m (t_readsOne_31 rec a2 a4 s0 m) K := by
  unfold t_readsOne_31
  refine s_istore_n (lv' := [(0, .ref (G.2.1 7)), (1, .ref (G.2.1 8)), (2, .int a2), (3, .int s0), (4, .int a4)]) [1, 2, 3, 0, 4] E dX9_readsOne_31 rfl (by rw [hn]; decide) rfl ?_
  refine s_iincL (v := (1 : Int32)) 4 [1, 2, 3, 4, 0] (fun w1 => [(0, .ref (G.2.1 7)), (1, .ref (G.2.1 8)), (2, .int a2), (3, .int s0), (4, .int w1)]) E dX9_readsOne_32 rfl (by decide) (by rw [hn]; decide) (fun _ => rfl) (fun w1 => ?_)
  refine s_goto 5 E dX9_readsOne_35 (by decide) ?_
  exact hb (s0, w1, m)
def t_readsOne_5b (rec : Int32 → M → Option (Int32 × M)) (a2 : Int32) (a3 : Int32) (a4 : Int32) (m : M) : Option ((Int32 × Int32 × M) ⊕ ((Int32 × M))) :=
  (if (200 : Int32) ≤ a4 then some (.inr (a3, m)) else Option.bind (t_takes (12 : Int32) m) (fun z1 => (if z1.1 = 0 then some (.inr (a3, z1.2)) else (if a3 = 0 then t_readsOne_31 rec a2 a4 (1 : Int32) z1.2 else t_readsOne_31 rec a2 a4 (0 : Int32) z1.2))))
set_option maxRecDepth 20000 in
theorem t_t_readsOne_5b {G : GG} {x : Cx} {lv0 : Nat} {K : ((Int32 × Int32 × M) ⊕ ((Int32 × M))) → Option (Option Value × M)} (E : En G x cX9_readsOne "WreckBoard$Tape" (lv0 + 1) (some .boolean)) (hn : xn x = 5) (rec : Int32 → M → Option (Int32 × M)) (hlb : 2 ≤ lv0) (hrec : ∀ (a2 : Int32) (m : M) (z : Int32 × M), rec a2 m = some z → Ct (xl x) G yX9_readsCond cX9_readsCond 4 (some .boolean) lv0 [.ref (G.2.1 7), .ref (G.2.1 8), .int a2] m (some (.int z.1)) z.2) (a2 : Int32) (a3 : Int32) (a4 : Int32) (m : M) (hb : ∀ z : Int32 × Int32 × M, Sm G x 5 [(0, .ref (G.2.1 7)), (1, .ref (G.2.1 8)), (2, .int a2), (3, .int z.1), (4, .int z.2.1)] [] z.2.2 (some (.inl z)) K) (hx0 : ∀ z : Int32 × M, Sm G x 38 [(0, .ref (G.2.1 7)), (1, .ref (G.2.1 8)), (2, .int a2), (3, .int z.1)] [] z.2 (some (.inr z)) K) : Sm G x 5 [(0, .ref (G.2.1 7)), (1, .ref (G.2.1 8)), (2, .int a2), (3, .int a3), (4, .int a4)] [] m (t_readsOne_5b rec a2 a3 a4 m) K := by
  unfold t_readsOne_5b
  refine s_iload 4 E dX9_readsOne_5 rfl ?_
  refine s_sipush (v := (200 : Int32)) E dX9_readsOne_7 (by decide) ?_
  refine s_icmp_ge 38 E dX9_readsOne_10 (by decide) ?_ ?_
  · refine s_sub (lv' := [(0, .ref (G.2.1 7)), (1, .ref (G.2.1 8)), (2, .int a2), (3, .int a3)]) [0, 1, 2, 3] rfl ?_
    exact hx0 (a3, m)
  · refine s_aload_n 0 E dX9_readsOne_13 rfl rfl ?_
    refine s_bipush (v := (12 : Int32)) E dX9_readsOne_14 (by decide) ?_
    refine s_bd (fun z1 hz => ?_)
    refine s_cV (rest := []) E (C_t_takes (xl x) G (12 : Int32) m hz) mdX9_takes W748 W750 W8 W101 W751 rfl rfl rfl rfl (Nat.le_of_ble_eq_true rfl) ⟨by omega, by omega⟩ dX9_readsOne_16 ?_
    refine s_if_eq 38 E dX9_readsOne_19 (by decide) ?_ ?_
    · refine s_sub (lv' := [(0, .ref (G.2.1 7)), (1, .ref (G.2.1 8)), (2, .int a2), (3, .int a3)]) [0, 1, 2, 3] rfl ?_
      exact hx0 (a3, z1.2)
    · refine s_iload_n 3 E dX9_readsOne_22 rfl rfl ?_
      refine s_if_ne 30 E dX9_readsOne_23 (by decide) ?_ ?_
      · refine s_iconst (v := (0 : Int32)) E dX9_readsOne_30 (by decide) ?_
        refine s_sub (lv' := [(0, .ref (G.2.1 7)), (1, .ref (G.2.1 8)), (2, .int a2), (4, .int a4)]) [0, 1, 2, 4] rfl ?_
        exact t_t_readsOne_31 E hn rec hlb hrec a2 a4 (0 : Int32) z1.2 hb hx0
      · refine s_iconst (v := (1 : Int32)) E dX9_readsOne_26 (by decide) ?_
        refine s_goto 31 E dX9_readsOne_27 (by decide) ?_
        refine s_sub (lv' := [(0, .ref (G.2.1 7)), (1, .ref (G.2.1 8)), (2, .int a2), (4, .int a4)]) [0, 1, 2, 4] rfl ?_
        exact t_t_readsOne_31 E hn rec hlb hrec a2 a4 (1 : Int32) z1.2 hb hx0
def t_readsOne_91 (rec : Int32 → M → Option (Int32 × M)) (a3 : Int32) (a4 : Int32) (m : M) : Option (Int32 × M) :=
  (if a3 = 0 then some ((a4 &&& 1), m) else Option.bind (u_addStep (12 : Int32) m) (fun m1 => some ((a4 &&& 1), m1)))
set_option maxRecDepth 20000 in
theorem t_t_readsOne_91 {G : GG} {x : Cx} {lv0 : Nat} (E : En G x cX9_readsOne "WreckBoard$Tape" (lv0 + 1) (some .boolean)) (hn : xn x = 5) (rec : Int32 → M → Option (Int32 × M)) (hlb : 2 ≤ lv0) (hrec : ∀ (a2 : Int32) (m : M) (z : Int32 × M), rec a2 m = some z → Ct (xl x) G yX9_readsCond cX9_readsCond 4 (some .boolean) lv0 [.ref (G.2.1 7), .ref (G.2.1 8), .int a2] m (some (.int z.1)) z.2) (a3 : Int32) (a4 : Int32) (m : M) : Sm G x 91 [(1, .ref (G.2.1 8)), (3, .int a3), (4, .int a4)] [] m (t_readsOne_91 rec a3 a4 m) KWi := by
  unfold t_readsOne_91
  refine s_iload_n 1 E dX9_readsOne_91 rfl rfl ?_
  refine s_if_eq 101 E dX9_readsOne_92 (by decide) ?_ ?_
  · refine s_iload 2 E dX9_readsOne_101 rfl ?_
    exact s_zretN E rfl dX9_readsOne_103
  · refine s_aload_n 0 E dX9_readsOne_95 rfl rfl ?_
    refine s_bipush (v := (12 : Int32)) E dX9_readsOne_96 (by decide) ?_
    refine s_bd (fun m1 hz => ?_)
    refine s_cV (rest := []) E (C_u_addStep (xl x) G (12 : Int32) m hz) mdX7_addStep W768 W769 W770 W93 W771 rfl rfl rfl rfl (Nat.le_of_ble_eq_true rfl) ⟨by omega, by omega⟩ dX9_readsOne_98 ?_
    refine s_iload 2 E dX9_readsOne_101 rfl ?_
    exact s_zretN E rfl dX9_readsOne_103
def t_readsOne_84 (rec : Int32 → M → Option (Int32 × M)) (a3 : Int32) (m : M) : Option (Int32 × M) :=
  Option.bind (t_readsComparison m) (fun z1 => t_readsOne_91 rec a3 z1.1 z1.2)
set_option maxRecDepth 20000 in
theorem t_t_readsOne_84 {G : GG} {x : Cx} {lv0 : Nat} (E : En G x cX9_readsOne "WreckBoard$Tape" (lv0 + 1) (some .boolean)) (hn : xn x = 5) (rec : Int32 → M → Option (Int32 × M)) (hlb : 2 ≤ lv0) (hrec : ∀ (a2 : Int32) (m : M) (z : Int32 × M), rec a2 m = some z → Ct (xl x) G yX9_readsCond cX9_readsCond 4 (some .boolean) lv0 [.ref (G.2.1 7), .ref (G.2.1 8), .int a2] m (some (.int z.1)) z.2) (a3 : Int32) (m : M) : Sm G x 84 [(0, .ref (G.2.1 7)), (1, .ref (G.2.1 8)), (3, .int a3)] [] m (t_readsOne_84 rec a3 m) KWi := by
  unfold t_readsOne_84
  refine s_aload_n 0 E dX9_readsOne_84 rfl rfl ?_
  refine s_aload_n 1 E dX9_readsOne_85 rfl rfl ?_
  refine s_bd (fun z1 hz => ?_)
  refine s_cV (rest := []) E (C_t_readsComparison (xl x) G  m hz) mdX9_readsComparison W764 W766 W12 W101 W767 rfl rfl rfl rfl (Nat.le_of_ble_eq_true rfl) ⟨by omega, by omega⟩ dX9_readsOne_86 ?_
  refine s_istore (lv' := [(1, .ref (G.2.1 8)), (3, .int a3), (4, .int z1.1)]) [2, 3, 0] E dX9_readsOne_89 (by rw [hn]; decide) rfl ?_
  exact t_t_readsOne_91 E hn rec hlb hrec a3 z1.1 z1.2
def t_readsOne_79 (rec : Int32 → M → Option (Int32 × M)) (a3 : Int32) (s0 : Int32) (m : M) : Option (Int32 × M) :=
  t_readsOne_91 rec a3 s0 m
set_option maxRecDepth 20000 in
theorem t_t_readsOne_79 {G : GG} {x : Cx} {lv0 : Nat} (E : En G x cX9_readsOne "WreckBoard$Tape" (lv0 + 1) (some .boolean)) (hn : xn x = 5) (rec : Int32 → M → Option (Int32 × M)) (hlb : 2 ≤ lv0) (hrec : ∀ (a2 : Int32) (m : M) (z : Int32 × M), rec a2 m = some z → Ct (xl x) G yX9_readsCond cX9_readsCond 4 (some .boolean) lv0 [.ref (G.2.1 7), .ref (G.2.1 8), .int a2] m (some (.int z.1)) z.2) (a3 : Int32) (s0 : Int32) (m : M) : Sm G x 79 [(1, .ref (G.2.1 8)), (3, .int a3)] [.int s0] m (t_readsOne_79 rec a3 s0 m) KWi := by
  unfold t_readsOne_79
  refine s_istore (lv' := [(1, .ref (G.2.1 8)), (3, .int a3), (4, .int s0)]) [1, 2, 0] E dX9_readsOne_79 (by rw [hn]; decide) rfl ?_
  refine s_goto 91 E dX9_readsOne_81 (by decide) ?_
  exact t_t_readsOne_91 E hn rec hlb hrec a3 s0 m
def t_readsOne_78 (rec : Int32 → M → Option (Int32 × M)) (a3 : Int32) (m : M) : Option (Int32 × M) :=
  t_readsOne_79 rec a3 (0 : Int32) m
set_option maxRecDepth 20000 in
theorem t_t_readsOne_78 {G : GG} {x : Cx} {lv0 : Nat} (E : En G x cX9_readsOne "WreckBoard$Tape" (lv0 + 1) (some .boolean)) (hn : xn x = 5) (rec : Int32 → M → Option (Int32 × M)) (hlb : 2 ≤ lv0) (hrec : ∀ (a2 : Int32) (m : M) (z : Int32 × M), rec a2 m = some z → Ct (xl x) G yX9_readsCond cX9_readsCond 4 (some .boolean) lv0 [.ref (G.2.1 7), .ref (G.2.1 8), .int a2] m (some (.int z.1)) z.2) (a3 : Int32) (m : M) : Sm G x 78 [(1, .ref (G.2.1 8)), (3, .int a3)] [] m (t_readsOne_78 rec a3 m) KWi := by
  unfold t_readsOne_78
  refine s_iconst (v := (0 : Int32)) E dX9_readsOne_78 (by decide) ?_
  exact t_t_readsOne_79 E hn rec hlb hrec a3 (0 : Int32) m
def t_readsOne_38 (rec : Int32 → M → Option (Int32 × M)) (a2 : Int32) (a3 : Int32) (m : M) : Option (Int32 × M) :=
  (if (3 : Int32) ≤ a2 then t_readsOne_84 rec a3 m else Option.bind (t_takes (10021 : Int32) m) (fun z1 => (if z1.1 = 0 then t_readsOne_84 rec a3 z1.2 else Option.bind (rec (a2 + (1 : Int32)) z1.2) (fun z2 => (if z2.1 = 0 then t_readsOne_78 rec a3 z2.2 else Option.bind (t_takes (10022 : Int32) z2.2) (fun z3 => (if z3.1 = 0 then t_readsOne_78 rec a3 z3.2 else t_readsOne_79 rec a3 (1 : Int32) z3.2)))))))
set_option maxRecDepth 20000 in
theorem t_t_readsOne_38 {G : GG} {x : Cx} {lv0 : Nat} (E : En G x cX9_readsOne "WreckBoard$Tape" (lv0 + 1) (some .boolean)) (hn : xn x = 5) (rec : Int32 → M → Option (Int32 × M)) (hlb : 2 ≤ lv0) (hrec : ∀ (a2 : Int32) (m : M) (z : Int32 × M), rec a2 m = some z → Ct (xl x) G yX9_readsCond cX9_readsCond 4 (some .boolean) lv0 [.ref (G.2.1 7), .ref (G.2.1 8), .int a2] m (some (.int z.1)) z.2) (a2 : Int32) (a3 : Int32) (m : M) : Sm G x 38 [(0, .ref (G.2.1 7)), (1, .ref (G.2.1 8)), (2, .int a2), (3, .int a3)] [] m (t_readsOne_38 rec a2 a3 m) KWi := by
  unfold t_readsOne_38
  refine s_iload_n 2 E dX9_readsOne_38 rfl rfl ?_
  refine s_iconst (v := (3 : Int32)) E dX9_readsOne_39 (by decide) ?_
  refine s_icmp_ge 84 E dX9_readsOne_40 (by decide) ?_ ?_
  · refine s_sub (lv' := [(0, .ref (G.2.1 7)), (1, .ref (G.2.1 8)), (3, .int a3)]) [0, 1, 3] rfl ?_
    exact t_t_readsOne_84 E hn rec hlb hrec a3 m
  · refine s_aload_n 0 E dX9_readsOne_43 rfl rfl ?_
    refine s_sipush (v := (10021 : Int32)) E dX9_readsOne_44 (by decide) ?_
    refine s_bd (fun z1 hz => ?_)
    refine s_cV (rest := []) E (C_t_takes (xl x) G (10021 : Int32) m hz) mdX9_takes W748 W750 W8 W101 W751 rfl rfl rfl rfl (Nat.le_of_ble_eq_true rfl) ⟨by omega, by omega⟩ dX9_readsOne_47 ?_
    refine s_if_eq 84 E dX9_readsOne_50 (by decide) ?_ ?_
    · refine s_sub (lv' := [(0, .ref (G.2.1 7)), (1, .ref (G.2.1 8)), (3, .int a3)]) [0, 1, 3] rfl ?_
      exact t_t_readsOne_84 E hn rec hlb hrec a3 z1.2
    · refine s_aload_n 0 E dX9_readsOne_53 rfl rfl ?_
      refine s_aload_n 1 E dX9_readsOne_54 rfl rfl ?_
      refine s_iload_n 2 E dX9_readsOne_55 rfl rfl ?_
      refine s_iconst (v := (1 : Int32)) E dX9_readsOne_56 (by decide) ?_
      refine s_iadd E dX9_readsOne_57 ?_
      refine s_bd (fun z2 hz => ?_)
      refine s_cV (rest := []) E (hrec (a2 + (1 : Int32)) z1.2 z2 hz) mdX9_readsCond W752 W754 W9 W101 W755 rfl rfl rfl rfl (Nat.le_of_ble_eq_true rfl) ⟨by omega, by omega⟩ dX9_readsOne_58 ?_
      refine s_if_eq 78 E dX9_readsOne_61 (by decide) ?_ ?_
      · refine s_sub (lv' := [(1, .ref (G.2.1 8)), (3, .int a3)]) [1, 3] rfl ?_
        exact t_t_readsOne_78 E hn rec hlb hrec a3 z2.2
      · refine s_aload_n 0 E dX9_readsOne_64 rfl rfl ?_
        refine s_sipush (v := (10022 : Int32)) E dX9_readsOne_65 (by decide) ?_
        refine s_bd (fun z3 hz => ?_)
        refine s_cV (rest := []) E (C_t_takes (xl x) G (10022 : Int32) z2.2 hz) mdX9_takes W748 W750 W8 W101 W751 rfl rfl rfl rfl (Nat.le_of_ble_eq_true rfl) ⟨by omega, by omega⟩ dX9_readsOne_68 ?_
        refine s_if_eq 78 E dX9_readsOne_71 (by decide) ?_ ?_
        · refine s_sub (lv' := [(1, .ref (G.2.1 8)), (3, .int a3)]) [1, 3] rfl ?_
          exact t_t_readsOne_78 E hn rec hlb hrec a3 z3.2
        · refine s_iconst (v := (1 : Int32)) E dX9_readsOne_74 (by decide) ?_
          refine s_goto 79 E dX9_readsOne_75 (by decide) ?_
          refine s_sub (lv' := [(1, .ref (G.2.1 8)), (3, .int a3)]) [1, 3] rfl ?_
          exact t_t_readsOne_79 E hn rec hlb hrec a3 (1 : Int32) z3.2
def t_readsOne_5 (rec : Int32 → M → Option (Int32 × M)) (a2 : Int32) (a3 : Int32) (a4 : Int32) (m : M) : Option (Int32 × M) :=
  Option.bind (iter (fun z => t_readsOne_5b rec a2 z.1 z.2.1 z.2.2) FU (a3, a4, m)) (fun r => t_readsOne_38 rec a2 r.1 r.2)
set_option maxRecDepth 20000 in
theorem t_t_readsOne_5 {G : GG} {x : Cx} {lv0 : Nat} (E : En G x cX9_readsOne "WreckBoard$Tape" (lv0 + 1) (some .boolean)) (hn : xn x = 5) (rec : Int32 → M → Option (Int32 × M)) (hlb : 2 ≤ lv0) (hrec : ∀ (a2 : Int32) (m : M) (z : Int32 × M), rec a2 m = some z → Ct (xl x) G yX9_readsCond cX9_readsCond 4 (some .boolean) lv0 [.ref (G.2.1 7), .ref (G.2.1 8), .int a2] m (some (.int z.1)) z.2) (a2 : Int32) (a3 : Int32) (a4 : Int32) (m : M) : Sm G x 5 [(0, .ref (G.2.1 7)), (1, .ref (G.2.1 8)), (2, .int a2), (3, .int a3), (4, .int a4)] [] m (t_readsOne_5 rec a2 a3 a4 m) KWi := by
  unfold t_readsOne_5
  refine s_loop (fun z => [(0, .ref (G.2.1 7)), (1, .ref (G.2.1 8)), (2, .int a2), (3, .int z.1), (4, .int z.2.1)]) (fun z => z.2.2) (fun K2 hb2 hr2 z => ?_) FU (a3, a4, m)
  refine t_t_readsOne_5b (K := K2) E hn rec hlb hrec a2 z.1 z.2.1 z.2.2 hb2 (fun r => s_out (hr2 r) ?_)
  · exact t_t_readsOne_38 E hn rec hlb hrec a2 r.1 r.2
def t_readsOne (rec : Int32 → M → Option (Int32 × M)) (a2 : Int32) (m : M) : Option (Int32 × M) :=
  t_readsOne_5 rec a2 (0 : Int32) (0 : Int32) m
set_option maxRecDepth 20000 in
theorem t_t_readsOne {G : GG} {x : Cx} {lv0 : Nat} (E : En G x cX9_readsOne "WreckBoard$Tape" (lv0 + 1) (some .boolean)) (hn : xn x = 5) (rec : Int32 → M → Option (Int32 × M)) (hlb : 2 ≤ lv0) (hrec : ∀ (a2 : Int32) (m : M) (z : Int32 × M), rec a2 m = some z → Ct (xl x) G yX9_readsCond cX9_readsCond 4 (some .boolean) lv0 [.ref (G.2.1 7), .ref (G.2.1 8), .int a2] m (some (.int z.1)) z.2) (a2 : Int32) (m : M) : Sm G x 0 [(0, .ref (G.2.1 7)), (1, .ref (G.2.1 8)), (2, .int a2)] [] m (t_readsOne rec a2 m) KWi := by
  unfold t_readsOne
  refine s_iconst (v := (0 : Int32)) E dX9_readsOne_0 (by decide) ?_
  refine s_istore_n (lv' := [(0, .ref (G.2.1 7)), (1, .ref (G.2.1 8)), (2, .int a2), (3, .int (0 : Int32))]) [1, 2, 3, 0] E dX9_readsOne_1 rfl (by rw [hn]; decide) rfl ?_
  refine s_iconst (v := (0 : Int32)) E dX9_readsOne_2 (by decide) ?_
  refine s_istore (lv' := [(0, .ref (G.2.1 7)), (1, .ref (G.2.1 8)), (2, .int a2), (3, .int (0 : Int32)), (4, .int (0 : Int32))]) [1, 2, 3, 4, 0] E dX9_readsOne_3 (by rw [hn]; decide) rfl ?_
  exact t_t_readsOne_5 E hn rec hlb hrec a2 (0 : Int32) (0 : Int32) m
set_option maxRecDepth 20000 in
theorem C_t_readsOne (l : Launch) (G : GG) (rec : Int32 → M → Option (Int32 × M)) {lv0 : Nat} (hlb : 2 ≤ lv0) (hrec : ∀ (a2 : Int32) (m : M) (z : Int32 × M), rec a2 m = some z → Ct l G yX9_readsCond cX9_readsCond 4 (some .boolean) lv0 [.ref (G.2.1 7), .ref (G.2.1 8), .int a2] m (some (.int z.1)) z.2) (a2 : Int32) (m : M) {z : Int32 × M} (hz : t_readsOne rec a2 m = some z) : Ct l G yX9_readsOne cX9_readsOne 5 (some .boolean) (lv0 + 1) [.ref (G.2.1 7), .ref (G.2.1 8), .int a2] m (some (.int z.1)) z.2 :=
  ct_of (K := KWi) (by decide) (Nat.le_of_ble_eq_true rfl) (congrArg (fun q => Option.bind q _) hz) (fun x hl hn E => (t_t_readsOne E hn rec hlb (by rw [hl]; exact hrec) a2 m))
theorem dX9_readsAll_0 : decode cX9_readsAll 0 = .ok (.aload_n 0, 1) := by decide +kernel
theorem dX9_readsAll_1 : decode cX9_readsAll 1 = .ok (.aload_n 1, 1) := by decide +kernel
theorem dX9_readsAll_2 : decode cX9_readsAll 2 = .ok (.iload_n 2, 1) := by decide +kernel
theorem dX9_readsAll_3 : decode cX9_readsAll 3 = .ok (.invokevirtual 103, 3) := by decide +kernel
theorem dX9_readsAll_6 : decode cX9_readsAll 6 = .ok (.ifCond .ne 5, 3) := by decide +kernel
theorem dX9_readsAll_9 : decode cX9_readsAll 9 = .ok (.iconst 0, 1) := by decide +kernel
theorem dX9_readsAll_10 : decode cX9_readsAll 10 = .ok (.ireturn, 1) := by decide +kernel
theorem dX9_readsAll_11 : decode cX9_readsAll 11 = .ok (.iconst 0, 1) := by decide +kernel
theorem dX9_readsAll_12 : decode cX9_readsAll 12 = .ok (.istore_n 3, 1) := by decide +kernel
theorem dX9_readsAll_13 : decode cX9_readsAll 13 = .ok (.iload_n 3, 1) := by decide +kernel
theorem dX9_readsAll_14 : decode cX9_readsAll 14 = .ok (.sipush 200, 3) := by decide +kernel
theorem dX9_readsAll_17 : decode cX9_readsAll 17 = .ok (.if_icmp .ge 35, 3) := by decide +kernel
theorem dX9_readsAll_20 : decode cX9_readsAll 20 = .ok (.aload_n 0, 1) := by decide +kernel
theorem dX9_readsAll_21 : decode cX9_readsAll 21 = .ok (.bipush 11, 2) := by decide +kernel
theorem dX9_readsAll_23 : decode cX9_readsAll 23 = .ok (.invokevirtual 85, 3) := by decide +kernel
theorem dX9_readsAll_26 : decode cX9_readsAll 26 = .ok (.ifCond .eq 26, 3) := by decide +kernel
theorem dX9_readsAll_29 : decode cX9_readsAll 29 = .ok (.aload_n 0, 1) := by decide +kernel
theorem dX9_readsAll_30 : decode cX9_readsAll 30 = .ok (.aload_n 1, 1) := by decide +kernel
theorem dX9_readsAll_31 : decode cX9_readsAll 31 = .ok (.iload_n 2, 1) := by decide +kernel
theorem dX9_readsAll_32 : decode cX9_readsAll 32 = .ok (.invokevirtual 103, 3) := by decide +kernel
theorem dX9_readsAll_35 : decode cX9_readsAll 35 = .ok (.ifCond .ne 5, 3) := by decide +kernel
theorem dX9_readsAll_38 : decode cX9_readsAll 38 = .ok (.iconst 0, 1) := by decide +kernel
theorem dX9_readsAll_39 : decode cX9_readsAll 39 = .ok (.ireturn, 1) := by decide +kernel
theorem dX9_readsAll_40 : decode cX9_readsAll 40 = .ok (.aload_n 1, 1) := by decide +kernel
theorem dX9_readsAll_41 : decode cX9_readsAll 41 = .ok (.bipush 11, 2) := by decide +kernel
theorem dX9_readsAll_43 : decode cX9_readsAll 43 = .ok (.invokevirtual 99, 3) := by decide +kernel
theorem dX9_readsAll_46 : decode cX9_readsAll 46 = .ok (.iinc 3 1, 3) := by decide +kernel
theorem dX9_readsAll_49 : decode cX9_readsAll 49 = .ok (.goto (-36), 3) := by decide +kernel
theorem dX9_readsAll_52 : decode cX9_readsAll 52 = .ok (.iconst 1, 1) := by decide +kernel
theorem dX9_readsAll_53 : decode cX9_readsAll 53 = .ok (.ireturn, 1) := by decide +kernel
def t_readsAll_13b (rec : Int32 → M → Option (Int32 × M)) (a2 : Int32) (a3 : Int32) (m : M) : Option ((Int32 × M) ⊕ ((M) ⊕ ((M)))) :=
  (if (200 : Int32) ≤ a3 then some (.inr (.inl m)) else Option.bind (t_takes (11 : Int32) m) (fun z1 => (if z1.1 = 0 then some (.inr (.inl z1.2)) else Option.bind (t_readsOne rec a2 z1.2) (fun z2 => (if z2.1 = 0 then some (.inr (.inr z2.2)) else Option.bind (u_addStep (11 : Int32) z2.2) (fun m3 => lt (a3 + (1 : Int32)) (fun w4 : Int32 => some (.inl (w4, m3)))))))))
set_option maxRecDepth 20000 in
theorem t_t_readsAll_13b {G : GG} {x : Cx} {lv0 : Nat} {K : ((Int32 × M) ⊕ ((M) ⊕ ((M)))) → Option (Option Value × M)} (E : En G x cX9_readsAll "WreckBoard$Tape" (lv0 + 2) (some .boolean)) (hn : xn x = 4) (rec : Int32 → M → Option (Int32 × M)) (hlb : 2 ≤ lv0) (hrec : ∀ (a2 : Int32) (m : M) (z : Int32 × M), rec a2 m = some z → Ct (xl x) G yX9_readsCond cX9_readsCond 4 (some .boolean) lv0 [.ref (G.2.1 7), .ref (G.2.1 8), .int a2] m (some (.int z.1)) z.2) (a2 : Int32) (a3 : Int32) (m : M) (hb : ∀ z : Int32 × M, Sm G x 13 [(0, .ref (G.2.1 7)), (1, .ref (G.2.1 8)), (2, .int a2), (3, .int z.1)] [] z.2 (some (.inl z)) K) (hx0 : ∀ z : M, Sm G x 52 [] [] z (some (.inr (.inl z))) K) (hx1 : ∀ z : M, Sm G x 38 [] [] z (some (.inr (.inr z))) K) : Sm G x 13 [(0, .ref (G.2.1 7)), (1, .ref (G.2.1 8)), (2, .int a2), (3, .int a3)] [] m (t_readsAll_13b rec a2 a3 m) K := by
  unfold t_readsAll_13b
  refine s_iload_n 3 E dX9_readsAll_13 rfl rfl ?_
  refine s_sipush (v := (200 : Int32)) E dX9_readsAll_14 (by decide) ?_
  refine s_icmp_ge 52 E dX9_readsAll_17 (by decide) ?_ ?_
  · refine s_sub (lv' := []) [] rfl ?_
    exact hx0 m
  · refine s_aload_n 0 E dX9_readsAll_20 rfl rfl ?_
    refine s_bipush (v := (11 : Int32)) E dX9_readsAll_21 (by decide) ?_
    refine s_bd (fun z1 hz => ?_)
    refine s_cV (rest := []) E (C_t_takes (xl x) G (11 : Int32) m hz) mdX9_takes W748 W750 W8 W101 W751 rfl rfl rfl rfl (Nat.le_of_ble_eq_true rfl) ⟨by omega, by omega⟩ dX9_readsAll_23 ?_
    refine s_if_eq 52 E dX9_readsAll_26 (by decide) ?_ ?_
    · refine s_sub (lv' := []) [] rfl ?_
      exact hx0 z1.2
    · refine s_aload_n 0 E dX9_readsAll_29 rfl rfl ?_
      refine s_aload_n 1 E dX9_readsAll_30 rfl rfl ?_
      refine s_iload_n 2 E dX9_readsAll_31 rfl rfl ?_
      refine s_bd (fun z2 hz => ?_)
      refine s_cV (rest := []) E (C_t_readsOne (xl x) G rec hlb hrec a2 z1.2 hz) mdX9_readsOne W760 W762 W11 W101 W763 rfl rfl rfl rfl (Nat.le_of_ble_eq_true rfl) ⟨by omega, by omega⟩ dX9_readsAll_32 ?_
      refine s_if_ne 40 E dX9_readsAll_35 (by decide) ?_ ?_
      · refine s_aload_n 1 E dX9_readsAll_40 rfl rfl ?_
        refine s_bipush (v := (11 : Int32)) E dX9_readsAll_41 (by decide) ?_
        refine s_bd (fun m3 hz => ?_)
        refine s_cV (rest := []) E (C_u_addStep (xl x) G (11 : Int32) z2.2 hz) mdX7_addStep W768 W769 W770 W93 W771 rfl rfl rfl rfl (Nat.le_of_ble_eq_true rfl) ⟨by omega, by omega⟩ dX9_readsAll_43 ?_
        refine s_iincL (v := (1 : Int32)) 3 [1, 2, 3, 0] (fun w4 => [(0, .ref (G.2.1 7)), (1, .ref (G.2.1 8)), (2, .int a2), (3, .int w4)]) E dX9_readsAll_46 rfl (by decide) (by rw [hn]; decide) (fun _ => rfl) (fun w4 => ?_)
        refine s_goto 13 E dX9_readsAll_49 (by decide) ?_
        exact hb (w4, m3)
      · refine s_sub (lv' := []) [] rfl ?_
        exact hx1 z2.2
def t_readsAll_13 (rec : Int32 → M → Option (Int32 × M)) (a2 : Int32) (a3 : Int32) (m : M) : Option (Int32 × M) :=
  Option.bind (iter (fun z => t_readsAll_13b rec a2 z.1 z.2) FU (a3, m)) (fun r => (match r with
  | .inl r => some ((1 : Int32), r)
  | .inr r => some ((0 : Int32), r)))
set_option maxRecDepth 20000 in
theorem t_t_readsAll_13 {G : GG} {x : Cx} {lv0 : Nat} (E : En G x cX9_readsAll "WreckBoard$Tape" (lv0 + 2) (some .boolean)) (hn : xn x = 4) (rec : Int32 → M → Option (Int32 × M)) (hlb : 2 ≤ lv0) (hrec : ∀ (a2 : Int32) (m : M) (z : Int32 × M), rec a2 m = some z → Ct (xl x) G yX9_readsCond cX9_readsCond 4 (some .boolean) lv0 [.ref (G.2.1 7), .ref (G.2.1 8), .int a2] m (some (.int z.1)) z.2) (a2 : Int32) (a3 : Int32) (m : M) : Sm G x 13 [(0, .ref (G.2.1 7)), (1, .ref (G.2.1 8)), (2, .int a2), (3, .int a3)] [] m (t_readsAll_13 rec a2 a3 m) KWi := by
  unfold t_readsAll_13
  refine s_loop (fun z => [(0, .ref (G.2.1 7)), (1, .ref (G.2.1 8)), (2, .int a2), (3, .int z.1)]) (fun z => z.2) (fun K2 hb2 hr2 z => ?_) FU (a3, m)
  refine t_t_readsAll_13b (K := K2) E hn rec hlb hrec a2 z.1 z.2 hb2 (fun r => s_out (hr2 (.inl r)) ?_) (fun r => s_out (hr2 (.inr r)) ?_)
  · refine s_iconst (v := (1 : Int32)) E dX9_readsAll_52 (by decide) ?_
    exact s_zret E (by decide) rfl dX9_readsAll_53
  · refine s_iconst (v := (0 : Int32)) E dX9_readsAll_38 (by decide) ?_
    exact s_zret E (by decide) rfl dX9_readsAll_39
def t_readsAll (rec : Int32 → M → Option (Int32 × M)) (a2 : Int32) (m : M) : Option (Int32 × M) :=
  Option.bind (t_readsOne rec a2 m) (fun z1 => (if z1.1 = 0 then some ((0 : Int32), z1.2) else t_readsAll_13 rec a2 (0 : Int32) z1.2))
set_option maxRecDepth 20000 in
theorem t_t_readsAll {G : GG} {x : Cx} {lv0 : Nat} (E : En G x cX9_readsAll "WreckBoard$Tape" (lv0 + 2) (some .boolean)) (hn : xn x = 4) (rec : Int32 → M → Option (Int32 × M)) (hlb : 2 ≤ lv0) (hrec : ∀ (a2 : Int32) (m : M) (z : Int32 × M), rec a2 m = some z → Ct (xl x) G yX9_readsCond cX9_readsCond 4 (some .boolean) lv0 [.ref (G.2.1 7), .ref (G.2.1 8), .int a2] m (some (.int z.1)) z.2) (a2 : Int32) (m : M) : Sm G x 0 [(0, .ref (G.2.1 7)), (1, .ref (G.2.1 8)), (2, .int a2)] [] m (t_readsAll rec a2 m) KWi := by
  unfold t_readsAll
  refine s_aload_n 0 E dX9_readsAll_0 rfl rfl ?_
  refine s_aload_n 1 E dX9_readsAll_1 rfl rfl ?_
  refine s_iload_n 2 E dX9_readsAll_2 rfl rfl ?_
  refine s_bd (fun z1 hz => ?_)
  refine s_cV (rest := []) E (C_t_readsOne (xl x) G rec hlb hrec a2 m hz) mdX9_readsOne W760 W762 W11 W101 W763 rfl rfl rfl rfl (Nat.le_of_ble_eq_true rfl) ⟨by omega, by omega⟩ dX9_readsAll_3 ?_
  refine s_if_ne 11 E dX9_readsAll_6 (by decide) ?_ ?_
  · refine s_iconst (v := (0 : Int32)) E dX9_readsAll_11 (by decide) ?_
    refine s_istore_n (lv' := [(0, .ref (G.2.1 7)), (1, .ref (G.2.1 8)), (2, .int a2), (3, .int (0 : Int32))]) [1, 2, 3, 0] E dX9_readsAll_12 rfl (by rw [hn]; decide) rfl ?_
    exact t_t_readsAll_13 E hn rec hlb hrec a2 (0 : Int32) z1.2
  · refine s_iconst (v := (0 : Int32)) E dX9_readsAll_9 (by decide) ?_
    exact s_zret E (by decide) rfl dX9_readsAll_10
set_option maxRecDepth 20000 in
theorem C_t_readsAll (l : Launch) (G : GG) (rec : Int32 → M → Option (Int32 × M)) {lv0 : Nat} (hlb : 2 ≤ lv0) (hrec : ∀ (a2 : Int32) (m : M) (z : Int32 × M), rec a2 m = some z → Ct l G yX9_readsCond cX9_readsCond 4 (some .boolean) lv0 [.ref (G.2.1 7), .ref (G.2.1 8), .int a2] m (some (.int z.1)) z.2) (a2 : Int32) (m : M) {z : Int32 × M} (hz : t_readsAll rec a2 m = some z) : Ct l G yX9_readsAll cX9_readsAll 4 (some .boolean) (lv0 + 2) [.ref (G.2.1 7), .ref (G.2.1 8), .int a2] m (some (.int z.1)) z.2 :=
  ct_of (K := KWi) (by decide) (Nat.le_of_ble_eq_true rfl) (congrArg (fun q => Option.bind q _) hz) (fun x hl hn E => (t_t_readsAll E hn rec hlb (by rw [hl]; exact hrec) a2 m))
theorem dX9_readsCond_0 : decode cX9_readsCond 0 = .ok (.aload_n 0, 1) := by decide +kernel
theorem dX9_readsCond_1 : decode cX9_readsCond 1 = .ok (.aload_n 1, 1) := by decide +kernel
theorem dX9_readsCond_2 : decode cX9_readsCond 2 = .ok (.iload_n 2, 1) := by decide +kernel
theorem dX9_readsCond_3 : decode cX9_readsCond 3 = .ok (.invokevirtual 96, 3) := by decide +kernel
theorem dX9_readsCond_6 : decode cX9_readsCond 6 = .ok (.ifCond .ne 5, 3) := by decide +kernel
theorem dX9_readsCond_9 : decode cX9_readsCond 9 = .ok (.iconst 0, 1) := by decide +kernel
theorem dX9_readsCond_10 : decode cX9_readsCond 10 = .ok (.ireturn, 1) := by decide +kernel
theorem dX9_readsCond_11 : decode cX9_readsCond 11 = .ok (.iconst 0, 1) := by decide +kernel
theorem dX9_readsCond_12 : decode cX9_readsCond 12 = .ok (.istore_n 3, 1) := by decide +kernel
theorem dX9_readsCond_13 : decode cX9_readsCond 13 = .ok (.iload_n 3, 1) := by decide +kernel
theorem dX9_readsCond_14 : decode cX9_readsCond 14 = .ok (.sipush 200, 3) := by decide +kernel
theorem dX9_readsCond_17 : decode cX9_readsCond 17 = .ok (.if_icmp .ge 35, 3) := by decide +kernel
theorem dX9_readsCond_20 : decode cX9_readsCond 20 = .ok (.aload_n 0, 1) := by decide +kernel
theorem dX9_readsCond_21 : decode cX9_readsCond 21 = .ok (.bipush 10, 2) := by decide +kernel
theorem dX9_readsCond_23 : decode cX9_readsCond 23 = .ok (.invokevirtual 85, 3) := by decide +kernel
theorem dX9_readsCond_26 : decode cX9_readsCond 26 = .ok (.ifCond .eq 26, 3) := by decide +kernel
theorem dX9_readsCond_29 : decode cX9_readsCond 29 = .ok (.aload_n 0, 1) := by decide +kernel
theorem dX9_readsCond_30 : decode cX9_readsCond 30 = .ok (.aload_n 1, 1) := by decide +kernel
theorem dX9_readsCond_31 : decode cX9_readsCond 31 = .ok (.iload_n 2, 1) := by decide +kernel
theorem dX9_readsCond_32 : decode cX9_readsCond 32 = .ok (.invokevirtual 96, 3) := by decide +kernel
theorem dX9_readsCond_35 : decode cX9_readsCond 35 = .ok (.ifCond .ne 5, 3) := by decide +kernel
theorem dX9_readsCond_38 : decode cX9_readsCond 38 = .ok (.iconst 0, 1) := by decide +kernel
theorem dX9_readsCond_39 : decode cX9_readsCond 39 = .ok (.ireturn, 1) := by decide +kernel
theorem dX9_readsCond_40 : decode cX9_readsCond 40 = .ok (.aload_n 1, 1) := by decide +kernel
theorem dX9_readsCond_41 : decode cX9_readsCond 41 = .ok (.bipush 10, 2) := by decide +kernel
theorem dX9_readsCond_43 : decode cX9_readsCond 43 = .ok (.invokevirtual 99, 3) := by decide +kernel
theorem dX9_readsCond_46 : decode cX9_readsCond 46 = .ok (.iinc 3 1, 3) := by decide +kernel
theorem dX9_readsCond_49 : decode cX9_readsCond 49 = .ok (.goto (-36), 3) := by decide +kernel
theorem dX9_readsCond_52 : decode cX9_readsCond 52 = .ok (.iconst 1, 1) := by decide +kernel
theorem dX9_readsCond_53 : decode cX9_readsCond 53 = .ok (.ireturn, 1) := by decide +kernel
def t_readsCond_13b (rec : Int32 → M → Option (Int32 × M)) (a2 : Int32) (a3 : Int32) (m : M) : Option ((Int32 × M) ⊕ ((M) ⊕ ((M)))) :=
  (if (200 : Int32) ≤ a3 then some (.inr (.inl m)) else Option.bind (t_takes (10 : Int32) m) (fun z1 => (if z1.1 = 0 then some (.inr (.inl z1.2)) else Option.bind (t_readsAll rec a2 z1.2) (fun z2 => (if z2.1 = 0 then some (.inr (.inr z2.2)) else Option.bind (u_addStep (10 : Int32) z2.2) (fun m3 => lt (a3 + (1 : Int32)) (fun w4 : Int32 => some (.inl (w4, m3)))))))))
set_option maxRecDepth 20000 in
theorem t_t_readsCond_13b {G : GG} {x : Cx} {lv0 : Nat} {K : ((Int32 × M) ⊕ ((M) ⊕ ((M)))) → Option (Option Value × M)} (E : En G x cX9_readsCond "WreckBoard$Tape" (lv0 + 3) (some .boolean)) (hn : xn x = 4) (rec : Int32 → M → Option (Int32 × M)) (hlb : 2 ≤ lv0) (hrec : ∀ (a2 : Int32) (m : M) (z : Int32 × M), rec a2 m = some z → Ct (xl x) G yX9_readsCond cX9_readsCond 4 (some .boolean) lv0 [.ref (G.2.1 7), .ref (G.2.1 8), .int a2] m (some (.int z.1)) z.2) (a2 : Int32) (a3 : Int32) (m : M) (hb : ∀ z : Int32 × M, Sm G x 13 [(0, .ref (G.2.1 7)), (1, .ref (G.2.1 8)), (2, .int a2), (3, .int z.1)] [] z.2 (some (.inl z)) K) (hx0 : ∀ z : M, Sm G x 52 [] [] z (some (.inr (.inl z))) K) (hx1 : ∀ z : M, Sm G x 38 [] [] z (some (.inr (.inr z))) K) : Sm G x 13 [(0, .ref (G.2.1 7)), (1, .ref (G.2.1 8)), (2, .int a2), (3, .int a3)] [] m (t_readsCond_13b rec a2 a3 m) K := by
  unfold t_readsCond_13b
  refine s_iload_n 3 E dX9_readsCond_13 rfl rfl ?_
  refine s_sipush (v := (200 : Int32)) E dX9_readsCond_14 (by decide) ?_
  refine s_icmp_ge 52 E dX9_readsCond_17 (by decide) ?_ ?_
  · refine s_sub (lv' := []) [] rfl ?_
    exact hx0 m
  · refine s_aload_n 0 E dX9_readsCond_20 rfl rfl ?_
    refine s_bipush (v := (10 : Int32)) E dX9_readsCond_21 (by decide) ?_
    refine s_bd (fun z1 hz => ?_)
    refine s_cV (rest := []) E (C_t_takes (xl x) G (10 : Int32) m hz) mdX9_takes W748 W750 W8 W101 W751 rfl rfl rfl rfl (Nat.le_of_ble_eq_true rfl) ⟨by omega, by omega⟩ dX9_readsCond_23 ?_
    refine s_if_eq 52 E dX9_readsCond_26 (by decide) ?_ ?_
    · refine s_sub (lv' := []) [] rfl ?_
      exact hx0 z1.2
    · refine s_aload_n 0 E dX9_readsCond_29 rfl rfl ?_
      refine s_aload_n 1 E dX9_readsCond_30 rfl rfl ?_
      refine s_iload_n 2 E dX9_readsCond_31 rfl rfl ?_
      refine s_bd (fun z2 hz => ?_)
      refine s_cV (rest := []) E (C_t_readsAll (xl x) G rec hlb hrec a2 z1.2 hz) mdX9_readsAll W756 W758 W10 W101 W759 rfl rfl rfl rfl (Nat.le_of_ble_eq_true rfl) ⟨by omega, by omega⟩ dX9_readsCond_32 ?_
      refine s_if_ne 40 E dX9_readsCond_35 (by decide) ?_ ?_
      · refine s_aload_n 1 E dX9_readsCond_40 rfl rfl ?_
        refine s_bipush (v := (10 : Int32)) E dX9_readsCond_41 (by decide) ?_
        refine s_bd (fun m3 hz => ?_)
        refine s_cV (rest := []) E (C_u_addStep (xl x) G (10 : Int32) z2.2 hz) mdX7_addStep W768 W769 W770 W93 W771 rfl rfl rfl rfl (Nat.le_of_ble_eq_true rfl) ⟨by omega, by omega⟩ dX9_readsCond_43 ?_
        refine s_iincL (v := (1 : Int32)) 3 [1, 2, 3, 0] (fun w4 => [(0, .ref (G.2.1 7)), (1, .ref (G.2.1 8)), (2, .int a2), (3, .int w4)]) E dX9_readsCond_46 rfl (by decide) (by rw [hn]; decide) (fun _ => rfl) (fun w4 => ?_)
        refine s_goto 13 E dX9_readsCond_49 (by decide) ?_
        exact hb (w4, m3)
      · refine s_sub (lv' := []) [] rfl ?_
        exact hx1 z2.2
def t_readsCond_13 (rec : Int32 → M → Option (Int32 × M)) (a2 : Int32) (a3 : Int32) (m : M) : Option (Int32 × M) :=
  Option.bind (iter (fun z => t_readsCond_13b rec a2 z.1 z.2) FU (a3, m)) (fun r => (match r with
  | .inl r => some ((1 : Int32), r)
  | .inr r => some ((0 : Int32), r)))
set_option maxRecDepth 20000 in
theorem t_t_readsCond_13 {G : GG} {x : Cx} {lv0 : Nat} (E : En G x cX9_readsCond "WreckBoard$Tape" (lv0 + 3) (some .boolean)) (hn : xn x = 4) (rec : Int32 → M → Option (Int32 × M)) (hlb : 2 ≤ lv0) (hrec : ∀ (a2 : Int32) (m : M) (z : Int32 × M), rec a2 m = some z → Ct (xl x) G yX9_readsCond cX9_readsCond 4 (some .boolean) lv0 [.ref (G.2.1 7), .ref (G.2.1 8), .int a2] m (some (.int z.1)) z.2) (a2 : Int32) (a3 : Int32) (m : M) : Sm G x 13 [(0, .ref (G.2.1 7)), (1, .ref (G.2.1 8)), (2, .int a2), (3, .int a3)] [] m (t_readsCond_13 rec a2 a3 m) KWi := by
  unfold t_readsCond_13
  refine s_loop (fun z => [(0, .ref (G.2.1 7)), (1, .ref (G.2.1 8)), (2, .int a2), (3, .int z.1)]) (fun z => z.2) (fun K2 hb2 hr2 z => ?_) FU (a3, m)
  refine t_t_readsCond_13b (K := K2) E hn rec hlb hrec a2 z.1 z.2 hb2 (fun r => s_out (hr2 (.inl r)) ?_) (fun r => s_out (hr2 (.inr r)) ?_)
  · refine s_iconst (v := (1 : Int32)) E dX9_readsCond_52 (by decide) ?_
    exact s_zret E (by decide) rfl dX9_readsCond_53
  · refine s_iconst (v := (0 : Int32)) E dX9_readsCond_38 (by decide) ?_
    exact s_zret E (by decide) rfl dX9_readsCond_39
def t_readsCond (rec : Int32 → M → Option (Int32 × M)) (a2 : Int32) (m : M) : Option (Int32 × M) :=
  Option.bind (t_readsAll rec a2 m) (fun z1 => (if z1.1 = 0 then some ((0 : Int32), z1.2) else t_readsCond_13 rec a2 (0 : Int32) z1.2))
set_option maxRecDepth 20000 in
theorem t_t_readsCond {G : GG} {x : Cx} {lv0 : Nat} (E : En G x cX9_readsCond "WreckBoard$Tape" (lv0 + 3) (some .boolean)) (hn : xn x = 4) (rec : Int32 → M → Option (Int32 × M)) (hlb : 2 ≤ lv0) (hrec : ∀ (a2 : Int32) (m : M) (z : Int32 × M), rec a2 m = some z → Ct (xl x) G yX9_readsCond cX9_readsCond 4 (some .boolean) lv0 [.ref (G.2.1 7), .ref (G.2.1 8), .int a2] m (some (.int z.1)) z.2) (a2 : Int32) (m : M) : Sm G x 0 [(0, .ref (G.2.1 7)), (1, .ref (G.2.1 8)), (2, .int a2)] [] m (t_readsCond rec a2 m) KWi := by
  unfold t_readsCond
  refine s_aload_n 0 E dX9_readsCond_0 rfl rfl ?_
  refine s_aload_n 1 E dX9_readsCond_1 rfl rfl ?_
  refine s_iload_n 2 E dX9_readsCond_2 rfl rfl ?_
  refine s_bd (fun z1 hz => ?_)
  refine s_cV (rest := []) E (C_t_readsAll (xl x) G rec hlb hrec a2 m hz) mdX9_readsAll W756 W758 W10 W101 W759 rfl rfl rfl rfl (Nat.le_of_ble_eq_true rfl) ⟨by omega, by omega⟩ dX9_readsCond_3 ?_
  refine s_if_ne 11 E dX9_readsCond_6 (by decide) ?_ ?_
  · refine s_iconst (v := (0 : Int32)) E dX9_readsCond_11 (by decide) ?_
    refine s_istore_n (lv' := [(0, .ref (G.2.1 7)), (1, .ref (G.2.1 8)), (2, .int a2), (3, .int (0 : Int32))]) [1, 2, 3, 0] E dX9_readsCond_12 rfl (by rw [hn]; decide) rfl ?_
    exact t_t_readsCond_13 E hn rec hlb hrec a2 (0 : Int32) z1.2
  · refine s_iconst (v := (0 : Int32)) E dX9_readsCond_9 (by decide) ?_
    exact s_zret E (by decide) rfl dX9_readsCond_10
set_option maxRecDepth 20000 in
theorem C_t_readsCond (l : Launch) (G : GG) (rec : Int32 → M → Option (Int32 × M)) {lv0 : Nat} (hlb : 2 ≤ lv0) (hrec : ∀ (a2 : Int32) (m : M) (z : Int32 × M), rec a2 m = some z → Ct l G yX9_readsCond cX9_readsCond 4 (some .boolean) lv0 [.ref (G.2.1 7), .ref (G.2.1 8), .int a2] m (some (.int z.1)) z.2) (a2 : Int32) (m : M) {z : Int32 × M} (hz : t_readsCond rec a2 m = some z) : Ct l G yX9_readsCond cX9_readsCond 4 (some .boolean) (lv0 + 3) [.ref (G.2.1 7), .ref (G.2.1 8), .int a2] m (some (.int z.1)) z.2 :=
  ct_of (K := KWi) (by decide) (Nat.le_of_ble_eq_true rfl) (congrArg (fun q => Option.bind q _) hz) (fun x hl hn E => (t_t_readsCond E hn rec hlb (by rw [hl]; exact hrec) a2 m))
def t_readsCond_d : Nat → Int32 → M → Option (Int32 × M)
  | 0 => fun _ _ => none
  | d + 1 => fun a2 m => t_readsCond (t_readsCond_d d) a2 m
theorem C_t_readsCond_d (l : Launch) (G : GG) : ∀ (d : Nat) (a2 : Int32) (m : M) {z : Int32 × M}, t_readsCond_d d a2 m = some z → Ct l G yX9_readsCond cX9_readsCond 4 (some .boolean) (2 + 3 * d) [.ref (G.2.1 7), .ref (G.2.1 8), .int a2] m (some (.int z.1)) z.2 := by
  intro d
  induction d with
  | zero => intro a2 m z hz; cases hz
  | succ d ih =>
    intro a2 m z hz
    exact C_t_readsCond l G (t_readsCond_d d) (lv0 := 2 + 3 * d) (by omega) (fun a2 m z h => ih a2 m h) a2 m hz
theorem dX9_reads_0 : decode cX9_reads 0 = .ok (.aload_n 0, 1) := by decide +kernel
theorem dX9_reads_1 : decode cX9_reads 1 = .ok (.iconst 0, 1) := by decide +kernel
theorem dX9_reads_2 : decode cX9_reads 2 = .ok (.iconst 5, 1) := by decide +kernel
theorem dX9_reads_3 : decode cX9_reads 3 = .ok (.invokevirtual 82, 3) := by decide +kernel
theorem dX9_reads_6 : decode cX9_reads 6 = .ok (.istore_n 2, 1) := by decide +kernel
theorem dX9_reads_7 : decode cX9_reads 7 = .ok (.iload_n 2, 1) := by decide +kernel
theorem dX9_reads_8 : decode cX9_reads 8 = .ok (.iconst (-1), 1) := by decide +kernel
theorem dX9_reads_9 : decode cX9_reads 9 = .ok (.if_icmp .ne 5, 3) := by decide +kernel
theorem dX9_reads_12 : decode cX9_reads 12 = .ok (.iconst 0, 1) := by decide +kernel
theorem dX9_reads_13 : decode cX9_reads 13 = .ok (.ireturn, 1) := by decide +kernel
theorem dX9_reads_14 : decode cX9_reads 14 = .ok (.aload_n 0, 1) := by decide +kernel
theorem dX9_reads_15 : decode cX9_reads 15 = .ok (.bipush 9, 2) := by decide +kernel
theorem dX9_reads_17 : decode cX9_reads 17 = .ok (.invokevirtual 85, 3) := by decide +kernel
theorem dX9_reads_20 : decode cX9_reads 20 = .ok (.ifCond .eq 14, 3) := by decide +kernel
theorem dX9_reads_23 : decode cX9_reads 23 = .ok (.aload_n 0, 1) := by decide +kernel
theorem dX9_reads_24 : decode cX9_reads 24 = .ok (.aload_n 1, 1) := by decide +kernel
theorem dX9_reads_25 : decode cX9_reads 25 = .ok (.iconst 0, 1) := by decide +kernel
theorem dX9_reads_26 : decode cX9_reads 26 = .ok (.invokevirtual 88, 3) := by decide +kernel
theorem dX9_reads_29 : decode cX9_reads 29 = .ok (.ifCond .ne 5, 3) := by decide +kernel
theorem dX9_reads_32 : decode cX9_reads 32 = .ok (.iconst 0, 1) := by decide +kernel
theorem dX9_reads_33 : decode cX9_reads 33 = .ok (.ireturn, 1) := by decide +kernel
theorem dX9_reads_34 : decode cX9_reads 34 = .ok (.aload_n 0, 1) := by decide +kernel
theorem dX9_reads_35 : decode cX9_reads 35 = .ok (.bipush 6, 2) := by decide +kernel
theorem dX9_reads_37 : decode cX9_reads 37 = .ok (.bipush 8, 2) := by decide +kernel
theorem dX9_reads_39 : decode cX9_reads 39 = .ok (.invokevirtual 82, 3) := by decide +kernel
theorem dX9_reads_42 : decode cX9_reads 42 = .ok (.istore_n 3, 1) := by decide +kernel
theorem dX9_reads_43 : decode cX9_reads 43 = .ok (.iload_n 3, 1) := by decide +kernel
theorem dX9_reads_44 : decode cX9_reads 44 = .ok (.iconst (-1), 1) := by decide +kernel
theorem dX9_reads_45 : decode cX9_reads 45 = .ok (.if_icmp .eq 13, 3) := by decide +kernel
theorem dX9_reads_48 : decode cX9_reads 48 = .ok (.aload_n 0, 1) := by decide +kernel
theorem dX9_reads_49 : decode cX9_reads 49 = .ok (.sipush 10023, 3) := by decide +kernel
theorem dX9_reads_52 : decode cX9_reads 52 = .ok (.invokevirtual 85, 3) := by decide +kernel
theorem dX9_reads_55 : decode cX9_reads 55 = .ok (.ifCond .ne 5, 3) := by decide +kernel
theorem dX9_reads_58 : decode cX9_reads 58 = .ok (.iconst 0, 1) := by decide +kernel
theorem dX9_reads_59 : decode cX9_reads 59 = .ok (.ireturn, 1) := by decide +kernel
theorem dX9_reads_60 : decode cX9_reads 60 = .ok (.aload_n 1, 1) := by decide +kernel
theorem dX9_reads_61 : decode cX9_reads 61 = .ok (.iload_n 2, 1) := by decide +kernel
theorem dX9_reads_62 : decode cX9_reads 62 = .ok (.iload_n 3, 1) := by decide +kernel
theorem dX9_reads_63 : decode cX9_reads 63 = .ok (.bipush 6, 2) := by decide +kernel
theorem dX9_reads_65 : decode cX9_reads 65 = .ok (.isub, 1) := by decide +kernel
theorem dX9_reads_66 : decode cX9_reads 66 = .ok (.invokevirtual 92, 3) := by decide +kernel
theorem dX9_reads_69 : decode cX9_reads 69 = .ok (.iconst 1, 1) := by decide +kernel
theorem dX9_reads_70 : decode cX9_reads 70 = .ok (.ireturn, 1) := by decide +kernel
def t_reads_34 (a2 : Int32) (m : M) : Option (Int32 × M) :=
  Option.bind (t_next (6 : Int32) (8 : Int32) m) (fun z1 => (if z1.1 = (-1 : Int32) then some ((0 : Int32), z1.2) else Option.bind (t_takes (10023 : Int32) z1.2) (fun z2 => (if z2.1 = 0 then some ((0 : Int32), z2.2) else Option.bind (u_add a2 (z1.1 - (6 : Int32)) z2.2) (fun m3 => some ((1 : Int32), m3))))))
set_option maxRecDepth 20000 in
theorem t_t_reads_34 {G : GG} {x : Cx} (E : En G x cX9_reads "WreckBoard$Tape" 21 (some .boolean)) (hn : xn x = 4) (a2 : Int32) (m : M) : Sm G x 34 [(0, .ref (G.2.1 7)), (1, .ref (G.2.1 8)), (2, .int a2)] [] m (t_reads_34 a2 m) KWi := by
  unfold t_reads_34
  refine s_aload_n 0 E dX9_reads_34 rfl rfl ?_
  refine s_bipush (v := (6 : Int32)) E dX9_reads_35 (by decide) ?_
  refine s_bipush (v := (8 : Int32)) E dX9_reads_37 (by decide) ?_
  refine s_bd (fun z1 hz => ?_)
  refine s_cV (rest := []) E (C_t_next (xl x) G (6 : Int32) (8 : Int32) m hz) mdX9_next W744 W746 W7 W101 W747 rfl rfl rfl rfl (Nat.le_of_ble_eq_true rfl) ⟨by decide, by decide⟩ dX9_reads_39 ?_
  refine s_istore_n (lv' := [(0, .ref (G.2.1 7)), (1, .ref (G.2.1 8)), (2, .int a2), (3, .int z1.1)]) [1, 2, 3, 0] E dX9_reads_42 rfl (by rw [hn]; decide) rfl ?_
  refine s_iload_n 3 E dX9_reads_43 rfl rfl ?_
  refine s_iconst (v := (-1 : Int32)) E dX9_reads_44 (by decide) ?_
  refine s_icmp_eq 58 E dX9_reads_45 (by decide) ?_ ?_
  · refine s_iconst (v := (0 : Int32)) E dX9_reads_58 (by decide) ?_
    exact s_zret E (by decide) rfl dX9_reads_59
  · refine s_aload_n 0 E dX9_reads_48 rfl rfl ?_
    refine s_sipush (v := (10023 : Int32)) E dX9_reads_49 (by decide) ?_
    refine s_bd (fun z2 hz => ?_)
    refine s_cV (rest := []) E (C_t_takes (xl x) G (10023 : Int32) z1.2 hz) mdX9_takes W748 W750 W8 W101 W751 rfl rfl rfl rfl (Nat.le_of_ble_eq_true rfl) ⟨by decide, by decide⟩ dX9_reads_52 ?_
    refine s_if_ne 60 E dX9_reads_55 (by decide) ?_ ?_
    · refine s_aload_n 1 E dX9_reads_60 rfl rfl ?_
      refine s_iload_n 2 E dX9_reads_61 rfl rfl ?_
      refine s_iload_n 3 E dX9_reads_62 rfl rfl ?_
      refine s_bipush (v := (6 : Int32)) E dX9_reads_63 (by decide) ?_
      refine s_isub E dX9_reads_65 ?_
      refine s_bd (fun m3 hz => ?_)
      refine s_cV (rest := []) E (C_u_add (xl x) G a2 (z1.1 - (6 : Int32)) z2.2 hz) mdX7_add W772 W773 W774 W93 W775 rfl rfl rfl rfl (Nat.le_of_ble_eq_true rfl) ⟨by decide, by decide⟩ dX9_reads_66 ?_
      refine s_iconst (v := (1 : Int32)) E dX9_reads_69 (by decide) ?_
      exact s_zret E (by decide) rfl dX9_reads_70
    · refine s_iconst (v := (0 : Int32)) E dX9_reads_58 (by decide) ?_
      exact s_zret E (by decide) rfl dX9_reads_59
def t_reads  (m : M) : Option (Int32 × M) :=
  Option.bind (t_next (0 : Int32) (5 : Int32) m) (fun z1 => (if z1.1 = (-1 : Int32) then some ((0 : Int32), z1.2) else Option.bind (t_takes (9 : Int32) z1.2) (fun z2 => (if z2.1 = 0 then t_reads_34 z1.1 z2.2 else Option.bind (t_readsCond_d 6 (0 : Int32) z2.2) (fun z3 => (if z3.1 = 0 then some ((0 : Int32), z3.2) else t_reads_34 z1.1 z3.2))))))
set_option maxRecDepth 20000 in
theorem t_t_reads {G : GG} {x : Cx} (E : En G x cX9_reads "WreckBoard$Tape" 21 (some .boolean)) (hn : xn x = 4)  (m : M) : Sm G x 0 [(0, .ref (G.2.1 7)), (1, .ref (G.2.1 8))] [] m (t_reads m) KWi := by
  unfold t_reads
  refine s_aload_n 0 E dX9_reads_0 rfl rfl ?_
  refine s_iconst (v := (0 : Int32)) E dX9_reads_1 (by decide) ?_
  refine s_iconst (v := (5 : Int32)) E dX9_reads_2 (by decide) ?_
  refine s_bd (fun z1 hz => ?_)
  refine s_cV (rest := []) E (C_t_next (xl x) G (0 : Int32) (5 : Int32) m hz) mdX9_next W744 W746 W7 W101 W747 rfl rfl rfl rfl (Nat.le_of_ble_eq_true rfl) ⟨by decide, by decide⟩ dX9_reads_3 ?_
  refine s_istore_n (lv' := [(0, .ref (G.2.1 7)), (1, .ref (G.2.1 8)), (2, .int z1.1)]) [1, 2, 0] E dX9_reads_6 rfl (by rw [hn]; decide) rfl ?_
  refine s_iload_n 2 E dX9_reads_7 rfl rfl ?_
  refine s_iconst (v := (-1 : Int32)) E dX9_reads_8 (by decide) ?_
  refine s_icmp_ne 14 E dX9_reads_9 (by decide) ?_ ?_
  · refine s_aload_n 0 E dX9_reads_14 rfl rfl ?_
    refine s_bipush (v := (9 : Int32)) E dX9_reads_15 (by decide) ?_
    refine s_bd (fun z2 hz => ?_)
    refine s_cV (rest := []) E (C_t_takes (xl x) G (9 : Int32) z1.2 hz) mdX9_takes W748 W750 W8 W101 W751 rfl rfl rfl rfl (Nat.le_of_ble_eq_true rfl) ⟨by decide, by decide⟩ dX9_reads_17 ?_
    refine s_if_eq 34 E dX9_reads_20 (by decide) ?_ ?_
    · exact t_t_reads_34 E hn z1.1 z2.2
    · refine s_aload_n 0 E dX9_reads_23 rfl rfl ?_
      refine s_aload_n 1 E dX9_reads_24 rfl rfl ?_
      refine s_iconst (v := (0 : Int32)) E dX9_reads_25 (by decide) ?_
      refine s_bd (fun z3 hz => ?_)
      refine s_cV (rest := []) E (C_t_readsCond_d (xl x) G 6 (0 : Int32) z2.2 hz) mdX9_readsCond W752 W754 W9 W101 W755 rfl rfl rfl rfl (Nat.le_of_ble_eq_true rfl) ⟨by decide, by decide⟩ dX9_reads_26 ?_
      refine s_if_ne 34 E dX9_reads_29 (by decide) ?_ ?_
      · exact t_t_reads_34 E hn z1.1 z3.2
      · refine s_iconst (v := (0 : Int32)) E dX9_reads_32 (by decide) ?_
        exact s_zret E (by decide) rfl dX9_reads_33
  · refine s_iconst (v := (0 : Int32)) E dX9_reads_12 (by decide) ?_
    exact s_zret E (by decide) rfl dX9_reads_13
set_option maxRecDepth 20000 in
theorem C_t_reads (l : Launch) (G : GG)  (m : M) {z : Int32 × M} (hz : t_reads m = some z) : Ct l G yX9_reads cX9_reads 4 (some .boolean) 21 [.ref (G.2.1 7), .ref (G.2.1 8)] m (some (.int z.1)) z.2 :=
  ct_of (K := KWi) (by decide) (Nat.le_of_ble_eq_true rfl) (congrArg (fun q => Option.bind q _) hz) (fun x hl hn E => (t_t_reads E hn  m))
theorem mdX9_reads : mdq yX9_reads 1 := ⟨by decide, by decide, by decide +kernel⟩
theorem dX9_readInto_0 : decode cX9_readInto 0 = .ok (.aload_n 0, 1) := by decide +kernel
theorem dX9_readInto_1 : decode cX9_readInto 1 = .ok (.invokevirtual 25, 3) := by decide +kernel
theorem dX9_readInto_4 : decode cX9_readInto 4 = .ok (.aload_n 0, 1) := by decide +kernel
theorem dX9_readInto_5 : decode cX9_readInto 5 = .ok (.iconst 0, 1) := by decide +kernel
theorem dX9_readInto_6 : decode cX9_readInto 6 = .ok (.putfield 28, 3) := by decide +kernel
theorem dX9_readInto_9 : decode cX9_readInto 9 = .ok (.aload_n 1, 1) := by decide +kernel
theorem dX9_readInto_10 : decode cX9_readInto 10 = .ok (.invokevirtual 31, 3) := by decide +kernel
theorem dX9_readInto_13 : decode cX9_readInto 13 = .ok (.iconst 0, 1) := by decide +kernel
theorem dX9_readInto_14 : decode cX9_readInto 14 = .ok (.istore_n 2, 1) := by decide +kernel
theorem dX9_readInto_15 : decode cX9_readInto 15 = .ok (.aload_n 0, 1) := by decide +kernel
theorem dX9_readInto_16 : decode cX9_readInto 16 = .ok (.getfield 15, 3) := by decide +kernel
theorem dX9_readInto_19 : decode cX9_readInto 19 = .ok (.aload_n 0, 1) := by decide +kernel
theorem dX9_readInto_20 : decode cX9_readInto 20 = .ok (.getfield 28, 3) := by decide +kernel
theorem dX9_readInto_23 : decode cX9_readInto 23 = .ok (.iaload, 1) := by decide +kernel
theorem dX9_readInto_24 : decode cX9_readInto 24 = .ok (.bipush (-2), 2) := by decide +kernel
theorem dX9_readInto_26 : decode cX9_readInto 26 = .ok (.if_icmp .eq 33, 3) := by decide +kernel
theorem dX9_readInto_29 : decode cX9_readInto 29 = .ok (.iload_n 2, 1) := by decide +kernel
theorem dX9_readInto_30 : decode cX9_readInto 30 = .ok (.bipush 8, 2) := by decide +kernel
theorem dX9_readInto_32 : decode cX9_readInto 32 = .ok (.if_icmp .ge 11, 3) := by decide +kernel
theorem dX9_readInto_35 : decode cX9_readInto 35 = .ok (.aload_n 0, 1) := by decide +kernel
theorem dX9_readInto_36 : decode cX9_readInto 36 = .ok (.aload_n 1, 1) := by decide +kernel
theorem dX9_readInto_37 : decode cX9_readInto 37 = .ok (.invokevirtual 36, 3) := by decide +kernel
theorem dX9_readInto_40 : decode cX9_readInto 40 = .ok (.ifCond .ne 13, 3) := by decide +kernel
theorem dX9_readInto_43 : decode cX9_readInto 43 = .ok (.aload_n 0, 1) := by decide +kernel
theorem dX9_readInto_44 : decode cX9_readInto 44 = .ok (.getfield 18, 3) := by decide +kernel
theorem dX9_readInto_47 : decode cX9_readInto 47 = .ok (.aload_n 0, 1) := by decide +kernel
theorem dX9_readInto_48 : decode cX9_readInto 48 = .ok (.getfield 28, 3) := by decide +kernel
theorem dX9_readInto_51 : decode cX9_readInto 51 = .ok (.iaload, 1) := by decide +kernel
theorem dX9_readInto_52 : decode cX9_readInto 52 = .ok (.ireturn, 1) := by decide +kernel
theorem dX9_readInto_53 : decode cX9_readInto 53 = .ok (.iinc 2 1, 3) := by decide +kernel
theorem dX9_readInto_56 : decode cX9_readInto 56 = .ok (.goto (-41), 3) := by decide +kernel
theorem dX9_readInto_59 : decode cX9_readInto 59 = .ok (.iconst (-1), 1) := by decide +kernel
theorem dX9_readInto_60 : decode cX9_readInto 60 = .ok (.ireturn, 1) := by decide +kernel
def t_readInto_15b (a2 : Int32) (m : M) : Option ((Int32 × M) ⊕ ((M) ⊕ ((M)))) :=
  Option.bind (rdI m 47 (m 7 4)) (fun v1 => (if v1 = (-2 : Int32) then some (.inr (.inl m)) else (if (8 : Int32) ≤ a2 then some (.inr (.inr m)) else Option.bind (t_reads m) (fun z2 => (if z2.1 = 0 then some (.inr (.inr z2.2)) else lt (a2 + (1 : Int32)) (fun w3 : Int32 => some (.inl (w3, z2.2))))))))
set_option maxRecDepth 20000 in
theorem t_t_readInto_15b {G : GG} {x : Cx} {K : ((Int32 × M) ⊕ ((M) ⊕ ((M)))) → Option (Option Value × M)} (E : En G x cX9_readInto "WreckBoard$Tape" 22 (some .int)) (hn : xn x = 3) (a2 : Int32) (m : M) (hb : ∀ z : Int32 × M, Sm G x 15 [(0, .ref (G.2.1 7)), (1, .ref (G.2.1 8)), (2, .int z.1)] [] z.2 (some (.inl z)) K) (hx0 : ∀ z : M, Sm G x 59 [] [] z (some (.inr (.inl z))) K) (hx1 : ∀ z : M, Sm G x 43 [(0, .ref (G.2.1 7))] [] z (some (.inr (.inr z))) K) : Sm G x 15 [(0, .ref (G.2.1 7)), (1, .ref (G.2.1 8)), (2, .int a2)] [] m (t_readInto_15b a2 m) K := by
  unfold t_readInto_15b
  refine s_aload_n 0 E dX9_readInto_15 rfl rfl ?_
  refine s_getr (k := 2) (T := TX9) 7 E rfl rfl rfl inX9 (by decide) W312 dX9_readInto_16 ?_
  refine s_aload_n 0 E dX9_readInto_19 rfl rfl ?_
  refine s_geti (k := 4) (T := TX9) 7 E rfl rfl rfl inX9 (by decide) W314 dX9_readInto_20 ?_
  refine s_iald E dX9_readInto_23 (fun v1 => ?_)
  refine s_bipush (v := (-2 : Int32)) E dX9_readInto_24 (by decide) ?_
  refine s_icmp_eq 59 E dX9_readInto_26 (by decide) ?_ ?_
  · refine s_sub (lv' := []) [] rfl ?_
    exact hx0 m
  · refine s_iload_n 2 E dX9_readInto_29 rfl rfl ?_
    refine s_bipush (v := (8 : Int32)) E dX9_readInto_30 (by decide) ?_
    refine s_icmp_ge 43 E dX9_readInto_32 (by decide) ?_ ?_
    · refine s_sub (lv' := [(0, .ref (G.2.1 7))]) [0] rfl ?_
      exact hx1 m
    · refine s_aload_n 0 E dX9_readInto_35 rfl rfl ?_
      refine s_aload_n 1 E dX9_readInto_36 rfl rfl ?_
      refine s_bd (fun z2 hz => ?_)
      refine s_cV (rest := []) E (C_t_reads (xl x) G  m hz) mdX9_reads W740 W742 W6 W101 W743 rfl rfl rfl rfl (Nat.le_of_ble_eq_true rfl) ⟨by decide, by decide⟩ dX9_readInto_37 ?_
      refine s_if_ne 53 E dX9_readInto_40 (by decide) ?_ ?_
      · refine s_iincL (v := (1 : Int32)) 2 [1, 2, 0] (fun w3 => [(0, .ref (G.2.1 7)), (1, .ref (G.2.1 8)), (2, .int w3)]) E dX9_readInto_53 rfl (by decide) (by rw [hn]; decide) (fun _ => rfl) (fun w3 => ?_)
        refine s_goto 15 E dX9_readInto_56 (by decide) ?_
        exact hb (w3, z2.2)
      · refine s_sub (lv' := [(0, .ref (G.2.1 7))]) [0] rfl ?_
        exact hx1 z2.2
def t_readInto_43  (m : M) : Option (Int32 × M) :=
  Option.bind (rdI m 48 (m 7 4)) (fun v1 => some (v1, m))
set_option maxRecDepth 20000 in
theorem t_t_readInto_43 {G : GG} {x : Cx} (E : En G x cX9_readInto "WreckBoard$Tape" 22 (some .int)) (hn : xn x = 3)  (m : M) : Sm G x 43 [(0, .ref (G.2.1 7))] [] m (t_readInto_43 m) KWi := by
  unfold t_readInto_43
  refine s_aload_n 0 E dX9_readInto_43 rfl rfl ?_
  refine s_getr (k := 3) (T := TX9) 7 E rfl rfl rfl inX9 (by decide) W313 dX9_readInto_44 ?_
  refine s_aload_n 0 E dX9_readInto_47 rfl rfl ?_
  refine s_geti (k := 4) (T := TX9) 7 E rfl rfl rfl inX9 (by decide) W314 dX9_readInto_48 ?_
  refine s_iald E dX9_readInto_51 (fun v1 => ?_)
  exact s_iret E rfl dX9_readInto_52
def t_readInto_15 (a2 : Int32) (m : M) : Option (Int32 × M) :=
  Option.bind (iter (fun z => t_readInto_15b z.1 z.2) FU (a2, m)) (fun r => (match r with
  | .inl r => some ((-1 : Int32), r)
  | .inr r => t_readInto_43 r))
set_option maxRecDepth 20000 in
theorem t_t_readInto_15 {G : GG} {x : Cx} (E : En G x cX9_readInto "WreckBoard$Tape" 22 (some .int)) (hn : xn x = 3) (a2 : Int32) (m : M) : Sm G x 15 [(0, .ref (G.2.1 7)), (1, .ref (G.2.1 8)), (2, .int a2)] [] m (t_readInto_15 a2 m) KWi := by
  unfold t_readInto_15
  refine s_loop (fun z => [(0, .ref (G.2.1 7)), (1, .ref (G.2.1 8)), (2, .int z.1)]) (fun z => z.2) (fun K2 hb2 hr2 z => ?_) FU (a2, m)
  refine t_t_readInto_15b (K := K2) E hn z.1 z.2 hb2 (fun r => s_out (hr2 (.inl r)) ?_) (fun r => s_out (hr2 (.inr r)) ?_)
  · refine s_iconst (v := (-1 : Int32)) E dX9_readInto_59 (by decide) ?_
    exact s_iret E rfl dX9_readInto_60
  · exact t_t_readInto_43 E hn r
def t_readInto  (m : M) : Option (Int32 × M) :=
  Option.bind (t_split m) (fun m1 => lt (wrF m1 7 4 (0 : Int32)) (fun m2 => Option.bind (u_clear m2) (fun m3 => t_readInto_15 (0 : Int32) m3)))
set_option maxRecDepth 20000 in
theorem t_t_readInto {G : GG} {x : Cx} (E : En G x cX9_readInto "WreckBoard$Tape" 22 (some .int)) (hn : xn x = 3)  (m : M) : Sm G x 0 [(0, .ref (G.2.1 7)), (1, .ref (G.2.1 8))] [] m (t_readInto m) KWi := by
  unfold t_readInto
  refine s_aload_n 0 E dX9_readInto_0 rfl rfl ?_
  refine s_bd (fun m1 hz => ?_)
  refine s_cV (rest := []) E (C_t_split (xl x) G  m hz) mdX9_split W603 W605 W0 W101 W606 rfl rfl rfl rfl (Nat.le_of_ble_eq_true rfl) ⟨by decide, by decide⟩ dX9_readInto_1 ?_
  refine s_aload_n 0 E dX9_readInto_4 rfl rfl ?_
  refine s_iconst (v := (0 : Int32)) E dX9_readInto_5 (by decide) ?_
  refine s_put (k := 4) (T := TX9) (ty := .int) 7 E rfl rfl rfl inX9 tyX9 tyX9_ok nmX9 (by decide) W314 rfl (by decide +kernel) rfl rfl dX9_readInto_6 ?_
  refine s_ltm rfl (fun m2 => ?_)
  refine s_aload_n 1 E dX9_readInto_9 rfl rfl ?_
  refine s_bd (fun m3 hz => ?_)
  refine s_cV (rest := []) E (C_u_clear (xl x) G  m2 hz) mdX7_clear W736 W737 W738 W93 W739 rfl rfl rfl rfl (Nat.le_of_ble_eq_true rfl) ⟨by decide, by decide⟩ dX9_readInto_10 ?_
  refine s_iconst (v := (0 : Int32)) E dX9_readInto_13 (by decide) ?_
  refine s_istore_n (lv' := [(0, .ref (G.2.1 7)), (1, .ref (G.2.1 8)), (2, .int (0 : Int32))]) [1, 2, 0] E dX9_readInto_14 rfl (by rw [hn]; decide) rfl ?_
  exact t_t_readInto_15 E hn (0 : Int32) m3
set_option maxRecDepth 20000 in
theorem C_t_readInto (l : Launch) (G : GG)  (m : M) {z : Int32 × M} (hz : t_readInto m = some z) : Ct l G yX9_readInto cX9_readInto 3 (some .int) 22 [.ref (G.2.1 7), .ref (G.2.1 8)] m (some (.int z.1)) z.2 :=
  ct_of (K := KWi) (by decide) (Nat.le_of_ble_eq_true rfl) (congrArg (fun q => Option.bind q _) hz) (fun x hl hn E => (t_t_readInto E hn  m))
theorem mdX9_readInto : mdq yX9_readInto 1 := ⟨by decide, by decide, by decide +kernel⟩
theorem dX0_copy_0 : decode cX0_copy 0 = .ok (.aload_n 0, 1) := by decide +kernel
theorem dX0_copy_1 : decode cX0_copy 1 = .ok (.iconst 0, 1) := by decide +kernel
theorem dX0_copy_2 : decode cX0_copy 2 = .ok (.aload_n 1, 1) := by decide +kernel
theorem dX0_copy_3 : decode cX0_copy 3 = .ok (.iconst 0, 1) := by decide +kernel
theorem dX0_copy_4 : decode cX0_copy 4 = .ok (.aload_n 0, 1) := by decide +kernel
theorem dX0_copy_5 : decode cX0_copy 5 = .ok (.arraylength, 1) := by decide +kernel
theorem dX0_copy_6 : decode cX0_copy 6 = .ok (.aload_n 1, 1) := by decide +kernel
theorem dX0_copy_7 : decode cX0_copy 7 = .ok (.arraylength, 1) := by decide +kernel
theorem dX0_copy_8 : decode cX0_copy 8 = .ok (.invokestatic 96, 3) := by decide +kernel
theorem dX0_copy_11 : decode cX0_copy 11 = .ok (.invokestatic 202, 3) := by decide +kernel
theorem dX0_copy_14 : decode cX0_copy 14 = .ok (.return_, 1) := by decide +kernel
def b_copy (a0 : Nat) (a1 : Nat) (m : M) : Option (M) :=
  Option.bind (lenI a0) (fun n1 => Option.bind (lenI a1) (fun n2 => Option.bind (cpI m a0 (0 : Int32) a1 (0 : Int32) (mnI n1 n2)) (fun m3 => some m3)))
set_option maxRecDepth 20000 in
theorem t_b_copy {G : GG} {x : Cx} (E : En G x cX0_copy "WreckBoard$Board" 2 none) (hn : xn x = 2) (a0 : Nat) (a1 : Nat) (m : M) : Sm G x 0 [(0, .ref (G.2.1 a0)), (1, .ref (G.2.1 a1))] [] m (b_copy a0 a1 m) KWv := by
  unfold b_copy
  refine s_aload_n 0 E dX0_copy_0 rfl rfl ?_
  refine s_iconst (v := (0 : Int32)) E dX0_copy_1 (by decide) ?_
  refine s_aload_n 1 E dX0_copy_2 rfl rfl ?_
  refine s_iconst (v := (0 : Int32)) E dX0_copy_3 (by decide) ?_
  refine s_aload_n 0 E dX0_copy_4 rfl rfl ?_
  refine s_alenS E dX0_copy_5 (fun n1 => ?_)
  refine s_aload_n 1 E dX0_copy_6 rfl rfl ?_
  refine s_alenS E dX0_copy_7 (fun n2 => ?_)
  refine s_mmin E W783 W488 W104 W489 (by decide) (Nat.le_of_ble_eq_true rfl) dX0_copy_8 ?_
  refine s_copy E W784 W786 W785 W110 (by decide) (Nat.le_of_ble_eq_true rfl) dX0_copy_11 (fun m3 => ?_)
  exact s_vret E rfl dX0_copy_14
set_option maxRecDepth 20000 in
theorem C_b_copy (l : Launch) (G : GG) (a0 : Nat) (a1 : Nat) (m : M) {z : M} (hz : b_copy a0 a1 m = some z) : Ct l G yX0_copy cX0_copy 2 none 2 [.ref (G.2.1 a0), .ref (G.2.1 a1)] m none z :=
  ct_of (K := KWv) (by decide) (Nat.le_of_ble_eq_true rfl) (congrArg (fun q => Option.bind q _) hz) (fun x hl hn E => (t_b_copy E hn a0 a1 m))
theorem mdX0_copy : mdq yX0_copy 2 := ⟨by decide, by decide, by decide +kernel⟩
theorem dX7_copyFrom_0 : decode cX7_copyFrom 0 = .ok (.aload_n 0, 1) := by decide +kernel
theorem dX7_copyFrom_1 : decode cX7_copyFrom 1 = .ok (.aload_n 1, 1) := by decide +kernel
theorem dX7_copyFrom_2 : decode cX7_copyFrom 2 = .ok (.getfield 26, 3) := by decide +kernel
theorem dX7_copyFrom_5 : decode cX7_copyFrom 5 = .ok (.putfield 26, 3) := by decide +kernel
theorem dX7_copyFrom_8 : decode cX7_copyFrom 8 = .ok (.aload_n 0, 1) := by decide +kernel
theorem dX7_copyFrom_9 : decode cX7_copyFrom 9 = .ok (.aload_n 1, 1) := by decide +kernel
theorem dX7_copyFrom_10 : decode cX7_copyFrom 10 = .ok (.getfield 30, 3) := by decide +kernel
theorem dX7_copyFrom_13 : decode cX7_copyFrom 13 = .ok (.putfield 30, 3) := by decide +kernel
theorem dX7_copyFrom_16 : decode cX7_copyFrom 16 = .ok (.aload_n 1, 1) := by decide +kernel
theorem dX7_copyFrom_17 : decode cX7_copyFrom 17 = .ok (.getfield 9, 3) := by decide +kernel
theorem dX7_copyFrom_20 : decode cX7_copyFrom 20 = .ok (.aload_n 0, 1) := by decide +kernel
theorem dX7_copyFrom_21 : decode cX7_copyFrom 21 = .ok (.getfield 9, 3) := by decide +kernel
theorem dX7_copyFrom_24 : decode cX7_copyFrom 24 = .ok (.invokestatic 55, 3) := by decide +kernel
theorem dX7_copyFrom_27 : decode cX7_copyFrom 27 = .ok (.aload_n 1, 1) := by decide +kernel
theorem dX7_copyFrom_28 : decode cX7_copyFrom 28 = .ok (.getfield 15, 3) := by decide +kernel
theorem dX7_copyFrom_31 : decode cX7_copyFrom 31 = .ok (.aload_n 0, 1) := by decide +kernel
theorem dX7_copyFrom_32 : decode cX7_copyFrom 32 = .ok (.getfield 15, 3) := by decide +kernel
theorem dX7_copyFrom_35 : decode cX7_copyFrom 35 = .ok (.invokestatic 55, 3) := by decide +kernel
theorem dX7_copyFrom_38 : decode cX7_copyFrom 38 = .ok (.aload_n 1, 1) := by decide +kernel
theorem dX7_copyFrom_39 : decode cX7_copyFrom 39 = .ok (.getfield 18, 3) := by decide +kernel
theorem dX7_copyFrom_42 : decode cX7_copyFrom 42 = .ok (.aload_n 0, 1) := by decide +kernel
theorem dX7_copyFrom_43 : decode cX7_copyFrom 43 = .ok (.getfield 18, 3) := by decide +kernel
theorem dX7_copyFrom_46 : decode cX7_copyFrom 46 = .ok (.invokestatic 55, 3) := by decide +kernel
theorem dX7_copyFrom_49 : decode cX7_copyFrom 49 = .ok (.aload_n 1, 1) := by decide +kernel
theorem dX7_copyFrom_50 : decode cX7_copyFrom 50 = .ok (.getfield 23, 3) := by decide +kernel
theorem dX7_copyFrom_53 : decode cX7_copyFrom 53 = .ok (.aload_n 0, 1) := by decide +kernel
theorem dX7_copyFrom_54 : decode cX7_copyFrom 54 = .ok (.getfield 23, 3) := by decide +kernel
theorem dX7_copyFrom_57 : decode cX7_copyFrom 57 = .ok (.invokestatic 55, 3) := by decide +kernel
theorem dX7_copyFrom_60 : decode cX7_copyFrom 60 = .ok (.return_, 1) := by decide +kernel
def u_copyFrom  (m : M) : Option (M) :=
  lt (wrF m 3 0 (m 8 0)) (fun m1 => lt (wrF m1 3 5 (m1 8 5)) (fun m2 => Option.bind (b_copy 42 26 m2) (fun m3 => Option.bind (b_copy 43 27 m3) (fun m4 => Option.bind (b_copy 44 28 m4) (fun m5 => Option.bind (b_copy 45 29 m5) (fun m6 => some m6))))))
set_option maxRecDepth 20000 in
theorem t_u_copyFrom {G : GG} {x : Cx} (E : En G x cX7_copyFrom "WreckBoard$Rules" 3 none) (hn : xn x = 2)  (m : M) : Sm G x 0 [(0, .ref (G.2.1 3)), (1, .ref (G.2.1 8))] [] m (u_copyFrom m) KWv := by
  unfold u_copyFrom
  refine s_aload_n 0 E dX7_copyFrom_0 rfl rfl ?_
  refine s_aload_n 1 E dX7_copyFrom_1 rfl rfl ?_
  refine s_geti (k := 0) (T := TX7) 8 E rfl rfl rfl inX7 (by decide) W132 dX7_copyFrom_2 ?_
  refine s_put (k := 0) (T := TX7) (ty := .int) 3 E rfl rfl rfl inX7 tyX7 tyX7_ok nmX7 (by decide) W132 rfl (by decide +kernel) rfl rfl dX7_copyFrom_5 ?_
  refine s_ltm rfl (fun m1 => ?_)
  refine s_aload_n 0 E dX7_copyFrom_8 rfl rfl ?_
  refine s_aload_n 1 E dX7_copyFrom_9 rfl rfl ?_
  refine s_geti (k := 5) (T := TX7) 8 E rfl rfl rfl inX7 (by decide) W141 dX7_copyFrom_10 ?_
  refine s_put (k := 5) (T := TX7) (ty := .int) 3 E rfl rfl rfl inX7 tyX7 tyX7_ok nmX7 (by decide) W141 rfl (by decide +kernel) rfl rfl dX7_copyFrom_13 ?_
  refine s_ltm rfl (fun m2 => ?_)
  refine s_aload_n 1 E dX7_copyFrom_16 rfl rfl ?_
  refine s_getr (k := 1) (T := TX7) 8 E rfl rfl rfl inX7 (by decide) W135 dX7_copyFrom_17 ?_
  refine s_aload_n 0 E dX7_copyFrom_20 rfl rfl ?_
  refine s_getr (k := 1) (T := TX7) 3 E rfl rfl rfl inX7 (by decide) W135 dX7_copyFrom_21 ?_
  refine s_bd (fun m3 hz => ?_)
  refine s_cS (rest := []) E (C_b_copy (xl x) G 42 26 m2 hz) mdX0_copy W780 W781 W92 W782 rfl rfl (Nat.le_of_ble_eq_true rfl) ⟨by decide, by decide⟩ dX7_copyFrom_24 ?_
  refine s_aload_n 1 E dX7_copyFrom_27 rfl rfl ?_
  refine s_getr (k := 2) (T := TX7) 8 E rfl rfl rfl inX7 (by decide) W137 dX7_copyFrom_28 ?_
  refine s_aload_n 0 E dX7_copyFrom_31 rfl rfl ?_
  refine s_getr (k := 2) (T := TX7) 3 E rfl rfl rfl inX7 (by decide) W137 dX7_copyFrom_32 ?_
  refine s_bd (fun m4 hz => ?_)
  refine s_cS (rest := []) E (C_b_copy (xl x) G 43 27 m3 hz) mdX0_copy W780 W781 W92 W782 rfl rfl (Nat.le_of_ble_eq_true rfl) ⟨by decide, by decide⟩ dX7_copyFrom_35 ?_
  refine s_aload_n 1 E dX7_copyFrom_38 rfl rfl ?_
  refine s_getr (k := 3) (T := TX7) 8 E rfl rfl rfl inX7 (by decide) W139 dX7_copyFrom_39 ?_
  refine s_aload_n 0 E dX7_copyFrom_42 rfl rfl ?_
  refine s_getr (k := 3) (T := TX7) 3 E rfl rfl rfl inX7 (by decide) W139 dX7_copyFrom_43 ?_
  refine s_bd (fun m5 hz => ?_)
  refine s_cS (rest := []) E (C_b_copy (xl x) G 44 28 m4 hz) mdX0_copy W780 W781 W92 W782 rfl rfl (Nat.le_of_ble_eq_true rfl) ⟨by decide, by decide⟩ dX7_copyFrom_46 ?_
  refine s_aload_n 1 E dX7_copyFrom_49 rfl rfl ?_
  refine s_getr (k := 4) (T := TX7) 8 E rfl rfl rfl inX7 (by decide) W140 dX7_copyFrom_50 ?_
  refine s_aload_n 0 E dX7_copyFrom_53 rfl rfl ?_
  refine s_getr (k := 4) (T := TX7) 3 E rfl rfl rfl inX7 (by decide) W140 dX7_copyFrom_54 ?_
  refine s_bd (fun m6 hz => ?_)
  refine s_cS (rest := []) E (C_b_copy (xl x) G 45 29 m5 hz) mdX0_copy W780 W781 W92 W782 rfl rfl (Nat.le_of_ble_eq_true rfl) ⟨by decide, by decide⟩ dX7_copyFrom_57 ?_
  exact s_vret E rfl dX7_copyFrom_60
set_option maxRecDepth 20000 in
theorem C_u_copyFrom (l : Launch) (G : GG)  (m : M) {z : M} (hz : u_copyFrom m = some z) : Ct l G yX7_copyFrom cX7_copyFrom 2 none 3 [.ref (G.2.1 3), .ref (G.2.1 8)] m none z :=
  ct_of (K := KWv) (by decide) (Nat.le_of_ble_eq_true rfl) (congrArg (fun q => Option.bind q _) hz) (fun x hl hn E => (t_u_copyFrom E hn  m))
theorem mdX7_copyFrom : mdq yX7_copyFrom 1 := ⟨by decide, by decide, by decide +kernel⟩
theorem dX11_rules_0 : decode cX11_rules 0 = .ok (.aload_n 0, 1) := by decide +kernel
theorem dX11_rules_1 : decode cX11_rules 1 = .ok (.getfield 22, 3) := by decide +kernel
theorem dX11_rules_4 : decode cX11_rules 4 = .ok (.aload_n 0, 1) := by decide +kernel
theorem dX11_rules_5 : decode cX11_rules 5 = .ok (.getfield 29, 3) := by decide +kernel
theorem dX11_rules_8 : decode cX11_rules 8 = .ok (.invokevirtual 162, 3) := by decide +kernel
theorem dX11_rules_11 : decode cX11_rules 11 = .ok (.istore_n 1, 1) := by decide +kernel
theorem dX11_rules_12 : decode cX11_rules 12 = .ok (.aload_n 0, 1) := by decide +kernel
theorem dX11_rules_13 : decode cX11_rules 13 = .ok (.getfield 22, 3) := by decide +kernel
theorem dX11_rules_16 : decode cX11_rules 16 = .ok (.iconst 0, 1) := by decide +kernel
theorem dX11_rules_17 : decode cX11_rules 17 = .ok (.putfield 166, 3) := by decide +kernel
theorem dX11_rules_20 : decode cX11_rules 20 = .ok (.iload_n 1, 1) := by decide +kernel
theorem dX11_rules_21 : decode cX11_rules 21 = .ok (.ifCond .lt 8, 3) := by decide +kernel
theorem dX11_rules_24 : decode cX11_rules 24 = .ok (.bipush (-100), 2) := by decide +kernel
theorem dX11_rules_26 : decode cX11_rules 26 = .ok (.iload_n 1, 1) := by decide +kernel
theorem dX11_rules_27 : decode cX11_rules 27 = .ok (.isub, 1) := by decide +kernel
theorem dX11_rules_28 : decode cX11_rules 28 = .ok (.ireturn, 1) := by decide +kernel
theorem dX11_rules_29 : decode cX11_rules 29 = .ok (.aload_n 0, 1) := by decide +kernel
theorem dX11_rules_30 : decode cX11_rules 30 = .ok (.getfield 12, 3) := by decide +kernel
theorem dX11_rules_33 : decode cX11_rules 33 = .ok (.getfield 167, 3) := by decide +kernel
theorem dX11_rules_36 : decode cX11_rules 36 = .ok (.aload_n 0, 1) := by decide +kernel
theorem dX11_rules_37 : decode cX11_rules 37 = .ok (.getfield 29, 3) := by decide +kernel
theorem dX11_rules_40 : decode cX11_rules 40 = .ok (.invokevirtual 170, 3) := by decide +kernel
theorem dX11_rules_43 : decode cX11_rules 43 = .ok (.aload_n 0, 1) := by decide +kernel
theorem dX11_rules_44 : decode cX11_rules 44 = .ok (.getfield 12, 3) := by decide +kernel
theorem dX11_rules_47 : decode cX11_rules 47 = .ok (.getfield 167, 3) := by decide +kernel
theorem dX11_rules_50 : decode cX11_rules 50 = .ok (.getfield 174, 3) := by decide +kernel
theorem dX11_rules_53 : decode cX11_rules 53 = .ok (.ireturn, 1) := by decide +kernel
def k_rules  (m : M) : Option (Int32 × M) :=
  Option.bind (t_readInto m) (fun z1 => lt (wrF z1.2 7 0 (0 : Int32)) (fun m2 => (if z1.1 < 0 then Option.bind (u_copyFrom m2) (fun m3 => some ((m3 3 0), m3)) else some (((-100 : Int32) - z1.1), m2))))
set_option maxRecDepth 20000 in
theorem t_k_rules {G : GG} {x : Cx} (E : En G x cX11_rules "WreckBoard" 23 (some .int)) (hn : xn x = 2)  (m : M) : Sm G x 0 [(0, .ref (G.2.1 0))] [] m (k_rules m) KWi := by
  unfold k_rules
  refine s_aload_n 0 E dX11_rules_0 rfl rfl ?_
  refine s_getr (k := 3) (T := TX11) 0 E rfl rfl rfl inX11 (by decide) W363 dX11_rules_1 ?_
  refine s_aload_n 0 E dX11_rules_4 rfl rfl ?_
  refine s_getr (k := 4) (T := TX11) 0 E rfl rfl rfl inX11 (by decide) W364 dX11_rules_5 ?_
  refine s_bd (fun z1 hz => ?_)
  refine s_cV (rest := []) E (C_t_readInto (xl x) G  m hz) mdX9_readInto W599 W600 W601 W101 W602 rfl rfl rfl rfl (Nat.le_of_ble_eq_true rfl) ⟨by decide, by decide⟩ dX11_rules_8 ?_
  refine s_istore_n (lv' := [(0, .ref (G.2.1 0)), (1, .int z1.1)]) [1, 0] E dX11_rules_11 rfl (by rw [hn]; decide) rfl ?_
  refine s_aload_n 0 E dX11_rules_12 rfl rfl ?_
  refine s_getr (k := 3) (T := TX11) 0 E rfl rfl rfl inX11 (by decide) W363 dX11_rules_13 ?_
  refine s_iconst (v := (0 : Int32)) E dX11_rules_16 (by decide) ?_
  refine s_put (k := 0) (T := TX9) (ty := .int) 7 E rfl rfl rfl inX9 tyX9 tyX9_ok nmX9 (by decide) W310 rfl (by decide +kernel) rfl rfl dX11_rules_17 ?_
  refine s_ltm rfl (fun m2 => ?_)
  refine s_iload_n 1 E dX11_rules_20 rfl rfl ?_
  refine s_if_lt 29 E dX11_rules_21 (by decide) ?_ ?_
  · refine s_aload_n 0 E dX11_rules_29 rfl rfl ?_
    refine s_getr (k := 0) (T := TX11) 0 E rfl rfl rfl inX11 (by decide) W360 dX11_rules_30 ?_
    refine s_getr (k := 16) (T := TX0) 1 E rfl rfl rfl inX0 (by decide) W259 dX11_rules_33 ?_
    refine s_aload_n 0 E dX11_rules_36 rfl rfl ?_
    refine s_getr (k := 4) (T := TX11) 0 E rfl rfl rfl inX11 (by decide) W364 dX11_rules_37 ?_
    refine s_bd (fun m3 hz => ?_)
    refine s_cV (rest := []) E (C_u_copyFrom (xl x) G  m2 hz) mdX7_copyFrom W776 W777 W778 W93 W779 rfl rfl rfl rfl (Nat.le_of_ble_eq_true rfl) ⟨by decide, by decide⟩ dX11_rules_40 ?_
    refine s_aload_n 0 E dX11_rules_43 rfl rfl ?_
    refine s_getr (k := 0) (T := TX11) 0 E rfl rfl rfl inX11 (by decide) W360 dX11_rules_44 ?_
    refine s_getr (k := 16) (T := TX0) 1 E rfl rfl rfl inX0 (by decide) W259 dX11_rules_47 ?_
    refine s_geti (k := 0) (T := TX7) 3 E rfl rfl rfl inX7 (by decide) W134 dX11_rules_50 ?_
    exact s_iret E rfl dX11_rules_53
  · refine s_bipush (v := (-100 : Int32)) E dX11_rules_24 (by decide) ?_
    refine s_iload_n 1 E dX11_rules_26 rfl rfl ?_
    refine s_isub E dX11_rules_27 ?_
    exact s_iret E rfl dX11_rules_28
set_option maxRecDepth 20000 in
theorem C_k_rules (l : Launch) (G : GG)  (m : M) {z : Int32 × M} (hz : k_rules m = some z) : Ct l G yX11_rules cX11_rules 2 (some .int) 23 [.ref (G.2.1 0)] m (some (.int z.1)) z.2 :=
  ct_of (K := KWi) (by decide) (Nat.le_of_ble_eq_true rfl) (congrArg (fun q => Option.bind q _) hz) (fun x hl hn E => (t_k_rules E hn  m))
theorem dX0_isLost_0 : decode cX0_isLost 0 = .ok (.iload_n 0, 1) := by decide +kernel
theorem dX0_isLost_1 : decode cX0_isLost 1 = .ok (.invokestatic 110, 3) := by decide +kernel
theorem dX0_isLost_4 : decode cX0_isLost 4 = .ok (.ifCond .le 16, 3) := by decide +kernel
theorem dX0_isLost_7 : decode cX0_isLost 7 = .ok (.iload_n 1, 1) := by decide +kernel
theorem dX0_isLost_8 : decode cX0_isLost 8 = .ok (.iconst 3, 1) := by decide +kernel
theorem dX0_isLost_9 : decode cX0_isLost 9 = .ok (.iload_n 0, 1) := by decide +kernel
theorem dX0_isLost_10 : decode cX0_isLost 10 = .ok (.iconst 4, 1) := by decide +kernel
theorem dX0_isLost_11 : decode cX0_isLost 11 = .ok (.irem, 1) := by decide +kernel
theorem dX0_isLost_12 : decode cX0_isLost 12 = .ok (.imul, 1) := by decide +kernel
theorem dX0_isLost_13 : decode cX0_isLost 13 = .ok (.if_icmp .ge 7, 3) := by decide +kernel
theorem dX0_isLost_16 : decode cX0_isLost 16 = .ok (.iconst 1, 1) := by decide +kernel
theorem dX0_isLost_17 : decode cX0_isLost 17 = .ok (.goto 4, 3) := by decide +kernel
theorem dX0_isLost_20 : decode cX0_isLost 20 = .ok (.iconst 0, 1) := by decide +kernel
theorem dX0_isLost_21 : decode cX0_isLost 21 = .ok (.ireturn, 1) := by decide +kernel
def b_isLost (a0 : Int32) (a1 : Int32) (m : M) : Option (Int32) :=
  Option.bind (b_valueOf a0 m) (fun v1 => (if v1 ≤ 0 then some (0 : Int32) else (if ((3 : Int32) * (a0 - a0 / (4 : Int32) * (4 : Int32))) ≤ a1 then some (0 : Int32) else some (1 : Int32))))
set_option maxRecDepth 20000 in
theorem t_b_isLost {G : GG} {x : Cx} (E : En G x cX0_isLost "WreckBoard$Board" 2 (some .boolean)) (hn : xn x = 2) (a0 : Int32) (a1 : Int32) (m : M) : Sm G x 0 [(0, .int a0), (1, .int a1)] [] m (b_isLost a0 a1 m) (KRi m) := by
  unfold b_isLost
  refine s_iload_n 0 E dX0_isLost_0 rfl rfl ?_
  refine s_bd (fun v1 hz => ?_)
  refine s_cS (rest := []) E (C_b_valueOf (xl x) G a0 m hz) mdX0_valueOf W435 W436 W92 W437 rfl rfl (Nat.le_of_ble_eq_true rfl) ⟨by decide, by decide⟩ dX0_isLost_1 ?_
  refine s_if_le 20 E dX0_isLost_4 (by decide) ?_ ?_
  · refine s_iconst (v := (0 : Int32)) E dX0_isLost_20 (by decide) ?_
    exact s_zret E (by decide) rfl dX0_isLost_21
  · refine s_iload_n 1 E dX0_isLost_7 rfl rfl ?_
    refine s_iconst (v := (3 : Int32)) E dX0_isLost_8 (by decide) ?_
    refine s_iload_n 0 E dX0_isLost_9 rfl rfl ?_
    refine s_iconst (v := (4 : Int32)) E dX0_isLost_10 (by decide) ?_
    refine s_iremc E dX0_isLost_11 (by decide) ?_
    refine s_imul E dX0_isLost_12 ?_
    refine s_icmp_ge 20 E dX0_isLost_13 (by decide) ?_ ?_
    · refine s_iconst (v := (0 : Int32)) E dX0_isLost_20 (by decide) ?_
      exact s_zret E (by decide) rfl dX0_isLost_21
    · refine s_iconst (v := (1 : Int32)) E dX0_isLost_16 (by decide) ?_
      refine s_goto 21 E dX0_isLost_17 (by decide) ?_
      exact s_zret E (by decide) rfl dX0_isLost_21
set_option maxRecDepth 20000 in
theorem C_b_isLost (l : Launch) (G : GG) (a0 : Int32) (a1 : Int32) (m : M) {z : Int32} (hz : b_isLost a0 a1 m = some z) : Ct l G yX0_isLost cX0_isLost 2 (some .boolean) 2 [.int a0, .int a1] m (some (.int z)) m :=
  ct_of (K := (KRi m)) (by decide) (Nat.le_of_ble_eq_true rfl) (congrArg (fun q => Option.bind q _) hz) (fun x hl hn E => (t_b_isLost E hn a0 a1 m))
theorem mdX0_isLost : mdq yX0_isLost 2 := ⟨by decide, by decide, by decide +kernel⟩
theorem dX0_nearerToFive_0 : decode cX0_nearerToFive 0 = .ok (.iload_n 0, 1) := by decide +kernel
theorem dX0_nearerToFive_1 : decode cX0_nearerToFive 1 = .ok (.iconst 5, 1) := by decide +kernel
theorem dX0_nearerToFive_2 : decode cX0_nearerToFive 2 = .ok (.if_icmp .ge 7, 3) := by decide +kernel
theorem dX0_nearerToFive_5 : decode cX0_nearerToFive 5 = .ok (.iload_n 0, 1) := by decide +kernel
theorem dX0_nearerToFive_6 : decode cX0_nearerToFive 6 = .ok (.iconst 1, 1) := by decide +kernel
theorem dX0_nearerToFive_7 : decode cX0_nearerToFive 7 = .ok (.iadd, 1) := by decide +kernel
theorem dX0_nearerToFive_8 : decode cX0_nearerToFive 8 = .ok (.ireturn, 1) := by decide +kernel
theorem dX0_nearerToFive_9 : decode cX0_nearerToFive 9 = .ok (.iload_n 0, 1) := by decide +kernel
theorem dX0_nearerToFive_10 : decode cX0_nearerToFive 10 = .ok (.iconst 5, 1) := by decide +kernel
theorem dX0_nearerToFive_11 : decode cX0_nearerToFive 11 = .ok (.if_icmp .le 9, 3) := by decide +kernel
theorem dX0_nearerToFive_14 : decode cX0_nearerToFive 14 = .ok (.iload_n 0, 1) := by decide +kernel
theorem dX0_nearerToFive_15 : decode cX0_nearerToFive 15 = .ok (.iconst 1, 1) := by decide +kernel
theorem dX0_nearerToFive_16 : decode cX0_nearerToFive 16 = .ok (.isub, 1) := by decide +kernel
theorem dX0_nearerToFive_17 : decode cX0_nearerToFive 17 = .ok (.goto 4, 3) := by decide +kernel
theorem dX0_nearerToFive_20 : decode cX0_nearerToFive 20 = .ok (.iload_n 0, 1) := by decide +kernel
theorem dX0_nearerToFive_21 : decode cX0_nearerToFive 21 = .ok (.ireturn, 1) := by decide +kernel
def b_nearerToFive (a0 : Int32) (m : M) : Option (Int32) :=
  (if (5 : Int32) ≤ a0 then (if a0 ≤ (5 : Int32) then some a0 else some (a0 - (1 : Int32))) else some (a0 + (1 : Int32)))
set_option maxRecDepth 20000 in
theorem t_b_nearerToFive {G : GG} {x : Cx} (E : En G x cX0_nearerToFive "WreckBoard$Board" 1 (some .int)) (hn : xn x = 1) (a0 : Int32) (m : M) : Sm G x 0 [(0, .int a0)] [] m (b_nearerToFive a0 m) (KRi m) := by
  unfold b_nearerToFive
  refine s_iload_n 0 E dX0_nearerToFive_0 rfl rfl ?_
  refine s_iconst (v := (5 : Int32)) E dX0_nearerToFive_1 (by decide) ?_
  refine s_icmp_ge 9 E dX0_nearerToFive_2 (by decide) ?_ ?_
  · refine s_iload_n 0 E dX0_nearerToFive_9 rfl rfl ?_
    refine s_iconst (v := (5 : Int32)) E dX0_nearerToFive_10 (by decide) ?_
    refine s_icmp_le 20 E dX0_nearerToFive_11 (by decide) ?_ ?_
    · refine s_iload_n 0 E dX0_nearerToFive_20 rfl rfl ?_
      exact s_iret E rfl dX0_nearerToFive_21
    · refine s_iload_n 0 E dX0_nearerToFive_14 rfl rfl ?_
      refine s_iconst (v := (1 : Int32)) E dX0_nearerToFive_15 (by decide) ?_
      refine s_isub E dX0_nearerToFive_16 ?_
      refine s_goto 21 E dX0_nearerToFive_17 (by decide) ?_
      exact s_iret E rfl dX0_nearerToFive_21
  · refine s_iload_n 0 E dX0_nearerToFive_5 rfl rfl ?_
    refine s_iconst (v := (1 : Int32)) E dX0_nearerToFive_6 (by decide) ?_
    refine s_iadd E dX0_nearerToFive_7 ?_
    exact s_iret E rfl dX0_nearerToFive_8
set_option maxRecDepth 20000 in
theorem C_b_nearerToFive (l : Launch) (G : GG) (a0 : Int32) (m : M) {z : Int32} (hz : b_nearerToFive a0 m = some z) : Ct l G yX0_nearerToFive cX0_nearerToFive 1 (some .int) 1 [.int a0] m (some (.int z)) m :=
  ct_of (K := (KRi m)) (by decide) (Nat.le_of_ble_eq_true rfl) (congrArg (fun q => Option.bind q _) hz) (fun x hl hn E => (t_b_nearerToFive E hn a0 m))
theorem mdX0_nearerToFive : mdq yX0_nearerToFive 1 := ⟨by decide, by decide, by decide +kernel⟩
theorem dX0_fundOf_0 : decode cX0_fundOf 0 = .ok (.iconst 5, 1) := by decide +kernel
theorem dX0_fundOf_1 : decode cX0_fundOf 1 = .ok (.iload_n 0, 1) := by decide +kernel
theorem dX0_fundOf_2 : decode cX0_fundOf 2 = .ok (.invokestatic 110, 3) := by decide +kernel
theorem dX0_fundOf_5 : decode cX0_fundOf 5 = .ok (.imul, 1) := by decide +kernel
theorem dX0_fundOf_6 : decode cX0_fundOf 6 = .ok (.ireturn, 1) := by decide +kernel
def b_fundOf (a0 : Int32) (m : M) : Option (Int32) :=
  Option.bind (b_valueOf a0 m) (fun v1 => some ((5 : Int32) * v1))
set_option maxRecDepth 20000 in
theorem t_b_fundOf {G : GG} {x : Cx} (E : En G x cX0_fundOf "WreckBoard$Board" 2 (some .int)) (hn : xn x = 1) (a0 : Int32) (m : M) : Sm G x 0 [(0, .int a0)] [] m (b_fundOf a0 m) (KRi m) := by
  unfold b_fundOf
  refine s_iconst (v := (5 : Int32)) E dX0_fundOf_0 (by decide) ?_
  refine s_iload_n 0 E dX0_fundOf_1 rfl rfl ?_
  refine s_bd (fun v1 hz => ?_)
  refine s_cS (rest := [.int (5 : Int32)]) E (C_b_valueOf (xl x) G a0 m hz) mdX0_valueOf W435 W436 W92 W437 rfl rfl (Nat.le_of_ble_eq_true rfl) ⟨by decide, by decide⟩ dX0_fundOf_2 ?_
  refine s_imul E dX0_fundOf_5 ?_
  exact s_iret E rfl dX0_fundOf_6
set_option maxRecDepth 20000 in
theorem C_b_fundOf (l : Launch) (G : GG) (a0 : Int32) (m : M) {z : Int32} (hz : b_fundOf a0 m = some z) : Ct l G yX0_fundOf cX0_fundOf 1 (some .int) 2 [.int a0] m (some (.int z)) m :=
  ct_of (K := (KRi m)) (by decide) (Nat.le_of_ble_eq_true rfl) (congrArg (fun q => Option.bind q _) hz) (fun x hl hn E => (t_b_fundOf E hn a0 m))
theorem mdX0_fundOf : mdq yX0_fundOf 1 := ⟨by decide, by decide, by decide +kernel⟩
theorem dX0_held_0 : decode cX0_held 0 = .ok (.iconst 0, 1) := by decide +kernel
theorem dX0_held_1 : decode cX0_held 1 = .ok (.bipush 9, 2) := by decide +kernel
theorem dX0_held_3 : decode cX0_held 3 = .ok (.iload_n 0, 1) := by decide +kernel
theorem dX0_held_4 : decode cX0_held 4 = .ok (.invokestatic 96, 3) := by decide +kernel
theorem dX0_held_7 : decode cX0_held 7 = .ok (.invokestatic 121, 3) := by decide +kernel
theorem dX0_held_10 : decode cX0_held 10 = .ok (.ireturn, 1) := by decide +kernel
def b_held (a0 : Int32) (m : M) : Option (Int32) :=
  some (mxI (0 : Int32) (mnI (9 : Int32) a0))
set_option maxRecDepth 20000 in
theorem t_b_held {G : GG} {x : Cx} (E : En G x cX0_held "WreckBoard$Board" 2 (some .int)) (hn : xn x = 1) (a0 : Int32) (m : M) : Sm G x 0 [(0, .int a0)] [] m (b_held a0 m) (KRi m) := by
  unfold b_held
  refine s_iconst (v := (0 : Int32)) E dX0_held_0 (by decide) ?_
  refine s_bipush (v := (9 : Int32)) E dX0_held_1 (by decide) ?_
  refine s_iload_n 0 E dX0_held_3 rfl rfl ?_
  refine s_mmin E W783 W488 W104 W489 (by decide) (Nat.le_of_ble_eq_true rfl) dX0_held_4 ?_
  refine s_mmax E W496 W497 W104 W498 (by decide) (Nat.le_of_ble_eq_true rfl) dX0_held_7 ?_
  exact s_iret E rfl dX0_held_10
set_option maxRecDepth 20000 in
theorem C_b_held (l : Launch) (G : GG) (a0 : Int32) (m : M) {z : Int32} (hz : b_held a0 m = some z) : Ct l G yX0_held cX0_held 1 (some .int) 2 [.int a0] m (some (.int z)) m :=
  ct_of (K := (KRi m)) (by decide) (Nat.le_of_ble_eq_true rfl) (congrArg (fun q => Option.bind q _) hz) (fun x hl hn E => (t_b_held E hn a0 m))
theorem mdX0_held : mdq yX0_held 1 := ⟨by decide, by decide, by decide +kernel⟩
theorem dX0_does_0 : decode cX0_does 0 = .ok (.aload_n 0, 1) := by decide +kernel
theorem dX0_does_1 : decode cX0_does 1 = .ok (.iload_n 1, 1) := by decide +kernel
theorem dX0_does_2 : decode cX0_does 2 = .ok (.invokevirtual 145, 3) := by decide +kernel
theorem dX0_does_5 : decode cX0_does 5 = .ok (.istore_n 3, 1) := by decide +kernel
theorem dX0_does_6 : decode cX0_does 6 = .ok (.iload_n 3, 1) := by decide +kernel
theorem dX0_does_7 : decode cX0_does 7 = .ok (.iconst 1, 1) := by decide +kernel
theorem dX0_does_8 : decode cX0_does 8 = .ok (.if_icmp .ne 5, 3) := by decide +kernel
theorem dX0_does_11 : decode cX0_does 11 = .ok (.iconst 0, 1) := by decide +kernel
theorem dX0_does_12 : decode cX0_does 12 = .ok (.ireturn, 1) := by decide +kernel
theorem dX0_does_13 : decode cX0_does 13 = .ok (.iload_n 3, 1) := by decide +kernel
theorem dX0_does_14 : decode cX0_does 14 = .ok (.iload_n 2, 1) := by decide +kernel
theorem dX0_does_15 : decode cX0_does 15 = .ok (.invokestatic 148, 3) := by decide +kernel
theorem dX0_does_18 : decode cX0_does 18 = .ok (.ifCond .ne 23, 3) := by decide +kernel
theorem dX0_does_21 : decode cX0_does 21 = .ok (.aload_n 0, 1) := by decide +kernel
theorem dX0_does_22 : decode cX0_does 22 = .ok (.getfield 25, 3) := by decide +kernel
theorem dX0_does_25 : decode cX0_does 25 = .ok (.iload_n 1, 1) := by decide +kernel
theorem dX0_does_26 : decode cX0_does 26 = .ok (.iconst 0, 1) := by decide +kernel
theorem dX0_does_27 : decode cX0_does 27 = .ok (.aload_n 0, 1) := by decide +kernel
theorem dX0_does_28 : decode cX0_does 28 = .ok (.getfield 25, 3) := by decide +kernel
theorem dX0_does_31 : decode cX0_does 31 = .ok (.iload_n 1, 1) := by decide +kernel
theorem dX0_does_32 : decode cX0_does 32 = .ok (.iaload, 1) := by decide +kernel
theorem dX0_does_33 : decode cX0_does 33 = .ok (.iconst 1, 1) := by decide +kernel
theorem dX0_does_34 : decode cX0_does 34 = .ok (.isub, 1) := by decide +kernel
theorem dX0_does_35 : decode cX0_does 35 = .ok (.invokestatic 121, 3) := by decide +kernel
theorem dX0_does_38 : decode cX0_does 38 = .ok (.iastore, 1) := by decide +kernel
theorem dX0_does_39 : decode cX0_does 39 = .ok (.iconst 0, 1) := by decide +kernel
theorem dX0_does_40 : decode cX0_does 40 = .ok (.ireturn, 1) := by decide +kernel
theorem dX0_does_41 : decode cX0_does 41 = .ok (.aload_n 0, 1) := by decide +kernel
theorem dX0_does_42 : decode cX0_does 42 = .ok (.iload_n 3, 1) := by decide +kernel
theorem dX0_does_43 : decode cX0_does 43 = .ok (.ifCond .ne 12, 3) := by decide +kernel
theorem dX0_does_46 : decode cX0_does 46 = .ok (.aload_n 0, 1) := by decide +kernel
theorem dX0_does_47 : decode cX0_does 47 = .ok (.getfield 15, 3) := by decide +kernel
theorem dX0_does_50 : decode cX0_does 50 = .ok (.iconst 2, 1) := by decide +kernel
theorem dX0_does_51 : decode cX0_does 51 = .ok (.isub, 1) := by decide +kernel
theorem dX0_does_52 : decode cX0_does 52 = .ok (.goto 9, 3) := by decide +kernel
theorem dX0_does_55 : decode cX0_does 55 = .ok (.aload_n 0, 1) := by decide +kernel
theorem dX0_does_56 : decode cX0_does 56 = .ok (.getfield 15, 3) := by decide +kernel
theorem dX0_does_59 : decode cX0_does 59 = .ok (.iconst 2, 1) := by decide +kernel
theorem dX0_does_60 : decode cX0_does 60 = .ok (.iadd, 1) := by decide +kernel
theorem dX0_does_61 : decode cX0_does 61 = .ok (.invokestatic 169, 3) := by decide +kernel
theorem dX0_does_64 : decode cX0_does 64 = .ok (.putfield 15, 3) := by decide +kernel
theorem dX0_does_67 : decode cX0_does 67 = .ok (.aload_n 0, 1) := by decide +kernel
theorem dX0_does_68 : decode cX0_does 68 = .ok (.dup, 1) := by decide +kernel
theorem dX0_does_69 : decode cX0_does 69 = .ok (.getfield 86, 3) := by decide +kernel
theorem dX0_does_72 : decode cX0_does 72 = .ok (.iconst 1, 1) := by decide +kernel
theorem dX0_does_73 : decode cX0_does 73 = .ok (.iload_n 1, 1) := by decide +kernel
theorem dX0_does_74 : decode cX0_does 74 = .ok (.ishl, 1) := by decide +kernel
theorem dX0_does_75 : decode cX0_does 75 = .ok (.ior, 1) := by decide +kernel
theorem dX0_does_76 : decode cX0_does 76 = .ok (.putfield 86, 3) := by decide +kernel
theorem dX0_does_79 : decode cX0_does 79 = .ok (.iconst 2, 1) := by decide +kernel
theorem dX0_does_80 : decode cX0_does 80 = .ok (.ireturn, 1) := by decide +kernel
def b_does_61 (a1 : Int32) (s1 : Int32) (m : M) : Option (Int32 × M) :=
  Option.bind (b_held s1 m) (fun v1 => lt (wrF m 1 2 v1) (fun m2 => lt (wrF m2 1 7 ((m2 1 7) ||| ((1 : Int32) <<< (a1 &&& 31)))) (fun m3 => some ((2 : Int32), m3))))
set_option maxRecDepth 20000 in
theorem t_b_does_61 {G : GG} {x : Cx} (E : En G x cX0_does "WreckBoard$Board" 4 (some .int)) (hn : xn x = 4) (a1 : Int32) (s1 : Int32) (m : M) : Sm G x 61 [(0, .ref (G.2.1 1)), (1, .int a1)] [.int s1, .ref (G.2.1 1)] m (b_does_61 a1 s1 m) KWi := by
  unfold b_does_61
  refine s_bd (fun v1 hz => ?_)
  refine s_cS (rest := [.ref (G.2.1 1)]) E (C_b_held (xl x) G s1 m hz) mdX0_held W806 W807 W92 W808 rfl rfl (Nat.le_of_ble_eq_true rfl) ⟨by decide, by decide⟩ dX0_does_61 ?_
  refine s_put (k := 2) (T := TX0) (ty := .int) 1 E rfl rfl rfl inX0 tyX0 tyX0_ok nmX0 (by decide) W227 rfl (by decide +kernel) rfl rfl dX0_does_64 ?_
  refine s_ltm rfl (fun m2 => ?_)
  refine s_aload_n 0 E dX0_does_67 rfl rfl ?_
  refine s_dup E dX0_does_68 rfl ?_
  refine s_geti (k := 7) (T := TX0) 1 E rfl rfl rfl inX0 (by decide) W238 dX0_does_69 ?_
  refine s_iconst (v := (1 : Int32)) E dX0_does_72 (by decide) ?_
  refine s_iload_n 1 E dX0_does_73 rfl rfl ?_
  refine s_ishl E dX0_does_74 ?_
  refine s_ior E dX0_does_75 ?_
  refine s_put (k := 7) (T := TX0) (ty := .int) 1 E rfl rfl rfl inX0 tyX0 tyX0_ok nmX0 (by decide) W238 rfl (by decide +kernel) rfl rfl dX0_does_76 ?_
  refine s_ltm rfl (fun m3 => ?_)
  refine s_iconst (v := (2 : Int32)) E dX0_does_79 (by decide) ?_
  exact s_iret E rfl dX0_does_80
def b_does (a1 : Int32) (a2 : Int32) (m : M) : Option (Int32 × M) :=
  Option.bind (b_willOf a1 m) (fun v1 => (if v1 = (1 : Int32) then some ((0 : Int32), m) else Option.bind (b_isCarried v1 a2 m) (fun v2 => (if v2 = 0 then Option.bind (rdI m 11 a1) (fun v3 => Option.bind (wrI m 11 a1 (mxI (0 : Int32) (v3 - (1 : Int32)))) (fun m4 => some ((0 : Int32), m4))) else (if v1 = 0 then b_does_61 a1 ((m 1 2) - (2 : Int32)) m else b_does_61 a1 ((m 1 2) + (2 : Int32)) m)))))
set_option maxRecDepth 20000 in
theorem t_b_does {G : GG} {x : Cx} (E : En G x cX0_does "WreckBoard$Board" 4 (some .int)) (hn : xn x = 4) (a1 : Int32) (a2 : Int32) (m : M) : Sm G x 0 [(0, .ref (G.2.1 1)), (1, .int a1), (2, .int a2)] [] m (b_does a1 a2 m) KWi := by
  unfold b_does
  refine s_aload_n 0 E dX0_does_0 rfl rfl ?_
  refine s_iload_n 1 E dX0_does_1 rfl rfl ?_
  refine s_bd (fun v1 hz => ?_)
  refine s_cV (rest := []) E (C_b_willOf (xl x) G a1 m hz) mdX0_willOf W511 W512 W513 W92 W514 rfl rfl rfl rfl (Nat.le_of_ble_eq_true rfl) ⟨by decide, by decide⟩ dX0_does_2 ?_
  refine s_istore_n (lv' := [(0, .ref (G.2.1 1)), (1, .int a1), (2, .int a2), (3, .int v1)]) [1, 2, 3, 0] E dX0_does_5 rfl (by rw [hn]; decide) rfl ?_
  refine s_iload_n 3 E dX0_does_6 rfl rfl ?_
  refine s_iconst (v := (1 : Int32)) E dX0_does_7 (by decide) ?_
  refine s_icmp_ne 13 E dX0_does_8 (by decide) ?_ ?_
  · refine s_iload_n 3 E dX0_does_13 rfl rfl ?_
    refine s_iload_n 2 E dX0_does_14 rfl rfl ?_
    refine s_bd (fun v2 hz => ?_)
    refine s_cS (rest := []) E (C_b_isCarried (xl x) G v1 a2 m hz) mdX0_isCarried W531 W532 W92 W533 rfl rfl (Nat.le_of_ble_eq_true rfl) ⟨by decide, by decide⟩ dX0_does_15 ?_
    refine s_if_ne 41 E dX0_does_18 (by decide) ?_ ?_
    · refine s_aload_n 0 E dX0_does_41 rfl rfl ?_
      refine s_iload_n 3 E dX0_does_42 rfl rfl ?_
      refine s_if_ne 55 E dX0_does_43 (by decide) ?_ ?_
      · refine s_aload_n 0 E dX0_does_55 rfl rfl ?_
        refine s_geti (k := 2) (T := TX0) 1 E rfl rfl rfl inX0 (by decide) W227 dX0_does_56 ?_
        refine s_iconst (v := (2 : Int32)) E dX0_does_59 (by decide) ?_
        refine s_iadd E dX0_does_60 ?_
        refine s_sub (lv' := [(0, .ref (G.2.1 1)), (1, .int a1)]) [0, 1] rfl ?_
        exact t_b_does_61 E hn a1 ((m 1 2) + (2 : Int32)) m
      · refine s_aload_n 0 E dX0_does_46 rfl rfl ?_
        refine s_geti (k := 2) (T := TX0) 1 E rfl rfl rfl inX0 (by decide) W227 dX0_does_47 ?_
        refine s_iconst (v := (2 : Int32)) E dX0_does_50 (by decide) ?_
        refine s_isub E dX0_does_51 ?_
        refine s_goto 61 E dX0_does_52 (by decide) ?_
        refine s_sub (lv' := [(0, .ref (G.2.1 1)), (1, .int a1)]) [0, 1] rfl ?_
        exact t_b_does_61 E hn a1 ((m 1 2) - (2 : Int32)) m
    · refine s_aload_n 0 E dX0_does_21 rfl rfl ?_
      refine s_getr (k := 10) (T := TX0) 1 E rfl rfl rfl inX0 (by decide) W244 dX0_does_22 ?_
      refine s_iload_n 1 E dX0_does_25 rfl rfl ?_
      refine s_iconst (v := (0 : Int32)) E dX0_does_26 (by decide) ?_
      refine s_aload_n 0 E dX0_does_27 rfl rfl ?_
      refine s_getr (k := 10) (T := TX0) 1 E rfl rfl rfl inX0 (by decide) W244 dX0_does_28 ?_
      refine s_iload_n 1 E dX0_does_31 rfl rfl ?_
      refine s_iald E dX0_does_32 (fun v3 => ?_)
      refine s_iconst (v := (1 : Int32)) E dX0_does_33 (by decide) ?_
      refine s_isub E dX0_does_34 ?_
      refine s_mmax E W496 W497 W104 W498 (by decide) (Nat.le_of_ble_eq_true rfl) dX0_does_35 ?_
      refine s_iast E dX0_does_38 (fun m4 => ?_)
      refine s_iconst (v := (0 : Int32)) E dX0_does_39 (by decide) ?_
      exact s_iret E rfl dX0_does_40
  · refine s_iconst (v := (0 : Int32)) E dX0_does_11 (by decide) ?_
    exact s_iret E rfl dX0_does_12
set_option maxRecDepth 20000 in
theorem C_b_does (l : Launch) (G : GG) (a1 : Int32) (a2 : Int32) (m : M) {z : Int32 × M} (hz : b_does a1 a2 m = some z) : Ct l G yX0_does cX0_does 4 (some .int) 4 [.ref (G.2.1 1), .int a1, .int a2] m (some (.int z.1)) z.2 :=
  ct_of (K := KWi) (by decide) (Nat.le_of_ble_eq_true rfl) (congrArg (fun q => Option.bind q _) hz) (fun x hl hn E => (t_b_does E hn a1 a2 m))
theorem mdX0_does : mdq yX0_does 2 := ⟨by decide, by decide, by decide +kernel⟩
theorem dX0_goesBy_0 : decode cX0_goesBy 0 = .ok (.iload_n 1, 1) := by decide +kernel
theorem dX0_goesBy_1 : decode cX0_goesBy 1 = .ok (.ifCond .le 14, 3) := by decide +kernel
theorem dX0_goesBy_4 : decode cX0_goesBy 4 = .ok (.aload_n 0, 1) := by decide +kernel
theorem dX0_goesBy_5 : decode cX0_goesBy 5 = .ok (.iload_n 1, 1) := by decide +kernel
theorem dX0_goesBy_6 : decode cX0_goesBy 6 = .ok (.iconst 1, 1) := by decide +kernel
theorem dX0_goesBy_7 : decode cX0_goesBy 7 = .ok (.isub, 1) := by decide +kernel
theorem dX0_goesBy_8 : decode cX0_goesBy 8 = .ok (.iload_n 2, 1) := by decide +kernel
theorem dX0_goesBy_9 : decode cX0_goesBy 9 = .ok (.invokevirtual 151, 3) := by decide +kernel
theorem dX0_goesBy_12 : decode cX0_goesBy 12 = .ok (.goto 4, 3) := by decide +kernel
theorem dX0_goesBy_15 : decode cX0_goesBy 15 = .ok (.iconst 0, 1) := by decide +kernel
theorem dX0_goesBy_16 : decode cX0_goesBy 16 = .ok (.istore_n 3, 1) := by decide +kernel
theorem dX0_goesBy_17 : decode cX0_goesBy 17 = .ok (.aload_n 0, 1) := by decide +kernel
theorem dX0_goesBy_18 : decode cX0_goesBy 18 = .ok (.invokevirtual 106, 3) := by decide +kernel
theorem dX0_goesBy_21 : decode cX0_goesBy 21 = .ok (.istore 4, 2) := by decide +kernel
theorem dX0_goesBy_23 : decode cX0_goesBy 23 = .ok (.iload 4, 2) := by decide +kernel
theorem dX0_goesBy_25 : decode cX0_goesBy 25 = .ok (.aload_n 0, 1) := by decide +kernel
theorem dX0_goesBy_26 : decode cX0_goesBy 26 = .ok (.getfield 15, 3) := by decide +kernel
theorem dX0_goesBy_29 : decode cX0_goesBy 29 = .ok (.invokestatic 154, 3) := by decide +kernel
theorem dX0_goesBy_32 : decode cX0_goesBy 32 = .ok (.ifCond .eq 46, 3) := by decide +kernel
theorem dX0_goesBy_35 : decode cX0_goesBy 35 = .ok (.aload_n 0, 1) := by decide +kernel
theorem dX0_goesBy_36 : decode cX0_goesBy 36 = .ok (.dup, 1) := by decide +kernel
theorem dX0_goesBy_37 : decode cX0_goesBy 37 = .ok (.getfield 157, 3) := by decide +kernel
theorem dX0_goesBy_40 : decode cX0_goesBy 40 = .ok (.iconst 1, 1) := by decide +kernel
theorem dX0_goesBy_41 : decode cX0_goesBy 41 = .ok (.iadd, 1) := by decide +kernel
theorem dX0_goesBy_42 : decode cX0_goesBy 42 = .ok (.putfield 157, 3) := by decide +kernel
theorem dX0_goesBy_45 : decode cX0_goesBy 45 = .ok (.aload_n 0, 1) := by decide +kernel
theorem dX0_goesBy_46 : decode cX0_goesBy 46 = .ok (.sipush 999, 3) := by decide +kernel
theorem dX0_goesBy_49 : decode cX0_goesBy 49 = .ok (.aload_n 0, 1) := by decide +kernel
theorem dX0_goesBy_50 : decode cX0_goesBy 50 = .ok (.getfield 160, 3) := by decide +kernel
theorem dX0_goesBy_53 : decode cX0_goesBy 53 = .ok (.iload 4, 2) := by decide +kernel
theorem dX0_goesBy_55 : decode cX0_goesBy 55 = .ok (.invokestatic 163, 3) := by decide +kernel
theorem dX0_goesBy_58 : decode cX0_goesBy 58 = .ok (.iadd, 1) := by decide +kernel
theorem dX0_goesBy_59 : decode cX0_goesBy 59 = .ok (.invokestatic 96, 3) := by decide +kernel
theorem dX0_goesBy_62 : decode cX0_goesBy 62 = .ok (.putfield 160, 3) := by decide +kernel
theorem dX0_goesBy_65 : decode cX0_goesBy 65 = .ok (.iload_n 3, 1) := by decide +kernel
theorem dX0_goesBy_66 : decode cX0_goesBy 66 = .ok (.iconst 3, 1) := by decide +kernel
theorem dX0_goesBy_67 : decode cX0_goesBy 67 = .ok (.iload 4, 2) := by decide +kernel
theorem dX0_goesBy_69 : decode cX0_goesBy 69 = .ok (.invokestatic 110, 3) := by decide +kernel
theorem dX0_goesBy_72 : decode cX0_goesBy 72 = .ok (.imul, 1) := by decide +kernel
theorem dX0_goesBy_73 : decode cX0_goesBy 73 = .ok (.iadd, 1) := by decide +kernel
theorem dX0_goesBy_74 : decode cX0_goesBy 74 = .ok (.istore_n 3, 1) := by decide +kernel
theorem dX0_goesBy_75 : decode cX0_goesBy 75 = .ok (.goto 14, 3) := by decide +kernel
theorem dX0_goesBy_78 : decode cX0_goesBy 78 = .ok (.iload 4, 2) := by decide +kernel
theorem dX0_goesBy_80 : decode cX0_goesBy 80 = .ok (.invokestatic 110, 3) := by decide +kernel
theorem dX0_goesBy_83 : decode cX0_goesBy 83 = .ok (.ifCond .le 6, 3) := by decide +kernel
theorem dX0_goesBy_86 : decode cX0_goesBy 86 = .ok (.iinc 3 1, 3) := by decide +kernel
theorem dX0_goesBy_89 : decode cX0_goesBy 89 = .ok (.aload_n 0, 1) := by decide +kernel
theorem dX0_goesBy_90 : decode cX0_goesBy 90 = .ok (.aload_n 0, 1) := by decide +kernel
theorem dX0_goesBy_91 : decode cX0_goesBy 91 = .ok (.getfield 15, 3) := by decide +kernel
theorem dX0_goesBy_94 : decode cX0_goesBy 94 = .ok (.invokestatic 166, 3) := by decide +kernel
theorem dX0_goesBy_97 : decode cX0_goesBy 97 = .ok (.putfield 15, 3) := by decide +kernel
theorem dX0_goesBy_100 : decode cX0_goesBy 100 = .ok (.aload_n 0, 1) := by decide +kernel
theorem dX0_goesBy_101 : decode cX0_goesBy 101 = .ok (.dup, 1) := by decide +kernel
theorem dX0_goesBy_102 : decode cX0_goesBy 102 = .ok (.getfield 93, 3) := by decide +kernel
theorem dX0_goesBy_105 : decode cX0_goesBy 105 = .ok (.iconst 1, 1) := by decide +kernel
theorem dX0_goesBy_106 : decode cX0_goesBy 106 = .ok (.iadd, 1) := by decide +kernel
theorem dX0_goesBy_107 : decode cX0_goesBy 107 = .ok (.putfield 93, 3) := by decide +kernel
theorem dX0_goesBy_110 : decode cX0_goesBy 110 = .ok (.iload_n 3, 1) := by decide +kernel
theorem dX0_goesBy_111 : decode cX0_goesBy 111 = .ok (.ireturn, 1) := by decide +kernel
def b_goesBy_89 (a3 : Int32) (m : M) : Option (Int32 × M) :=
  Option.bind (b_nearerToFive (m 1 2) m) (fun v1 => lt (wrF m 1 2 v1) (fun m2 => lt (wrF m2 1 0 ((m2 1 0) + (1 : Int32))) (fun m3 => some (a3, m3))))
set_option maxRecDepth 20000 in
theorem t_b_goesBy_89 {G : GG} {x : Cx} (E : En G x cX0_goesBy "WreckBoard$Board" 5 (some .int)) (hn : xn x = 5) (a3 : Int32) (m : M) : Sm G x 89 [(0, .ref (G.2.1 1)), (3, .int a3)] [] m (b_goesBy_89 a3 m) KWi := by
  unfold b_goesBy_89
  refine s_aload_n 0 E dX0_goesBy_89 rfl rfl ?_
  refine s_aload_n 0 E dX0_goesBy_90 rfl rfl ?_
  refine s_geti (k := 2) (T := TX0) 1 E rfl rfl rfl inX0 (by decide) W227 dX0_goesBy_91 ?_
  refine s_bd (fun v1 hz => ?_)
  refine s_cS (rest := [.ref (G.2.1 1)]) E (C_b_nearerToFive (xl x) G (m 1 2) m hz) mdX0_nearerToFive W815 W816 W92 W817 rfl rfl (Nat.le_of_ble_eq_true rfl) ⟨by decide, by decide⟩ dX0_goesBy_94 ?_
  refine s_put (k := 2) (T := TX0) (ty := .int) 1 E rfl rfl rfl inX0 tyX0 tyX0_ok nmX0 (by decide) W227 rfl (by decide +kernel) rfl rfl dX0_goesBy_97 ?_
  refine s_ltm rfl (fun m2 => ?_)
  refine s_aload_n 0 E dX0_goesBy_100 rfl rfl ?_
  refine s_dup E dX0_goesBy_101 rfl ?_
  refine s_geti (k := 0) (T := TX0) 1 E rfl rfl rfl inX0 (by decide) W222 dX0_goesBy_102 ?_
  refine s_iconst (v := (1 : Int32)) E dX0_goesBy_105 (by decide) ?_
  refine s_iadd E dX0_goesBy_106 ?_
  refine s_put (k := 0) (T := TX0) (ty := .int) 1 E rfl rfl rfl inX0 tyX0 tyX0_ok nmX0 (by decide) W222 rfl (by decide +kernel) rfl rfl dX0_goesBy_107 ?_
  refine s_ltm rfl (fun m3 => ?_)
  refine s_iload_n 1 E dX0_goesBy_110 rfl rfl ?_
  exact s_iret E rfl dX0_goesBy_111
def b_goesBy_16 (s0 : Int32) (m : M) : Option (Int32 × M) :=
  Option.bind (b_shipNow m) (fun v1 => Option.bind (b_isLost v1 (m 1 2) m) (fun v2 => (if v2 = 0 then Option.bind (b_valueOf v1 m) (fun v3 => (if v3 ≤ 0 then b_goesBy_89 s0 m else lt (s0 + (1 : Int32)) (fun w4 : Int32 => b_goesBy_89 w4 m))) else lt (wrF m 1 8 ((m 1 8) + (1 : Int32))) (fun m5 => Option.bind (b_fundOf v1 m5) (fun v6 => lt (wrF m5 1 3 (mnI (999 : Int32) ((m5 1 3) + v6))) (fun m7 => Option.bind (b_valueOf v1 m7) (fun v8 => lt (s0 + ((3 : Int32) * v8)) (fun w9 : Int32 => b_goesBy_89 w9 m7))))))))
set_option maxRecDepth 20000 in
theorem t_b_goesBy_16 {G : GG} {x : Cx} (E : En G x cX0_goesBy "WreckBoard$Board" 5 (some .int)) (hn : xn x = 5) (s0 : Int32) (m : M) : Sm G x 16 [(0, .ref (G.2.1 1))] [.int s0] m (b_goesBy_16 s0 m) KWi := by
  unfold b_goesBy_16
  refine s_istore_n (lv' := [(0, .ref (G.2.1 1)), (3, .int s0)]) [1, 0] E dX0_goesBy_16 rfl (by rw [hn]; decide) rfl ?_
  refine s_aload_n 0 E dX0_goesBy_17 rfl rfl ?_
  refine s_bd (fun v1 hz => ?_)
  refine s_cV (rest := []) E (C_b_shipNow (xl x) G  m hz) mdX0_shipNow W431 W432 W433 W92 W434 rfl rfl rfl rfl (Nat.le_of_ble_eq_true rfl) ⟨by decide, by decide⟩ dX0_goesBy_18 ?_
  refine s_istore (lv' := [(0, .ref (G.2.1 1)), (3, .int s0), (4, .int v1)]) [1, 2, 0] E dX0_goesBy_21 (by rw [hn]; decide) rfl ?_
  refine s_iload 2 E dX0_goesBy_23 rfl ?_
  refine s_aload_n 0 E dX0_goesBy_25 rfl rfl ?_
  refine s_geti (k := 2) (T := TX0) 1 E rfl rfl rfl inX0 (by decide) W227 dX0_goesBy_26 ?_
  refine s_bd (fun v2 hz => ?_)
  refine s_cS (rest := []) E (C_b_isLost (xl x) G v1 (m 1 2) m hz) mdX0_isLost W809 W810 W92 W811 rfl rfl (Nat.le_of_ble_eq_true rfl) ⟨by decide, by decide⟩ dX0_goesBy_29 ?_
  refine s_if_eq 78 E dX0_goesBy_32 (by decide) ?_ ?_
  · refine s_iload 2 E dX0_goesBy_78 rfl ?_
    refine s_bd (fun v3 hz => ?_)
    refine s_cS (rest := []) E (C_b_valueOf (xl x) G v1 m hz) mdX0_valueOf W435 W436 W92 W437 rfl rfl (Nat.le_of_ble_eq_true rfl) ⟨by decide, by decide⟩ dX0_goesBy_80 ?_
    refine s_if_le 89 E dX0_goesBy_83 (by decide) ?_ ?_
    · refine s_sub (lv' := [(0, .ref (G.2.1 1)), (3, .int s0)]) [0, 1] rfl ?_
      exact t_b_goesBy_89 E hn s0 m
    · refine s_iincL (v := (1 : Int32)) 1 [1, 0] (fun w4 => [(0, .ref (G.2.1 1)), (3, .int w4)]) E dX0_goesBy_86 rfl (by decide) (by rw [hn]; decide) (fun _ => rfl) (fun w4 => ?_)
      exact t_b_goesBy_89 E hn w4 m
  · refine s_aload_n 0 E dX0_goesBy_35 rfl rfl ?_
    refine s_dup E dX0_goesBy_36 rfl ?_
    refine s_geti (k := 8) (T := TX0) 1 E rfl rfl rfl inX0 (by decide) W240 dX0_goesBy_37 ?_
    refine s_iconst (v := (1 : Int32)) E dX0_goesBy_40 (by decide) ?_
    refine s_iadd E dX0_goesBy_41 ?_
    refine s_put (k := 8) (T := TX0) (ty := .int) 1 E rfl rfl rfl inX0 tyX0 tyX0_ok nmX0 (by decide) W240 rfl (by decide +kernel) rfl rfl dX0_goesBy_42 ?_
    refine s_ltm rfl (fun m5 => ?_)
    refine s_aload_n 0 E dX0_goesBy_45 rfl rfl ?_
    refine s_sipush (v := (999 : Int32)) E dX0_goesBy_46 (by decide) ?_
    refine s_aload_n 0 E dX0_goesBy_49 rfl rfl ?_
    refine s_geti (k := 3) (T := TX0) 1 E rfl rfl rfl inX0 (by decide) W231 dX0_goesBy_50 ?_
    refine s_iload 2 E dX0_goesBy_53 rfl ?_
    refine s_bd (fun v6 hz => ?_)
    refine s_cS (rest := [.int (m5 1 3), .int (999 : Int32), .ref (G.2.1 1)]) E (C_b_fundOf (xl x) G v1 m5 hz) mdX0_fundOf W812 W813 W92 W814 rfl rfl (Nat.le_of_ble_eq_true rfl) ⟨by decide, by decide⟩ dX0_goesBy_55 ?_
    refine s_iadd E dX0_goesBy_58 ?_
    refine s_mmin E W783 W488 W104 W489 (by decide) (Nat.le_of_ble_eq_true rfl) dX0_goesBy_59 ?_
    refine s_put (k := 3) (T := TX0) (ty := .int) 1 E rfl rfl rfl inX0 tyX0 tyX0_ok nmX0 (by decide) W231 rfl (by decide +kernel) rfl rfl dX0_goesBy_62 ?_
    refine s_ltm rfl (fun m7 => ?_)
    refine s_iload_n 1 E dX0_goesBy_65 rfl rfl ?_
    refine s_iconst (v := (3 : Int32)) E dX0_goesBy_66 (by decide) ?_
    refine s_iload 2 E dX0_goesBy_67 rfl ?_
    refine s_bd (fun v8 hz => ?_)
    refine s_cS (rest := [.int (3 : Int32), .int s0]) E (C_b_valueOf (xl x) G v1 m7 hz) mdX0_valueOf W435 W436 W92 W437 rfl rfl (Nat.le_of_ble_eq_true rfl) ⟨by decide, by decide⟩ dX0_goesBy_69 ?_
    refine s_imul E dX0_goesBy_72 ?_
    refine s_iadd E dX0_goesBy_73 ?_
    refine s_lt (fun w9 => [(0, .ref (G.2.1 1)), (3, .int s0), (4, .int v1)]) (fun w9 => [.int w9]) rfl rfl (fun w9 => ?_)
    refine s_istore_n (lv' := [(0, .ref (G.2.1 1)), (3, .int w9)]) [1, 0] E dX0_goesBy_74 rfl (by rw [hn]; decide) rfl ?_
    refine s_goto 89 E dX0_goesBy_75 (by decide) ?_
    exact t_b_goesBy_89 E hn w9 m7
def b_goesBy (a1 : Int32) (a2 : Int32) (m : M) : Option (Int32 × M) :=
  (if a1 ≤ 0 then b_goesBy_16 (0 : Int32) m else Option.bind (b_does (a1 - (1 : Int32)) a2 m) (fun z1 => b_goesBy_16 z1.1 z1.2))
set_option maxRecDepth 20000 in
theorem t_b_goesBy {G : GG} {x : Cx} (E : En G x cX0_goesBy "WreckBoard$Board" 5 (some .int)) (hn : xn x = 5) (a1 : Int32) (a2 : Int32) (m : M) : Sm G x 0 [(0, .ref (G.2.1 1)), (1, .int a1), (2, .int a2)] [] m (b_goesBy a1 a2 m) KWi := by
  unfold b_goesBy
  refine s_iload_n 1 E dX0_goesBy_0 rfl rfl ?_
  refine s_if_le 15 E dX0_goesBy_1 (by decide) ?_ ?_
  · refine s_iconst (v := (0 : Int32)) E dX0_goesBy_15 (by decide) ?_
    refine s_sub (lv' := [(0, .ref (G.2.1 1))]) [0] rfl ?_
    exact t_b_goesBy_16 E hn (0 : Int32) m
  · refine s_aload_n 0 E dX0_goesBy_4 rfl rfl ?_
    refine s_iload_n 1 E dX0_goesBy_5 rfl rfl ?_
    refine s_iconst (v := (1 : Int32)) E dX0_goesBy_6 (by decide) ?_
    refine s_isub E dX0_goesBy_7 ?_
    refine s_iload_n 2 E dX0_goesBy_8 rfl rfl ?_
    refine s_bd (fun z1 hz => ?_)
    refine s_cV (rest := []) E (C_b_does (xl x) G (a1 - (1 : Int32)) a2 m hz) mdX0_does W802 W804 W13 W92 W805 rfl rfl rfl rfl (Nat.le_of_ble_eq_true rfl) ⟨by decide, by decide⟩ dX0_goesBy_9 ?_
    refine s_goto 16 E dX0_goesBy_12 (by decide) ?_
    refine s_sub (lv' := [(0, .ref (G.2.1 1))]) [0] rfl ?_
    exact t_b_goesBy_16 E hn z1.1 z1.2
set_option maxRecDepth 20000 in
theorem C_b_goesBy (l : Launch) (G : GG) (a1 : Int32) (a2 : Int32) (m : M) {z : Int32 × M} (hz : b_goesBy a1 a2 m = some z) : Ct l G yX0_goesBy cX0_goesBy 5 (some .int) 5 [.ref (G.2.1 1), .int a1, .int a2] m (some (.int z.1)) z.2 :=
  ct_of (K := KWi) (by decide) (Nat.le_of_ble_eq_true rfl) (congrArg (fun q => Option.bind q _) hz) (fun x hl hn E => (t_b_goesBy E hn a1 a2 m))
theorem mdX0_goesBy : mdq yX0_goesBy 2 := ⟨by decide, by decide, by decide +kernel⟩
theorem dX0_nightOfRest_0 : decode cX0_nightOfRest 0 = .ok (.aload_n 0, 1) := by decide +kernel
theorem dX0_nightOfRest_1 : decode cX0_nightOfRest 1 = .ok (.invokevirtual 172, 3) := by decide +kernel
theorem dX0_nightOfRest_4 : decode cX0_nightOfRest 4 = .ok (.istore_n 1, 1) := by decide +kernel
theorem dX0_nightOfRest_5 : decode cX0_nightOfRest 5 = .ok (.iconst 0, 1) := by decide +kernel
theorem dX0_nightOfRest_6 : decode cX0_nightOfRest 6 = .ok (.istore_n 2, 1) := by decide +kernel
theorem dX0_nightOfRest_7 : decode cX0_nightOfRest 7 = .ok (.iload_n 2, 1) := by decide +kernel
theorem dX0_nightOfRest_8 : decode cX0_nightOfRest 8 = .ok (.aload_n 0, 1) := by decide +kernel
theorem dX0_nightOfRest_9 : decode cX0_nightOfRest 9 = .ok (.getfield 79, 3) := by decide +kernel
theorem dX0_nightOfRest_12 : decode cX0_nightOfRest 12 = .ok (.if_icmp .ge 27, 3) := by decide +kernel
theorem dX0_nightOfRest_15 : decode cX0_nightOfRest 15 = .ok (.aload_n 0, 1) := by decide +kernel
theorem dX0_nightOfRest_16 : decode cX0_nightOfRest 16 = .ok (.iload_n 2, 1) := by decide +kernel
theorem dX0_nightOfRest_17 : decode cX0_nightOfRest 17 = .ok (.iload_n 1, 1) := by decide +kernel
theorem dX0_nightOfRest_18 : decode cX0_nightOfRest 18 = .ok (.invokevirtual 175, 3) := by decide +kernel
theorem dX0_nightOfRest_21 : decode cX0_nightOfRest 21 = .ok (.ifCond .eq 12, 3) := by decide +kernel
theorem dX0_nightOfRest_24 : decode cX0_nightOfRest 24 = .ok (.aload_n 0, 1) := by decide +kernel
theorem dX0_nightOfRest_25 : decode cX0_nightOfRest 25 = .ok (.iload_n 2, 1) := by decide +kernel
theorem dX0_nightOfRest_26 : decode cX0_nightOfRest 26 = .ok (.iconst 1, 1) := by decide +kernel
theorem dX0_nightOfRest_27 : decode cX0_nightOfRest 27 = .ok (.iadd, 1) := by decide +kernel
theorem dX0_nightOfRest_28 : decode cX0_nightOfRest 28 = .ok (.iload_n 1, 1) := by decide +kernel
theorem dX0_nightOfRest_29 : decode cX0_nightOfRest 29 = .ok (.invokevirtual 178, 3) := by decide +kernel
theorem dX0_nightOfRest_32 : decode cX0_nightOfRest 32 = .ok (.ireturn, 1) := by decide +kernel
theorem dX0_nightOfRest_33 : decode cX0_nightOfRest 33 = .ok (.iinc 2 1, 3) := by decide +kernel
theorem dX0_nightOfRest_36 : decode cX0_nightOfRest 36 = .ok (.goto (-29), 3) := by decide +kernel
theorem dX0_nightOfRest_39 : decode cX0_nightOfRest 39 = .ok (.aload_n 0, 1) := by decide +kernel
theorem dX0_nightOfRest_40 : decode cX0_nightOfRest 40 = .ok (.iconst 0, 1) := by decide +kernel
theorem dX0_nightOfRest_41 : decode cX0_nightOfRest 41 = .ok (.iload_n 1, 1) := by decide +kernel
theorem dX0_nightOfRest_42 : decode cX0_nightOfRest 42 = .ok (.invokevirtual 178, 3) := by decide +kernel
theorem dX0_nightOfRest_45 : decode cX0_nightOfRest 45 = .ok (.ireturn, 1) := by decide +kernel
def b_nightOfRest_7b (a1 : Int32) (a2 : Int32) (m : M) : Option ((Int32) ⊕ ((Unit) ⊕ ((Int32)))) :=
  (if (m 1 6) ≤ a2 then some (.inr (.inl ())) else Option.bind (b_wouldCarry a2 a1 m) (fun v1 => (if v1 = 0 then lt (a2 + (1 : Int32)) (fun w2 : Int32 => some (.inl w2)) else some (.inr (.inr a2)))))
set_option maxRecDepth 20000 in
theorem t_b_nightOfRest_7b {G : GG} {x : Cx} {K : ((Int32) ⊕ ((Unit) ⊕ ((Int32)))) → Option (Option Value × M)} (E : En G x cX0_nightOfRest "WreckBoard$Board" 6 (some .int)) (hn : xn x = 3) (a1 : Int32) (a2 : Int32) (m : M) (hb : ∀ z : Int32, Sm G x 7 [(0, .ref (G.2.1 1)), (1, .int a1), (2, .int z)] [] m (some (.inl z)) K) (hx0 : ∀ z : Unit, Sm G x 39 [(0, .ref (G.2.1 1)), (1, .int a1)] [] m (some (.inr (.inl z))) K) (hx1 : ∀ z : Int32, Sm G x 24 [(0, .ref (G.2.1 1)), (1, .int a1), (2, .int z)] [] m (some (.inr (.inr z))) K) : Sm G x 7 [(0, .ref (G.2.1 1)), (1, .int a1), (2, .int a2)] [] m (b_nightOfRest_7b a1 a2 m) K := by
  unfold b_nightOfRest_7b
  refine s_iload_n 2 E dX0_nightOfRest_7 rfl rfl ?_
  refine s_aload_n 0 E dX0_nightOfRest_8 rfl rfl ?_
  refine s_geti (k := 6) (T := TX0) 1 E rfl rfl rfl inX0 (by decide) W236 dX0_nightOfRest_9 ?_
  refine s_icmp_ge 39 E dX0_nightOfRest_12 (by decide) ?_ ?_
  · refine s_sub (lv' := [(0, .ref (G.2.1 1)), (1, .int a1)]) [0, 1] rfl ?_
    exact hx0 ()
  · refine s_aload_n 0 E dX0_nightOfRest_15 rfl rfl ?_
    refine s_iload_n 2 E dX0_nightOfRest_16 rfl rfl ?_
    refine s_iload_n 1 E dX0_nightOfRest_17 rfl rfl ?_
    refine s_bd (fun v1 hz => ?_)
    refine s_cV (rest := []) E (C_b_wouldCarry (xl x) G a2 a1 m hz) mdX0_wouldCarry W797 W507 W508 W92 W509 rfl rfl rfl rfl (Nat.le_of_ble_eq_true rfl) ⟨by decide, by decide⟩ dX0_nightOfRest_18 ?_
    refine s_if_eq 33 E dX0_nightOfRest_21 (by decide) ?_ ?_
    · refine s_iincL (v := (1 : Int32)) 2 [1, 2, 0] (fun w2 => [(0, .ref (G.2.1 1)), (1, .int a1), (2, .int w2)]) E dX0_nightOfRest_33 rfl (by decide) (by rw [hn]; decide) (fun _ => rfl) (fun w2 => ?_)
      refine s_goto 7 E dX0_nightOfRest_36 (by decide) ?_
      exact hb w2
    · exact hx1 a2
def b_nightOfRest_7 (a1 : Int32) (a2 : Int32) (m : M) : Option (Int32 × M) :=
  Option.bind (iter (fun z => b_nightOfRest_7b a1 z m) FU a2) (fun r => (match r with
  | .inl r => Option.bind (b_goesBy (0 : Int32) a1 m) (fun z3 => some (z3.1, z3.2))
  | .inr r => Option.bind (b_goesBy (r + (1 : Int32)) a1 m) (fun z4 => some (z4.1, z4.2))))
set_option maxRecDepth 20000 in
theorem t_b_nightOfRest_7 {G : GG} {x : Cx} (E : En G x cX0_nightOfRest "WreckBoard$Board" 6 (some .int)) (hn : xn x = 3) (a1 : Int32) (a2 : Int32) (m : M) : Sm G x 7 [(0, .ref (G.2.1 1)), (1, .int a1), (2, .int a2)] [] m (b_nightOfRest_7 a1 a2 m) KWi := by
  unfold b_nightOfRest_7
  refine s_loop (fun z => [(0, .ref (G.2.1 1)), (1, .int a1), (2, .int z)]) (fun z => m) (fun K2 hb2 hr2 z => ?_) FU a2
  refine t_b_nightOfRest_7b (K := K2) E hn a1 z m hb2 (fun r => s_out (hr2 (.inl r)) ?_) (fun r => s_out (hr2 (.inr r)) ?_)
  · refine s_aload_n 0 E dX0_nightOfRest_39 rfl rfl ?_
    refine s_iconst (v := (0 : Int32)) E dX0_nightOfRest_40 (by decide) ?_
    refine s_iload_n 1 E dX0_nightOfRest_41 rfl rfl ?_
    refine s_bd (fun z3 hz => ?_)
    refine s_cV (rest := []) E (C_b_goesBy (xl x) G (0 : Int32) a1 m hz) mdX0_goesBy W798 W799 W800 W92 W801 rfl rfl rfl rfl (Nat.le_of_ble_eq_true rfl) ⟨by decide, by decide⟩ dX0_nightOfRest_42 ?_
    exact s_iret E rfl dX0_nightOfRest_45
  · refine s_aload_n 0 E dX0_nightOfRest_24 rfl rfl ?_
    refine s_iload_n 2 E dX0_nightOfRest_25 rfl rfl ?_
    refine s_iconst (v := (1 : Int32)) E dX0_nightOfRest_26 (by decide) ?_
    refine s_iadd E dX0_nightOfRest_27 ?_
    refine s_iload_n 1 E dX0_nightOfRest_28 rfl rfl ?_
    refine s_bd (fun z4 hz => ?_)
    refine s_cV (rest := []) E (C_b_goesBy (xl x) G (r + (1 : Int32)) a1 m hz) mdX0_goesBy W798 W799 W800 W92 W801 rfl rfl rfl rfl (Nat.le_of_ble_eq_true rfl) ⟨by decide, by decide⟩ dX0_nightOfRest_29 ?_
    exact s_iret E rfl dX0_nightOfRest_32
def b_nightOfRest  (m : M) : Option (Int32 × M) :=
  Option.bind (b_count m) (fun v1 => b_nightOfRest_7 v1 (0 : Int32) m)
set_option maxRecDepth 20000 in
theorem t_b_nightOfRest {G : GG} {x : Cx} (E : En G x cX0_nightOfRest "WreckBoard$Board" 6 (some .int)) (hn : xn x = 3)  (m : M) : Sm G x 0 [(0, .ref (G.2.1 1))] [] m (b_nightOfRest m) KWi := by
  unfold b_nightOfRest
  refine s_aload_n 0 E dX0_nightOfRest_0 rfl rfl ?_
  refine s_bd (fun v1 hz => ?_)
  refine s_cV (rest := []) E (C_b_count (xl x) G  m hz) mdX0_count W796 W500 W501 W92 W502 rfl rfl rfl rfl (Nat.le_of_ble_eq_true rfl) ⟨by decide, by decide⟩ dX0_nightOfRest_1 ?_
  refine s_istore_n (lv' := [(0, .ref (G.2.1 1)), (1, .int v1)]) [1, 0] E dX0_nightOfRest_4 rfl (by rw [hn]; decide) rfl ?_
  refine s_iconst (v := (0 : Int32)) E dX0_nightOfRest_5 (by decide) ?_
  refine s_istore_n (lv' := [(0, .ref (G.2.1 1)), (1, .int v1), (2, .int (0 : Int32))]) [1, 2, 0] E dX0_nightOfRest_6 rfl (by rw [hn]; decide) rfl ?_
  exact t_b_nightOfRest_7 E hn v1 (0 : Int32) m
set_option maxRecDepth 20000 in
theorem C_b_nightOfRest (l : Launch) (G : GG)  (m : M) {z : Int32 × M} (hz : b_nightOfRest m = some z) : Ct l G yX0_nightOfRest cX0_nightOfRest 3 (some .int) 6 [.ref (G.2.1 1)] m (some (.int z.1)) z.2 :=
  ct_of (K := KWi) (by decide) (Nat.le_of_ble_eq_true rfl) (congrArg (fun q => Option.bind q _) hz) (fun x hl hn E => (t_b_nightOfRest E hn  m))
theorem mdX0_nightOfRest : mdq yX0_nightOfRest 0 := ⟨by decide, by decide, by decide +kernel⟩
theorem dX11_night_0 : decode cX11_night 0 = .ok (.aload_n 0, 1) := by decide +kernel
theorem dX11_night_1 : decode cX11_night 1 = .ok (.getfield 12, 3) := by decide +kernel
theorem dX11_night_4 : decode cX11_night 4 = .ok (.invokevirtual 148, 3) := by decide +kernel
theorem dX11_night_7 : decode cX11_night 7 = .ok (.ifCond .eq 6, 3) := by decide +kernel
theorem dX11_night_10 : decode cX11_night 10 = .ok (.bipush (-4), 2) := by decide +kernel
theorem dX11_night_12 : decode cX11_night 12 = .ok (.ireturn, 1) := by decide +kernel
theorem dX11_night_13 : decode cX11_night 13 = .ok (.aload_n 0, 1) := by decide +kernel
theorem dX11_night_14 : decode cX11_night 14 = .ok (.getfield 12, 3) := by decide +kernel
theorem dX11_night_17 : decode cX11_night 17 = .ok (.invokevirtual 175, 3) := by decide +kernel
theorem dX11_night_20 : decode cX11_night 20 = .ok (.istore_n 1, 1) := by decide +kernel
theorem dX11_night_21 : decode cX11_night 21 = .ok (.aload_n 0, 1) := by decide +kernel
theorem dX11_night_22 : decode cX11_night 22 = .ok (.getfield 12, 3) := by decide +kernel
theorem dX11_night_25 : decode cX11_night 25 = .ok (.dup, 1) := by decide +kernel
theorem dX11_night_26 : decode cX11_night 26 = .ok (.getfield 142, 3) := by decide +kernel
theorem dX11_night_29 : decode cX11_night 29 = .ok (.iload_n 1, 1) := by decide +kernel
theorem dX11_night_30 : decode cX11_night 30 = .ok (.iadd, 1) := by decide +kernel
theorem dX11_night_31 : decode cX11_night 31 = .ok (.putfield 142, 3) := by decide +kernel
theorem dX11_night_34 : decode cX11_night 34 = .ok (.iload_n 1, 1) := by decide +kernel
theorem dX11_night_35 : decode cX11_night 35 = .ok (.ireturn, 1) := by decide +kernel
def k_night  (m : M) : Option (Int32 × M) :=
  Option.bind (b_isOver m) (fun v1 => (if v1 = 0 then Option.bind (b_nightOfRest m) (fun z2 => lt (wrF z2.2 1 4 ((z2.2 1 4) + z2.1)) (fun m3 => some (z2.1, m3))) else some ((-4 : Int32), m)))
set_option maxRecDepth 20000 in
theorem t_k_night {G : GG} {x : Cx} (E : En G x cX11_night "WreckBoard" 7 (some .int)) (hn : xn x = 2)  (m : M) : Sm G x 0 [(0, .ref (G.2.1 0))] [] m (k_night m) KWi := by
  unfold k_night
  refine s_aload_n 0 E dX11_night_0 rfl rfl ?_
  refine s_getr (k := 0) (T := TX11) 0 E rfl rfl rfl inX11 (by decide) W360 dX11_night_1 ?_
  refine s_bd (fun v1 hz => ?_)
  refine s_cV (rest := []) E (C_b_isOver (xl x) G  m hz) mdX0_isOver W578 W579 W580 W92 W581 rfl rfl rfl rfl (Nat.le_of_ble_eq_true rfl) ⟨by decide, by decide⟩ dX11_night_4 ?_
  refine s_if_eq 13 E dX11_night_7 (by decide) ?_ ?_
  · refine s_aload_n 0 E dX11_night_13 rfl rfl ?_
    refine s_getr (k := 0) (T := TX11) 0 E rfl rfl rfl inX11 (by decide) W360 dX11_night_14 ?_
    refine s_bd (fun z2 hz => ?_)
    refine s_cV (rest := []) E (C_b_nightOfRest (xl x) G  m hz) mdX0_nightOfRest W792 W793 W794 W92 W795 rfl rfl rfl rfl (Nat.le_of_ble_eq_true rfl) ⟨by decide, by decide⟩ dX11_night_17 ?_
    refine s_istore_n (lv' := [(0, .ref (G.2.1 0)), (1, .int z2.1)]) [1, 0] E dX11_night_20 rfl (by rw [hn]; decide) rfl ?_
    refine s_aload_n 0 E dX11_night_21 rfl rfl ?_
    refine s_getr (k := 0) (T := TX11) 0 E rfl rfl rfl inX11 (by decide) W360 dX11_night_22 ?_
    refine s_dup E dX11_night_25 rfl ?_
    refine s_geti (k := 4) (T := TX0) 1 E rfl rfl rfl inX0 (by decide) W232 dX11_night_26 ?_
    refine s_iload_n 1 E dX11_night_29 rfl rfl ?_
    refine s_iadd E dX11_night_30 ?_
    refine s_put (k := 4) (T := TX0) (ty := .int) 1 E rfl rfl rfl inX0 tyX0 tyX0_ok nmX0 (by decide) W232 rfl (by decide +kernel) rfl rfl dX11_night_31 ?_
    refine s_ltm rfl (fun m3 => ?_)
    refine s_iload_n 1 E dX11_night_34 rfl rfl ?_
    exact s_iret E rfl dX11_night_35
  · refine s_bipush (v := (-4 : Int32)) E dX11_night_10 (by decide) ?_
    exact s_iret E rfl dX11_night_12
set_option maxRecDepth 20000 in
theorem C_k_night (l : Launch) (G : GG)  (m : M) {z : Int32 × M} (hz : k_night m = some z) : Ct l G yX11_night cX11_night 2 (some .int) 7 [.ref (G.2.1 0)] m (some (.int z.1)) z.2 :=
  ct_of (K := KWi) (by decide) (Nat.le_of_ble_eq_true rfl) (congrArg (fun q => Option.bind q _) hz) (fun x hl hn E => (t_k_night E hn  m))
theorem dX0_moment_0 : decode cX0_moment 0 = .ok (.aload_n 0, 1) := by decide +kernel
theorem dX0_moment_1 : decode cX0_moment 1 = .ok (.getfield 86, 3) := by decide +kernel
theorem dX0_moment_4 : decode cX0_moment 4 = .ok (.i2l, 1) := by decide +kernel
theorem dX0_moment_5 : decode cX0_moment 5 = .ok (.bipush 19, 2) := by decide +kernel
theorem dX0_moment_7 : decode cX0_moment 7 = .ok (.lshl, 1) := by decide +kernel
theorem dX0_moment_8 : decode cX0_moment 8 = .ok (.aload_n 0, 1) := by decide +kernel
theorem dX0_moment_9 : decode cX0_moment 9 = .ok (.getfield 160, 3) := by decide +kernel
theorem dX0_moment_12 : decode cX0_moment 12 = .ok (.i2l, 1) := by decide +kernel
theorem dX0_moment_13 : decode cX0_moment 13 = .ok (.bipush 9, 2) := by decide +kernel
theorem dX0_moment_15 : decode cX0_moment 15 = .ok (.lshl, 1) := by decide +kernel
theorem dX0_moment_16 : decode cX0_moment 16 = .ok (.lor, 1) := by decide +kernel
theorem dX0_moment_17 : decode cX0_moment 17 = .ok (.aload_n 0, 1) := by decide +kernel
theorem dX0_moment_18 : decode cX0_moment 18 = .ok (.getfield 15, 3) := by decide +kernel
theorem dX0_moment_21 : decode cX0_moment 21 = .ok (.i2l, 1) := by decide +kernel
theorem dX0_moment_22 : decode cX0_moment 22 = .ok (.iconst 5, 1) := by decide +kernel
theorem dX0_moment_23 : decode cX0_moment 23 = .ok (.lshl, 1) := by decide +kernel
theorem dX0_moment_24 : decode cX0_moment 24 = .ok (.lor, 1) := by decide +kernel
theorem dX0_moment_25 : decode cX0_moment 25 = .ok (.aload_n 0, 1) := by decide +kernel
theorem dX0_moment_26 : decode cX0_moment 26 = .ok (.getfield 93, 3) := by decide +kernel
theorem dX0_moment_29 : decode cX0_moment 29 = .ok (.i2l, 1) := by decide +kernel
theorem dX0_moment_30 : decode cX0_moment 30 = .ok (.lor, 1) := by decide +kernel
theorem dX0_moment_31 : decode cX0_moment 31 = .ok (.lstore_n 1, 1) := by decide +kernel
theorem dX0_moment_32 : decode cX0_moment 32 = .ok (.iconst 0, 1) := by decide +kernel
theorem dX0_moment_33 : decode cX0_moment 33 = .ok (.istore_n 3, 1) := by decide +kernel
theorem dX0_moment_34 : decode cX0_moment 34 = .ok (.iload_n 3, 1) := by decide +kernel
theorem dX0_moment_35 : decode cX0_moment 35 = .ok (.bipush 6, 2) := by decide +kernel
theorem dX0_moment_37 : decode cX0_moment 37 = .ok (.if_icmp .ge 26, 3) := by decide +kernel
theorem dX0_moment_40 : decode cX0_moment 40 = .ok (.lload_n 1, 1) := by decide +kernel
theorem dX0_moment_41 : decode cX0_moment 41 = .ok (.aload_n 0, 1) := by decide +kernel
theorem dX0_moment_42 : decode cX0_moment 42 = .ok (.getfield 25, 3) := by decide +kernel
theorem dX0_moment_45 : decode cX0_moment 45 = .ok (.iload_n 3, 1) := by decide +kernel
theorem dX0_moment_46 : decode cX0_moment 46 = .ok (.iaload, 1) := by decide +kernel
theorem dX0_moment_47 : decode cX0_moment 47 = .ok (.i2l, 1) := by decide +kernel
theorem dX0_moment_48 : decode cX0_moment 48 = .ok (.bipush 25, 2) := by decide +kernel
theorem dX0_moment_50 : decode cX0_moment 50 = .ok (.iconst 4, 1) := by decide +kernel
theorem dX0_moment_51 : decode cX0_moment 51 = .ok (.iload_n 3, 1) := by decide +kernel
theorem dX0_moment_52 : decode cX0_moment 52 = .ok (.imul, 1) := by decide +kernel
theorem dX0_moment_53 : decode cX0_moment 53 = .ok (.iadd, 1) := by decide +kernel
theorem dX0_moment_54 : decode cX0_moment 54 = .ok (.lshl, 1) := by decide +kernel
theorem dX0_moment_55 : decode cX0_moment 55 = .ok (.lor, 1) := by decide +kernel
theorem dX0_moment_56 : decode cX0_moment 56 = .ok (.lstore_n 1, 1) := by decide +kernel
theorem dX0_moment_57 : decode cX0_moment 57 = .ok (.iinc 3 1, 3) := by decide +kernel
theorem dX0_moment_60 : decode cX0_moment 60 = .ok (.goto (-26), 3) := by decide +kernel
theorem dX0_moment_63 : decode cX0_moment 63 = .ok (.lload_n 1, 1) := by decide +kernel
theorem dX0_moment_64 : decode cX0_moment 64 = .ok (.lreturn, 1) := by decide +kernel
