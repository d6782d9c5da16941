def p_wrongBehind_70 (a1 : Int32) (a2 : Int32) (a3 : Int32) (a4 : Int32) (a5 : Int32) (m : M) : Option ((Int32 × Int32) ⊕ ((Int32))) :=
  lt (a5 + (1 : Int32)) (fun w1 : Int32 => some (.inl (a4, w1)))
set_option maxRecDepth 20000 in
theorem t_p_wrongBehind_70 {G : GG} {x : Cx} {K : ((Int32 × Int32) ⊕ ((Int32))) → Option (Option Value × M)} (E : En G x cX6_wrongBehind "WreckBoard$Reports" 2 (some .int)) (hn : xn x = 6) (a1 : Int32) (a2 : Int32) (a3 : Int32) (a4 : Int32) (a5 : Int32) (m : M) (hb : ∀ z : Int32 × Int32, Sm G x 6 [(0, .ref (G.2.1 4)), (1, .int a1), (2, .int a2), (3, .int a3), (4, .int z.1), (5, .int z.2)] [] m (some (.inl z)) K) (hx0 : ∀ z : Int32, Sm G x 76 [(4, .int z)] [] m (some (.inr z)) K) : Sm G x 70 [(0, .ref (G.2.1 4)), (1, .int a1), (2, .int a2), (3, .int a3), (4, .int a4), (5, .int a5)] [] m (p_wrongBehind_70 a1 a2 a3 a4 a5 m) K := by
  unfold p_wrongBehind_70
  refine s_iincL (v := (1 : Int32)) 5 [1, 2, 3, 4, 5, 0] (fun w1 => [(0, .ref (G.2.1 4)), (1, .int a1), (2, .int a2), (3, .int a3), (4, .int a4), (5, .int w1)]) E dX6_wrongBehind_70 rfl (by decide) (by rw [hn]; decide) (fun _ => rfl) (fun w1 => ?_)
  refine s_goto 6 E dX6_wrongBehind_73 (by decide) ?_
  exact hb (a4, w1)
def p_wrongBehind_41 (a1 : Int32) (a2 : Int32) (a3 : Int32) (a4 : Int32) (a5 : Int32) (s0 : Int32) (m : M) : Option ((Int32 × Int32) ⊕ ((Int32))) :=
  Option.bind (rdI m 32 a5) (fun v1 => Option.bind (rdI m 33 a5) (fun v2 => Option.bind (k_within s0 v1 v2 m) (fun v3 => (if v3 = 0 then lt (a4 ||| ((1 : Int32) <<< (a5 &&& 31))) (fun w4 : Int32 => p_wrongBehind_70 a1 a2 a3 w4 a5 m) else p_wrongBehind_70 a1 a2 a3 a4 a5 m))))
set_option maxRecDepth 20000 in
theorem t_p_wrongBehind_41 {G : GG} {x : Cx} {K : ((Int32 × Int32) ⊕ ((Int32))) → Option (Option Value × M)} (E : En G x cX6_wrongBehind "WreckBoard$Reports" 2 (some .int)) (hn : xn x = 6) (a1 : Int32) (a2 : Int32) (a3 : Int32) (a4 : Int32) (a5 : Int32) (s0 : Int32) (m : M) (hb : ∀ z : Int32 × Int32, Sm G x 6 [(0, .ref (G.2.1 4)), (1, .int a1), (2, .int a2), (3, .int a3), (4, .int z.1), (5, .int z.2)] [] m (some (.inl z)) K) (hx0 : ∀ z : Int32, Sm G x 76 [(4, .int z)] [] m (some (.inr z)) K) : Sm G x 41 [(0, .ref (G.2.1 4)), (1, .int a1), (2, .int a2), (3, .int a3), (4, .int a4), (5, .int a5)] [.int s0] m (p_wrongBehind_41 a1 a2 a3 a4 a5 s0 m) K := by
  unfold p_wrongBehind_41
  refine s_aload_n 0 E dX6_wrongBehind_41 rfl rfl ?_
  refine s_getr (k := 3) (T := TX6) 4 E rfl rfl rfl inX6 (by decide) W166 dX6_wrongBehind_42 ?_
  refine s_iload 5 E dX6_wrongBehind_45 rfl ?_
  refine s_iald E dX6_wrongBehind_47 (fun v1 => ?_)
  refine s_aload_n 0 E dX6_wrongBehind_48 rfl rfl ?_
  refine s_getr (k := 4) (T := TX6) 4 E rfl rfl rfl inX6 (by decide) W167 dX6_wrongBehind_49 ?_
  refine s_iload 5 E dX6_wrongBehind_52 rfl ?_
  refine s_iald E dX6_wrongBehind_54 (fun v2 => ?_)
  refine s_bd (fun v3 hz => ?_)
  refine s_cSN (rest := []) (host := "WreckBoard") E (C_k_within (xl x) G s0 v1 v2 m hz) mdX11_within (by decide) W405 W91 W406 rfl rfl (Nat.le_of_ble_eq_true rfl) ⟨by decide, by decide⟩ dX6_wrongBehind_55 ?_
  refine s_if_ne 70 E dX6_wrongBehind_58 (by decide) ?_ ?_
  · exact t_p_wrongBehind_70 E hn a1 a2 a3 a4 a5 m hb hx0
  · refine s_iload 4 E dX6_wrongBehind_61 rfl ?_
    refine s_iconst (v := (1 : Int32)) E dX6_wrongBehind_63 (by decide) ?_
    refine s_iload 5 E dX6_wrongBehind_64 rfl ?_
    refine s_ishl E dX6_wrongBehind_66 ?_
    refine s_ior E dX6_wrongBehind_67 ?_
    refine s_lt (fun w4 => [(0, .ref (G.2.1 4)), (1, .int a1), (2, .int a2), (3, .int a3), (4, .int a4), (5, .int a5)]) (fun w4 => [.int w4]) rfl rfl (fun w4 => ?_)
    refine s_istore (lv' := [(0, .ref (G.2.1 4)), (1, .int a1), (2, .int a2), (3, .int a3), (4, .int w4), (5, .int a5)]) [1, 2, 3, 4, 0, 5] E dX6_wrongBehind_68 (by rw [hn]; decide) rfl ?_
    exact t_p_wrongBehind_70 E hn a1 a2 a3 w4 a5 m hb hx0
def p_wrongBehind_6b (a1 : Int32) (a2 : Int32) (a3 : Int32) (a4 : Int32) (a5 : Int32) (m : M) : Option ((Int32 × Int32) ⊕ ((Int32))) :=
  (if (m 4 0) ≤ a5 then some (.inr a4) else Option.bind (rdI m 30 a5) (fun v1 => (if v1 = a1 then Option.bind (rdI m 31 a5) (fun v2 => (if v2 = 0 then p_wrongBehind_41 a1 a2 a3 a4 a5 a2 m else p_wrongBehind_41 a1 a2 a3 a4 a5 a3 m)) else p_wrongBehind_70 a1 a2 a3 a4 a5 m)))
set_option maxRecDepth 20000 in
theorem t_p_wrongBehind_6b {G : GG} {x : Cx} {K : ((Int32 × Int32) ⊕ ((Int32))) → Option (Option Value × M)} (E : En G x cX6_wrongBehind "WreckBoard$Reports" 2 (some .int)) (hn : xn x = 6) (a1 : Int32) (a2 : Int32) (a3 : Int32) (a4 : Int32) (a5 : Int32) (m : M) (hb : ∀ z : Int32 × Int32, Sm G x 6 [(0, .ref (G.2.1 4)), (1, .int a1), (2, .int a2), (3, .int a3), (4, .int z.1), (5, .int z.2)] [] m (some (.inl z)) K) (hx0 : ∀ z : Int32, Sm G x 76 [(4, .int z)] [] m (some (.inr z)) K) : Sm G x 6 [(0, .ref (G.2.1 4)), (1, .int a1), (2, .int a2), (3, .int a3), (4, .int a4), (5, .int a5)] [] m (p_wrongBehind_6b a1 a2 a3 a4 a5 m) K := by
  unfold p_wrongBehind_6b
  refine s_iload 5 E dX6_wrongBehind_6 rfl ?_
  refine s_aload_n 0 E dX6_wrongBehind_8 rfl rfl ?_
  refine s_geti (k := 0) (T := TX6) 4 E rfl rfl rfl inX6 (by decide) W162 dX6_wrongBehind_9 ?_
  refine s_icmp_ge 76 E dX6_wrongBehind_12 (by decide) ?_ ?_
  · refine s_sub (lv' := [(4, .int a4)]) [4] rfl ?_
    exact hx0 a4
  · refine s_aload_n 0 E dX6_wrongBehind_15 rfl rfl ?_
    refine s_getr (k := 1) (T := TX6) 4 E rfl rfl rfl inX6 (by decide) W164 dX6_wrongBehind_16 ?_
    refine s_iload 5 E dX6_wrongBehind_19 rfl ?_
    refine s_iald E dX6_wrongBehind_21 (fun v1 => ?_)
    refine s_iload_n 1 E dX6_wrongBehind_22 rfl rfl ?_
    refine s_icmp_ne 70 E dX6_wrongBehind_23 (by decide) ?_ ?_
    · exact t_p_wrongBehind_70 E hn a1 a2 a3 a4 a5 m hb hx0
    · refine s_aload_n 0 E dX6_wrongBehind_26 rfl rfl ?_
      refine s_getr (k := 2) (T := TX6) 4 E rfl rfl rfl inX6 (by decide) W165 dX6_wrongBehind_27 ?_
      refine s_iload 5 E dX6_wrongBehind_30 rfl ?_
      refine s_iald E dX6_wrongBehind_32 (fun v2 => ?_)
      refine s_if_ne 40 E dX6_wrongBehind_33 (by decide) ?_ ?_
      · refine s_iload_n 3 E dX6_wrongBehind_40 rfl rfl ?_
        exact t_p_wrongBehind_41 E hn a1 a2 a3 a4 a5 a3 m hb hx0
      · refine s_iload_n 2 E dX6_wrongBehind_36 rfl rfl ?_
        refine s_goto 41 E dX6_wrongBehind_37 (by decide) ?_
        exact t_p_wrongBehind_41 E hn a1 a2 a3 a4 a5 a2 m hb hx0
def p_wrongBehind_6 (a1 : Int32) (a2 : Int32) (a3 : Int32) (a4 : Int32) (a5 : Int32) (m : M) : Option (Int32) :=
  Option.bind (iter (fun z => p_wrongBehind_6b a1 a2 a3 z.1 z.2 m) FU (a4, a5)) (fun r => some r)
set_option maxRecDepth 20000 in
theorem t_p_wrongBehind_6 {G : GG} {x : Cx} (E : En G x cX6_wrongBehind "WreckBoard$Reports" 2 (some .int)) (hn : xn x = 6) (a1 : Int32) (a2 : Int32) (a3 : Int32) (a4 : Int32) (a5 : Int32) (m : M) : Sm G x 6 [(0, .ref (G.2.1 4)), (1, .int a1), (2, .int a2), (3, .int a3), (4, .int a4), (5, .int a5)] [] m (p_wrongBehind_6 a1 a2 a3 a4 a5 m) (KRi m) := by
  unfold p_wrongBehind_6
  refine s_loop (fun z => [(0, .ref (G.2.1 4)), (1, .int a1), (2, .int a2), (3, .int a3), (4, .int z.1), (5, .int z.2)]) (fun z => m) (fun K2 hb2 hr2 z => ?_) FU (a4, a5)
  refine t_p_wrongBehind_6b (K := K2) E hn a1 a2 a3 z.1 z.2 m hb2 (fun r => s_out (hr2 r) ?_)
  · refine s_iload 0 E dX6_wrongBehind_76 rfl ?_
    exact s_iret E rfl dX6_wrongBehind_78
def p_wrongBehind (a1 : Int32) (a2 : Int32) (a3 : Int32) (m : M) : Option (Int32) :=
  p_wrongBehind_6 a1 a2 a3 (0 : Int32) (0 : Int32) m
set_option maxRecDepth 20000 in
theorem t_p_wrongBehind {G : GG} {x : Cx} (E : En G x cX6_wrongBehind "WreckBoard$Reports" 2 (some .int)) (hn : xn x = 6) (a1 : Int32) (a2 : Int32) (a3 : Int32) (m : M) : Sm G x 0 [(0, .ref (G.2.1 4)), (1, .int a1), (2, .int a2), (3, .int a3)] [] m (p_wrongBehind a1 a2 a3 m) (KRi m) := by
  unfold p_wrongBehind
  refine s_iconst (v := (0 : Int32)) E dX6_wrongBehind_0 (by decide) ?_
  refine s_istore (lv' := [(0, .ref (G.2.1 4)), (1, .int a1), (2, .int a2), (3, .int a3), (4, .int (0 : Int32))]) [1, 2, 3, 4, 0] E dX6_wrongBehind_1 (by rw [hn]; decide) rfl ?_
  refine s_iconst (v := (0 : Int32)) E dX6_wrongBehind_3 (by decide) ?_
  refine s_istore (lv' := [(0, .ref (G.2.1 4)), (1, .int a1), (2, .int a2), (3, .int a3), (4, .int (0 : Int32)), (5, .int (0 : Int32))]) [1, 2, 3, 4, 5, 0] E dX6_wrongBehind_4 (by rw [hn]; decide) rfl ?_
  exact t_p_wrongBehind_6 E hn a1 a2 a3 (0 : Int32) (0 : Int32) m
set_option maxRecDepth 20000 in
theorem C_p_wrongBehind (l : Launch) (G : GG) (a1 : Int32) (a2 : Int32) (a3 : Int32) (m : M) {z : Int32} (hz : p_wrongBehind a1 a2 a3 m = some z) : Ct l G yX6_wrongBehind cX6_wrongBehind 6 (some .int) 2 [.ref (G.2.1 4), .int a1, .int a2, .int a3] m (some (.int z)) m :=
  ct_of (K := (KRi m)) (by decide) (Nat.le_of_ble_eq_true rfl) (congrArg (fun q => Option.bind q _) hz) (fun x hl hn E => (t_p_wrongBehind E hn a1 a2 a3 m))
theorem mdX6_wrongBehind : mdq yX6_wrongBehind 3 := ⟨by decide, by decide, by decide +kernel⟩
theorem dX6_latest_0 : decode cX6_latest 0 = .ok (.iconst 0, 1) := by decide +kernel
theorem dX6_latest_1 : decode cX6_latest 1 = .ok (.istore_n 1, 1) := by decide +kernel
theorem dX6_latest_2 : decode cX6_latest 2 = .ok (.iconst 0, 1) := by decide +kernel
theorem dX6_latest_3 : decode cX6_latest 3 = .ok (.istore_n 2, 1) := by decide +kernel
theorem dX6_latest_4 : decode cX6_latest 4 = .ok (.iload_n 2, 1) := by decide +kernel
theorem dX6_latest_5 : decode cX6_latest 5 = .ok (.aload_n 0, 1) := by decide +kernel
theorem dX6_latest_6 : decode cX6_latest 6 = .ok (.getfield 24, 3) := by decide +kernel
theorem dX6_latest_9 : decode cX6_latest 9 = .ok (.if_icmp .ge 20, 3) := by decide +kernel
theorem dX6_latest_12 : decode cX6_latest 12 = .ok (.iload_n 1, 1) := by decide +kernel
theorem dX6_latest_13 : decode cX6_latest 13 = .ok (.aload_n 0, 1) := by decide +kernel
theorem dX6_latest_14 : decode cX6_latest 14 = .ok (.getfield 9, 3) := by decide +kernel
theorem dX6_latest_17 : decode cX6_latest 17 = .ok (.iload_n 2, 1) := by decide +kernel
theorem dX6_latest_18 : decode cX6_latest 18 = .ok (.iaload, 1) := by decide +kernel
theorem dX6_latest_19 : decode cX6_latest 19 = .ok (.invokestatic 70, 3) := by decide +kernel
theorem dX6_latest_22 : decode cX6_latest 22 = .ok (.istore_n 1, 1) := by decide +kernel
theorem dX6_latest_23 : decode cX6_latest 23 = .ok (.iinc 2 1, 3) := by decide +kernel
theorem dX6_latest_26 : decode cX6_latest 26 = .ok (.goto (-22), 3) := by decide +kernel
theorem dX6_latest_29 : decode cX6_latest 29 = .ok (.iload_n 1, 1) := by decide +kernel
theorem dX6_latest_30 : decode cX6_latest 30 = .ok (.ireturn, 1) := by decide +kernel
def p_latest_4b (a1 : Int32) (a2 : Int32) (m : M) : Option ((Int32 × Int32) ⊕ ((Int32))) :=
  (if (m 4 0) ≤ a2 then some (.inr a1) else Option.bind (rdI m 30 a2) (fun v1 => lt (mxI a1 v1) (fun w2 : Int32 => lt (a2 + (1 : Int32)) (fun w3 : Int32 => some (.inl (w2, w3))))))
set_option maxRecDepth 20000 in
theorem t_p_latest_4b {G : GG} {x : Cx} {K : ((Int32 × Int32) ⊕ ((Int32))) → Option (Option Value × M)} (E : En G x cX6_latest "WreckBoard$Reports" 2 (some .int)) (hn : xn x = 3) (a1 : Int32) (a2 : Int32) (m : M) (hb : ∀ z : Int32 × Int32, Sm G x 4 [(0, .ref (G.2.1 4)), (1, .int z.1), (2, .int z.2)] [] m (some (.inl z)) K) (hx0 : ∀ z : Int32, Sm G x 29 [(1, .int z)] [] m (some (.inr z)) K) : Sm G x 4 [(0, .ref (G.2.1 4)), (1, .int a1), (2, .int a2)] [] m (p_latest_4b a1 a2 m) K := by
  unfold p_latest_4b
  refine s_iload_n 2 E dX6_latest_4 rfl rfl ?_
  refine s_aload_n 0 E dX6_latest_5 rfl rfl ?_
  refine s_geti (k := 0) (T := TX6) 4 E rfl rfl rfl inX6 (by decide) W162 dX6_latest_6 ?_
  refine s_icmp_ge 29 E dX6_latest_9 (by decide) ?_ ?_
  · refine s_sub (lv' := [(1, .int a1)]) [1] rfl ?_
    exact hx0 a1
  · refine s_iload_n 1 E dX6_latest_12 rfl rfl ?_
    refine s_aload_n 0 E dX6_latest_13 rfl rfl ?_
    refine s_getr (k := 1) (T := TX6) 4 E rfl rfl rfl inX6 (by decide) W164 dX6_latest_14 ?_
    refine s_iload_n 2 E dX6_latest_17 rfl rfl ?_
    refine s_iald E dX6_latest_18 (fun v1 => ?_)
    refine s_mmax E W1006 W497 W104 W498 (by decide) (Nat.le_of_ble_eq_true rfl) dX6_latest_19 ?_
    refine s_lt (fun w2 => [(0, .ref (G.2.1 4)), (1, .int a1), (2, .int a2)]) (fun w2 => [.int w2]) rfl rfl (fun w2 => ?_)
    refine s_istore_n (lv' := [(0, .ref (G.2.1 4)), (1, .int w2), (2, .int a2)]) [1, 0, 2] E dX6_latest_22 rfl (by rw [hn]; decide) rfl ?_
    refine s_iincL (v := (1 : Int32)) 2 [1, 2, 0] (fun w3 => [(0, .ref (G.2.1 4)), (1, .int w2), (2, .int w3)]) E dX6_latest_23 rfl (by decide) (by rw [hn]; decide) (fun _ => rfl) (fun w3 => ?_)
    refine s_goto 4 E dX6_latest_26 (by decide) ?_
    exact hb (w2, w3)
def p_latest_4 (a1 : Int32) (a2 : Int32) (m : M) : Option (Int32) :=
  Option.bind (iter (fun z => p_latest_4b z.1 z.2 m) FU (a1, a2)) (fun r => some r)
set_option maxRecDepth 20000 in
theorem t_p_latest_4 {G : GG} {x : Cx} (E : En G x cX6_latest "WreckBoard$Reports" 2 (some .int)) (hn : xn x = 3) (a1 : Int32) (a2 : Int32) (m : M) : Sm G x 4 [(0, .ref (G.2.1 4)), (1, .int a1), (2, .int a2)] [] m (p_latest_4 a1 a2 m) (KRi m) := by
  unfold p_latest_4
  refine s_loop (fun z => [(0, .ref (G.2.1 4)), (1, .int z.1), (2, .int z.2)]) (fun z => m) (fun K2 hb2 hr2 z => ?_) FU (a1, a2)
  refine t_p_latest_4b (K := K2) E hn z.1 z.2 m hb2 (fun r => s_out (hr2 r) ?_)
  · refine s_iload_n 0 E dX6_latest_29 rfl rfl ?_
    exact s_iret E rfl dX6_latest_30
def p_latest  (m : M) : Option (Int32) :=
  p_latest_4 (0 : Int32) (0 : Int32) m
set_option maxRecDepth 20000 in
theorem t_p_latest {G : GG} {x : Cx} (E : En G x cX6_latest "WreckBoard$Reports" 2 (some .int)) (hn : xn x = 3)  (m : M) : Sm G x 0 [(0, .ref (G.2.1 4))] [] m (p_latest m) (KRi m) := by
  unfold p_latest
  refine s_iconst (v := (0 : Int32)) E dX6_latest_0 (by decide) ?_
  refine s_istore_n (lv' := [(0, .ref (G.2.1 4)), (1, .int (0 : Int32))]) [1, 0] E dX6_latest_1 rfl (by rw [hn]; decide) rfl ?_
  refine s_iconst (v := (0 : Int32)) E dX6_latest_2 (by decide) ?_
  refine s_istore_n (lv' := [(0, .ref (G.2.1 4)), (1, .int (0 : Int32)), (2, .int (0 : Int32))]) [1, 2, 0] E dX6_latest_3 rfl (by rw [hn]; decide) rfl ?_
  exact t_p_latest_4 E hn (0 : Int32) (0 : Int32) m
set_option maxRecDepth 20000 in
theorem C_p_latest (l : Launch) (G : GG)  (m : M) {z : Int32} (hz : p_latest m = some z) : Ct l G yX6_latest cX6_latest 3 (some .int) 2 [.ref (G.2.1 4)] m (some (.int z)) m :=
  ct_of (K := (KRi m)) (by decide) (Nat.le_of_ble_eq_true rfl) (congrArg (fun q => Option.bind q _) hz) (fun x hl hn E => (t_p_latest E hn  m))
theorem mdX6_latest : mdq yX6_latest 0 := ⟨by decide, by decide, by decide +kernel⟩
theorem dX6_wrongFor_0 : decode cX6_wrongFor 0 = .ok (.iload_n 3, 1) := by decide +kernel
theorem dX6_wrongFor_1 : decode cX6_wrongFor 1 = .ok (.istore 5, 2) := by decide +kernel
theorem dX6_wrongFor_3 : decode cX6_wrongFor 3 = .ok (.iconst 0, 1) := by decide +kernel
theorem dX6_wrongFor_4 : decode cX6_wrongFor 4 = .ok (.istore 6, 2) := by decide +kernel
theorem dX6_wrongFor_6 : decode cX6_wrongFor 6 = .ok (.aload_n 0, 1) := by decide +kernel
theorem dX6_wrongFor_7 : decode cX6_wrongFor 7 = .ok (.iconst 0, 1) := by decide +kernel
theorem dX6_wrongFor_8 : decode cX6_wrongFor 8 = .ok (.iload 5, 2) := by decide +kernel
theorem dX6_wrongFor_10 : decode cX6_wrongFor 10 = .ok (.iload 6, 2) := by decide +kernel
theorem dX6_wrongFor_12 : decode cX6_wrongFor 12 = .ok (.invokevirtual 28, 3) := by decide +kernel
theorem dX6_wrongFor_15 : decode cX6_wrongFor 15 = .ok (.istore 7, 2) := by decide +kernel
theorem dX6_wrongFor_17 : decode cX6_wrongFor 17 = .ok (.aload_n 0, 1) := by decide +kernel
theorem dX6_wrongFor_18 : decode cX6_wrongFor 18 = .ok (.invokevirtual 32, 3) := by decide +kernel
theorem dX6_wrongFor_21 : decode cX6_wrongFor 21 = .ok (.aload 4, 2) := by decide +kernel
theorem dX6_wrongFor_23 : decode cX6_wrongFor 23 = .ok (.arraylength, 1) := by decide +kernel
theorem dX6_wrongFor_24 : decode cX6_wrongFor 24 = .ok (.invokestatic 36, 3) := by decide +kernel
theorem dX6_wrongFor_27 : decode cX6_wrongFor 27 = .ok (.istore 8, 2) := by decide +kernel
theorem dX6_wrongFor_29 : decode cX6_wrongFor 29 = .ok (.iconst 0, 1) := by decide +kernel
theorem dX6_wrongFor_30 : decode cX6_wrongFor 30 = .ok (.istore 9, 2) := by decide +kernel
theorem dX6_wrongFor_32 : decode cX6_wrongFor 32 = .ok (.iload 9, 2) := by decide +kernel
theorem dX6_wrongFor_34 : decode cX6_wrongFor 34 = .ok (.iload 8, 2) := by decide +kernel
theorem dX6_wrongFor_36 : decode cX6_wrongFor 36 = .ok (.if_icmp .ge 93, 3) := by decide +kernel
theorem dX6_wrongFor_39 : decode cX6_wrongFor 39 = .ok (.aload 4, 2) := by decide +kernel
theorem dX6_wrongFor_41 : decode cX6_wrongFor 41 = .ok (.iload 9, 2) := by decide +kernel
theorem dX6_wrongFor_43 : decode cX6_wrongFor 43 = .ok (.iaload, 1) := by decide +kernel
theorem dX6_wrongFor_44 : decode cX6_wrongFor 44 = .ok (.istore 10, 2) := by decide +kernel
theorem dX6_wrongFor_46 : decode cX6_wrongFor 46 = .ok (.aload_n 1, 1) := by decide +kernel
theorem dX6_wrongFor_47 : decode cX6_wrongFor 47 = .ok (.iload 10, 2) := by decide +kernel
theorem dX6_wrongFor_49 : decode cX6_wrongFor 49 = .ok (.invokestatic 42, 3) := by decide +kernel
theorem dX6_wrongFor_52 : decode cX6_wrongFor 52 = .ok (.iload 5, 2) := by decide +kernel
theorem dX6_wrongFor_54 : decode cX6_wrongFor 54 = .ok (.iload_n 2, 1) := by decide +kernel
theorem dX6_wrongFor_55 : decode cX6_wrongFor 55 = .ok (.iload 9, 2) := by decide +kernel
theorem dX6_wrongFor_57 : decode cX6_wrongFor 57 = .ok (.invokevirtual 48, 3) := by decide +kernel
theorem dX6_wrongFor_60 : decode cX6_wrongFor 60 = .ok (.istore 11, 2) := by decide +kernel
theorem dX6_wrongFor_62 : decode cX6_wrongFor 62 = .ok (.iload 5, 2) := by decide +kernel
theorem dX6_wrongFor_64 : decode cX6_wrongFor 64 = .ok (.iconst 2, 1) := by decide +kernel
theorem dX6_wrongFor_65 : decode cX6_wrongFor 65 = .ok (.iload 11, 2) := by decide +kernel
theorem dX6_wrongFor_67 : decode cX6_wrongFor 67 = .ok (.invokestatic 54, 3) := by decide +kernel
theorem dX6_wrongFor_70 : decode cX6_wrongFor 70 = .ok (.iconst 1, 1) := by decide +kernel
theorem dX6_wrongFor_71 : decode cX6_wrongFor 71 = .ok (.isub, 1) := by decide +kernel
theorem dX6_wrongFor_72 : decode cX6_wrongFor 72 = .ok (.imul, 1) := by decide +kernel
theorem dX6_wrongFor_73 : decode cX6_wrongFor 73 = .ok (.isub, 1) := by decide +kernel
theorem dX6_wrongFor_74 : decode cX6_wrongFor 74 = .ok (.invokestatic 57, 3) := by decide +kernel
theorem dX6_wrongFor_77 : decode cX6_wrongFor 77 = .ok (.istore 5, 2) := by decide +kernel
theorem dX6_wrongFor_79 : decode cX6_wrongFor 79 = .ok (.iload 10, 2) := by decide +kernel
theorem dX6_wrongFor_81 : decode cX6_wrongFor 81 = .ok (.iload 5, 2) := by decide +kernel
theorem dX6_wrongFor_83 : decode cX6_wrongFor 83 = .ok (.invokestatic 60, 3) := by decide +kernel
theorem dX6_wrongFor_86 : decode cX6_wrongFor 86 = .ok (.ifCond .eq 13, 3) := by decide +kernel
theorem dX6_wrongFor_89 : decode cX6_wrongFor 89 = .ok (.iload 6, 2) := by decide +kernel
theorem dX6_wrongFor_91 : decode cX6_wrongFor 91 = .ok (.iload 10, 2) := by decide +kernel
theorem dX6_wrongFor_93 : decode cX6_wrongFor 93 = .ok (.invokestatic 64, 3) := by decide +kernel
theorem dX6_wrongFor_96 : decode cX6_wrongFor 96 = .ok (.iadd, 1) := by decide +kernel
theorem dX6_wrongFor_97 : decode cX6_wrongFor 97 = .ok (.istore 6, 2) := by decide +kernel
theorem dX6_wrongFor_99 : decode cX6_wrongFor 99 = .ok (.iload 5, 2) := by decide +kernel
theorem dX6_wrongFor_101 : decode cX6_wrongFor 101 = .ok (.invokestatic 67, 3) := by decide +kernel
theorem dX6_wrongFor_104 : decode cX6_wrongFor 104 = .ok (.istore 5, 2) := by decide +kernel
theorem dX6_wrongFor_106 : decode cX6_wrongFor 106 = .ok (.iload 7, 2) := by decide +kernel
theorem dX6_wrongFor_108 : decode cX6_wrongFor 108 = .ok (.aload_n 0, 1) := by decide +kernel
theorem dX6_wrongFor_109 : decode cX6_wrongFor 109 = .ok (.iload 9, 2) := by decide +kernel
theorem dX6_wrongFor_111 : decode cX6_wrongFor 111 = .ok (.iconst 1, 1) := by decide +kernel
theorem dX6_wrongFor_112 : decode cX6_wrongFor 112 = .ok (.iadd, 1) := by decide +kernel
theorem dX6_wrongFor_113 : decode cX6_wrongFor 113 = .ok (.iload 5, 2) := by decide +kernel
theorem dX6_wrongFor_115 : decode cX6_wrongFor 115 = .ok (.iload 6, 2) := by decide +kernel
theorem dX6_wrongFor_117 : decode cX6_wrongFor 117 = .ok (.invokevirtual 28, 3) := by decide +kernel
theorem dX6_wrongFor_120 : decode cX6_wrongFor 120 = .ok (.ior, 1) := by decide +kernel
theorem dX6_wrongFor_121 : decode cX6_wrongFor 121 = .ok (.istore 7, 2) := by decide +kernel
theorem dX6_wrongFor_123 : decode cX6_wrongFor 123 = .ok (.iinc 9 1, 3) := by decide +kernel
theorem dX6_wrongFor_126 : decode cX6_wrongFor 126 = .ok (.goto (-94), 3) := by decide +kernel
theorem dX6_wrongFor_129 : decode cX6_wrongFor 129 = .ok (.iload 7, 2) := by decide +kernel
theorem dX6_wrongFor_131 : decode cX6_wrongFor 131 = .ok (.ireturn, 1) := by decide +kernel
def p_wrongFor_99 (a1 : Nat) (a2 : Int32) (a4 : Nat) (a5 : Int32) (a6 : Int32) (a7 : Int32) (a8 : Int32) (a9 : Int32) (m : M) : Option ((Int32 × Int32 × Int32 × Int32) ⊕ ((Int32))) :=
  Option.bind (b_nearerToFive a5 m) (fun v1 => Option.bind (p_wrongBehind (a9 + (1 : Int32)) v1 a6 m) (fun v2 => lt (a7 ||| v2) (fun w3 : Int32 => lt (a9 + (1 : Int32)) (fun w4 : Int32 => some (.inl (v1, a6, w3, w4))))))
set_option maxRecDepth 20000 in
theorem t_p_wrongFor_99 {G : GG} {x : Cx} {K : ((Int32 × Int32 × Int32 × Int32) ⊕ ((Int32))) → Option (Option Value × M)} (E : En G x cX6_wrongFor "WreckBoard$Reports" 4 (some .int)) (hn : xn x = 12) (a1 : Nat) (a2 : Int32) (a4 : Nat) (a5 : Int32) (a6 : Int32) (a7 : Int32) (a8 : Int32) (a9 : Int32) (m : M) (hb : ∀ z : Int32 × Int32 × Int32 × Int32, Sm G x 32 [(0, .ref (G.2.1 4)), (1, .ref (G.2.1 a1)), (2, .int a2), (4, .ref (G.2.1 a4)), (5, .int z.1), (6, .int z.2.1), (7, .int z.2.2.1), (8, .int a8), (9, .int z.2.2.2)] [] m (some (.inl z)) K) (hx0 : ∀ z : Int32, Sm G x 129 [(7, .int z)] [] m (some (.inr z)) K) : Sm G x 99 [(0, .ref (G.2.1 4)), (1, .ref (G.2.1 a1)), (2, .int a2), (4, .ref (G.2.1 a4)), (5, .int a5), (6, .int a6), (7, .int a7), (8, .int a8), (9, .int a9)] [] m (p_wrongFor_99 a1 a2 a4 a5 a6 a7 a8 a9 m) K := by
  unfold p_wrongFor_99
  refine s_iload 4 E dX6_wrongFor_99 rfl ?_
  refine s_bd (fun v1 hz => ?_)
  refine s_cS (rest := []) E (C_b_nearerToFive (xl x) G a5 m hz) mdX0_nearerToFive W1014 W816 W92 W817 rfl rfl (Nat.le_of_ble_eq_true rfl) ⟨by decide, by decide⟩ dX6_wrongFor_101 ?_
  refine s_istore (lv' := [(0, .ref (G.2.1 4)), (1, .ref (G.2.1 a1)), (2, .int a2), (4, .ref (G.2.1 a4)), (5, .int v1), (6, .int a6), (7, .int a7), (8, .int a8), (9, .int a9)]) [1, 2, 3, 4, 0, 5, 6, 7, 8] E dX6_wrongFor_104 (by rw [hn]; decide) rfl ?_
  refine s_iload 6 E dX6_wrongFor_106 rfl ?_
  refine s_aload_n 0 E dX6_wrongFor_108 rfl rfl ?_
  refine s_iload 8 E dX6_wrongFor_109 rfl ?_
  refine s_iconst (v := (1 : Int32)) E dX6_wrongFor_111 (by decide) ?_
  refine s_iadd E dX6_wrongFor_112 ?_
  refine s_iload 4 E dX6_wrongFor_113 rfl ?_
  refine s_iload 5 E dX6_wrongFor_115 rfl ?_
  refine s_bd (fun v2 hz => ?_)
  refine s_cV (rest := [.int a7]) E (C_p_wrongBehind (xl x) G (a9 + (1 : Int32)) v1 a6 m hz) mdX6_wrongBehind W997 W999 W20 W94 W1000 rfl rfl rfl rfl (Nat.le_of_ble_eq_true rfl) ⟨by decide, by decide⟩ dX6_wrongFor_117 ?_
  refine s_ior E dX6_wrongFor_120 ?_
  refine s_lt (fun w3 => [(0, .ref (G.2.1 4)), (1, .ref (G.2.1 a1)), (2, .int a2), (4, .ref (G.2.1 a4)), (5, .int v1), (6, .int a6), (7, .int a7), (8, .int a8), (9, .int a9)]) (fun w3 => [.int w3]) rfl rfl (fun w3 => ?_)
  refine s_istore (lv' := [(0, .ref (G.2.1 4)), (1, .ref (G.2.1 a1)), (2, .int a2), (4, .ref (G.2.1 a4)), (5, .int v1), (6, .int a6), (7, .int w3), (8, .int a8), (9, .int a9)]) [1, 2, 3, 4, 5, 6, 0, 7, 8] E dX6_wrongFor_121 (by rw [hn]; decide) rfl ?_
  refine s_iincL (v := (1 : Int32)) 8 [1, 2, 3, 4, 5, 6, 7, 8, 0] (fun w4 => [(0, .ref (G.2.1 4)), (1, .ref (G.2.1 a1)), (2, .int a2), (4, .ref (G.2.1 a4)), (5, .int v1), (6, .int a6), (7, .int w3), (8, .int a8), (9, .int w4)]) E dX6_wrongFor_123 rfl (by decide) (by rw [hn]; decide) (fun _ => rfl) (fun w4 => ?_)
  refine s_goto 32 E dX6_wrongFor_126 (by decide) ?_
  exact hb (v1, a6, w3, w4)
def p_wrongFor_32b (a1 : Nat) (a2 : Int32) (a4 : Nat) (a5 : Int32) (a6 : Int32) (a7 : Int32) (a8 : Int32) (a9 : Int32) (m : M) : Option ((Int32 × Int32 × Int32 × Int32) ⊕ ((Int32))) :=
  (if a8 ≤ a9 then some (.inr a7) else Option.bind (rdI m a4 a9) (fun v1 => Option.bind (b_valueOf v1 m) (fun v2 => Option.bind (vd_leansBy a1 v2 a5 a2 a9 m) (fun v3 => Option.bind (k_side v3 m) (fun v4 => Option.bind (b_held (a5 - ((2 : Int32) * (v4 - (1 : Int32)))) m) (fun v5 => Option.bind (b_isLost v1 v5 m) (fun v6 => (if v6 = 0 then p_wrongFor_99 a1 a2 a4 v5 a6 a7 a8 a9 m else Option.bind (b_fundOf v1 m) (fun v7 => lt (a6 + v7) (fun w8 : Int32 => p_wrongFor_99 a1 a2 a4 v5 w8 a7 a8 a9 m))))))))))
set_option maxRecDepth 20000 in
theorem t_p_wrongFor_32b {G : GG} {x : Cx} {K : ((Int32 × Int32 × Int32 × Int32) ⊕ ((Int32))) → Option (Option Value × M)} (E : En G x cX6_wrongFor "WreckBoard$Reports" 4 (some .int)) (hn : xn x = 12) (a1 : Nat) (a2 : Int32) (a4 : Nat) (a5 : Int32) (a6 : Int32) (a7 : Int32) (a8 : Int32) (a9 : Int32) (m : M) (hb : ∀ z : Int32 × Int32 × Int32 × Int32, Sm G x 32 [(0, .ref (G.2.1 4)), (1, .ref (G.2.1 a1)), (2, .int a2), (4, .ref (G.2.1 a4)), (5, .int z.1), (6, .int z.2.1), (7, .int z.2.2.1), (8, .int a8), (9, .int z.2.2.2)] [] m (some (.inl z)) K) (hx0 : ∀ z : Int32, Sm G x 129 [(7, .int z)] [] m (some (.inr z)) K) : Sm G x 32 [(0, .ref (G.2.1 4)), (1, .ref (G.2.1 a1)), (2, .int a2), (4, .ref (G.2.1 a4)), (5, .int a5), (6, .int a6), (7, .int a7), (8, .int a8), (9, .int a9)] [] m (p_wrongFor_32b a1 a2 a4 a5 a6 a7 a8 a9 m) K := by
  unfold p_wrongFor_32b
  refine s_iload 8 E dX6_wrongFor_32 rfl ?_
  refine s_iload 7 E dX6_wrongFor_34 rfl ?_
  refine s_icmp_ge 129 E dX6_wrongFor_36 (by decide) ?_ ?_
  · refine s_sub (lv' := [(7, .int a7)]) [6] rfl ?_
    exact hx0 a7
  · refine s_aload 3 E dX6_wrongFor_39 rfl ?_
    refine s_iload 8 E dX6_wrongFor_41 rfl ?_
    refine s_iald E dX6_wrongFor_43 (fun v1 => ?_)
    refine s_istore (lv' := [(0, .ref (G.2.1 4)), (1, .ref (G.2.1 a1)), (2, .int a2), (4, .ref (G.2.1 a4)), (5, .int a5), (6, .int a6), (7, .int a7), (8, .int a8), (9, .int a9), (10, .int v1)]) [1, 2, 3, 4, 5, 6, 7, 8, 9, 0] E dX6_wrongFor_44 (by rw [hn]; decide) rfl ?_
    refine s_aload_n 1 E dX6_wrongFor_46 rfl rfl ?_
    refine s_iload 9 E dX6_wrongFor_47 rfl ?_
    refine s_bd (fun v2 hz => ?_)
    refine s_cS (rest := [.ref (G.2.1 a1)]) E (C_b_valueOf (xl x) G v1 m hz) mdX0_valueOf W1008 W436 W92 W437 rfl rfl (Nat.le_of_ble_eq_true rfl) ⟨by decide, by decide⟩ dX6_wrongFor_49 ?_
    refine s_iload 4 E dX6_wrongFor_52 rfl ?_
    refine s_iload_n 2 E dX6_wrongFor_54 rfl rfl ?_
    refine s_iload 8 E dX6_wrongFor_55 rfl ?_
    refine s_bd (fun v3 hz => ?_)
    refine D_vd_leansBy [] E a1 v2 a5 a2 a9 hz W1009 (Nat.le_of_ble_eq_true rfl) (by decide) dX6_wrongFor_57 ?_
    refine s_istore (lv' := [(0, .ref (G.2.1 4)), (1, .ref (G.2.1 a1)), (2, .int a2), (4, .ref (G.2.1 a4)), (5, .int a5), (6, .int a6), (7, .int a7), (8, .int a8), (9, .int a9), (10, .int v1), (11, .int v3)]) [1, 2, 3, 4, 5, 6, 7, 8, 9, 10, 0] E dX6_wrongFor_60 (by rw [hn]; decide) rfl ?_
    refine s_iload 4 E dX6_wrongFor_62 rfl ?_
    refine s_iconst (v := (2 : Int32)) E dX6_wrongFor_64 (by decide) ?_
    refine s_iload 10 E dX6_wrongFor_65 rfl ?_
    refine s_bd (fun v4 hz => ?_)
    refine s_cSN (rest := [.int (2 : Int32), .int a5]) (host := "WreckBoard") E (C_k_side (xl x) G v3 m hz) mdX11_side (by decide) W462 W91 W463 rfl rfl (Nat.le_of_ble_eq_true rfl) ⟨by decide, by decide⟩ dX6_wrongFor_67 ?_
    refine s_iconst (v := (1 : Int32)) E dX6_wrongFor_70 (by decide) ?_
    refine s_isub E dX6_wrongFor_71 ?_
    refine s_imul E dX6_wrongFor_72 ?_
    refine s_isub E dX6_wrongFor_73 ?_
    refine s_bd (fun v5 hz => ?_)
    refine s_cS (rest := []) E (C_b_held (xl x) G (a5 - ((2 : Int32) * (v4 - (1 : Int32)))) m hz) mdX0_held W1011 W807 W92 W808 rfl rfl (Nat.le_of_ble_eq_true rfl) ⟨by decide, by decide⟩ dX6_wrongFor_74 ?_
    refine s_istore (lv' := [(0, .ref (G.2.1 4)), (1, .ref (G.2.1 a1)), (2, .int a2), (4, .ref (G.2.1 a4)), (5, .int v5), (6, .int a6), (7, .int a7), (8, .int a8), (9, .int a9), (10, .int v1)]) [1, 2, 3, 4, 0, 5, 6, 7, 8, 9] E dX6_wrongFor_77 (by rw [hn]; decide) rfl ?_
    refine s_iload 9 E dX6_wrongFor_79 rfl ?_
    refine s_iload 4 E dX6_wrongFor_81 rfl ?_
    refine s_bd (fun v6 hz => ?_)
    refine s_cS (rest := []) E (C_b_isLost (xl x) G v1 v5 m hz) mdX0_isLost W1012 W810 W92 W811 rfl rfl (Nat.le_of_ble_eq_true rfl) ⟨by decide, by decide⟩ dX6_wrongFor_83 ?_
    refine s_if_eq 99 E dX6_wrongFor_86 (by decide) ?_ ?_
    · refine s_sub (lv' := [(0, .ref (G.2.1 4)), (1, .ref (G.2.1 a1)), (2, .int a2), (4, .ref (G.2.1 a4)), (5, .int v5), (6, .int a6), (7, .int a7), (8, .int a8), (9, .int a9)]) [0, 1, 2, 3, 4, 5, 6, 7, 8] rfl ?_
      exact t_p_wrongFor_99 E hn a1 a2 a4 v5 a6 a7 a8 a9 m hb hx0
    · refine s_iload 5 E dX6_wrongFor_89 rfl ?_
      refine s_iload 9 E dX6_wrongFor_91 rfl ?_
      refine s_bd (fun v7 hz => ?_)
      refine s_cS (rest := [.int a6]) E (C_b_fundOf (xl x) G v1 m hz) mdX0_fundOf W1013 W813 W92 W814 rfl rfl (Nat.le_of_ble_eq_true rfl) ⟨by decide, by decide⟩ dX6_wrongFor_93 ?_
      refine s_iadd E dX6_wrongFor_96 ?_
      refine s_lt (fun w8 => [(0, .ref (G.2.1 4)), (1, .ref (G.2.1 a1)), (2, .int a2), (4, .ref (G.2.1 a4)), (5, .int v5), (6, .int a6), (7, .int a7), (8, .int a8), (9, .int a9), (10, .int v1)]) (fun w8 => [.int w8]) rfl rfl (fun w8 => ?_)
      refine s_istore (lv' := [(0, .ref (G.2.1 4)), (1, .ref (G.2.1 a1)), (2, .int a2), (4, .ref (G.2.1 a4)), (5, .int v5), (6, .int w8), (7, .int a7), (8, .int a8), (9, .int a9)]) [1, 2, 3, 4, 5, 0, 6, 7, 8] E dX6_wrongFor_97 (by rw [hn]; decide) rfl ?_
      exact t_p_wrongFor_99 E hn a1 a2 a4 v5 w8 a7 a8 a9 m hb hx0
def p_wrongFor_32 (a1 : Nat) (a2 : Int32) (a4 : Nat) (a5 : Int32) (a6 : Int32) (a7 : Int32) (a8 : Int32) (a9 : Int32) (m : M) : Option (Int32) :=
  Option.bind (iter (fun z => p_wrongFor_32b a1 a2 a4 z.1 z.2.1 z.2.2.1 a8 z.2.2.2 m) FU (a5, a6, a7, a9)) (fun r => some r)
set_option maxRecDepth 20000 in
theorem t_p_wrongFor_32 {G : GG} {x : Cx} (E : En G x cX6_wrongFor "WreckBoard$Reports" 4 (some .int)) (hn : xn x = 12) (a1 : Nat) (a2 : Int32) (a4 : Nat) (a5 : Int32) (a6 : Int32) (a7 : Int32) (a8 : Int32) (a9 : Int32) (m : M) : Sm G x 32 [(0, .ref (G.2.1 4)), (1, .ref (G.2.1 a1)), (2, .int a2), (4, .ref (G.2.1 a4)), (5, .int a5), (6, .int a6), (7, .int a7), (8, .int a8), (9, .int a9)] [] m (p_wrongFor_32 a1 a2 a4 a5 a6 a7 a8 a9 m) (KRi m) := by
  unfold p_wrongFor_32
  refine s_loop (fun z => [(0, .ref (G.2.1 4)), (1, .ref (G.2.1 a1)), (2, .int a2), (4, .ref (G.2.1 a4)), (5, .int z.1), (6, .int z.2.1), (7, .int z.2.2.1), (8, .int a8), (9, .int z.2.2.2)]) (fun z => m) (fun K2 hb2 hr2 z => ?_) FU (a5, a6, a7, a9)
  refine t_p_wrongFor_32b (K := K2) E hn a1 a2 a4 z.1 z.2.1 z.2.2.1 a8 z.2.2.2 m hb2 (fun r => s_out (hr2 r) ?_)
  · refine s_iload 0 E dX6_wrongFor_129 rfl ?_
    exact s_iret E rfl dX6_wrongFor_131
def p_wrongFor (a1 : Nat) (a2 : Int32) (a3 : Int32) (a4 : Nat) (m : M) : Option (Int32) :=
  Option.bind (p_wrongBehind (0 : Int32) a3 (0 : Int32) m) (fun v1 => Option.bind (p_latest m) (fun v2 => Option.bind (lenI a4) (fun n3 => lt (mnI v2 n3) (fun w4 : Int32 => p_wrongFor_32 a1 a2 a4 a3 (0 : Int32) v1 w4 (0 : Int32) m))))
set_option maxRecDepth 20000 in
theorem t_p_wrongFor {G : GG} {x : Cx} (E : En G x cX6_wrongFor "WreckBoard$Reports" 4 (some .int)) (hn : xn x = 12) (a1 : Nat) (a2 : Int32) (a3 : Int32) (a4 : Nat) (m : M) : Sm G x 0 [(0, .ref (G.2.1 4)), (1, .ref (G.2.1 a1)), (2, .int a2), (3, .int a3), (4, .ref (G.2.1 a4))] [] m (p_wrongFor a1 a2 a3 a4 m) (KRi m) := by
  unfold p_wrongFor
  refine s_iload_n 3 E dX6_wrongFor_0 rfl rfl ?_
  refine s_istore (lv' := [(0, .ref (G.2.1 4)), (1, .ref (G.2.1 a1)), (2, .int a2), (4, .ref (G.2.1 a4)), (5, .int a3)]) [1, 2, 3, 5, 0] E dX6_wrongFor_1 (by rw [hn]; decide) rfl ?_
  refine s_iconst (v := (0 : Int32)) E dX6_wrongFor_3 (by decide) ?_
  refine s_istore (lv' := [(0, .ref (G.2.1 4)), (1, .ref (G.2.1 a1)), (2, .int a2), (4, .ref (G.2.1 a4)), (5, .int a3), (6, .int (0 : Int32))]) [1, 2, 3, 4, 5, 0] E dX6_wrongFor_4 (by rw [hn]; decide) rfl ?_
  refine s_aload_n 0 E dX6_wrongFor_6 rfl rfl ?_
  refine s_iconst (v := (0 : Int32)) E dX6_wrongFor_7 (by decide) ?_
  refine s_iload 4 E dX6_wrongFor_8 rfl ?_
  refine s_iload 5 E dX6_wrongFor_10 rfl ?_
  refine s_bd (fun v1 hz => ?_)
  refine s_cV (rest := []) E (C_p_wrongBehind (xl x) G (0 : Int32) a3 (0 : Int32) m hz) mdX6_wrongBehind W997 W999 W20 W94 W1000 rfl rfl rfl rfl (Nat.le_of_ble_eq_true rfl) ⟨by decide, by decide⟩ dX6_wrongFor_12 ?_
  refine s_istore (lv' := [(0, .ref (G.2.1 4)), (1, .ref (G.2.1 a1)), (2, .int a2), (4, .ref (G.2.1 a4)), (5, .int a3), (6, .int (0 : Int32)), (7, .int v1)]) [1, 2, 3, 4, 5, 6, 0] E dX6_wrongFor_15 (by rw [hn]; decide) rfl ?_
  refine s_aload_n 0 E dX6_wrongFor_17 rfl rfl ?_
  refine s_bd (fun v2 hz => ?_)
  refine s_cV (rest := []) E (C_p_latest (xl x) G  m hz) mdX6_latest W1002 W1004 W21 W94 W1005 rfl rfl rfl rfl (Nat.le_of_ble_eq_true rfl) ⟨by decide, by decide⟩ dX6_wrongFor_18 ?_
  refine s_aload 3 E dX6_wrongFor_21 rfl ?_
  refine s_alenS E dX6_wrongFor_23 (fun n3 => ?_)
  refine s_mmin E W1007 W488 W104 W489 (by decide) (Nat.le_of_ble_eq_true rfl) dX6_wrongFor_24 ?_
  refine s_lt (fun w4 => [(0, .ref (G.2.1 4)), (1, .ref (G.2.1 a1)), (2, .int a2), (4, .ref (G.2.1 a4)), (5, .int a3), (6, .int (0 : Int32)), (7, .int v1)]) (fun w4 => [.int w4]) rfl rfl (fun w4 => ?_)
  refine s_istore (lv' := [(0, .ref (G.2.1 4)), (1, .ref (G.2.1 a1)), (2, .int a2), (4, .ref (G.2.1 a4)), (5, .int a3), (6, .int (0 : Int32)), (7, .int v1), (8, .int w4)]) [1, 2, 3, 4, 5, 6, 7, 0] E dX6_wrongFor_27 (by rw [hn]; decide) rfl ?_
  refine s_iconst (v := (0 : Int32)) E dX6_wrongFor_29 (by decide) ?_
  refine s_istore (lv' := [(0, .ref (G.2.1 4)), (1, .ref (G.2.1 a1)), (2, .int a2), (4, .ref (G.2.1 a4)), (5, .int a3), (6, .int (0 : Int32)), (7, .int v1), (8, .int w4), (9, .int (0 : Int32))]) [1, 2, 3, 4, 5, 6, 7, 8, 0] E dX6_wrongFor_30 (by rw [hn]; decide) rfl ?_
  exact t_p_wrongFor_32 E hn a1 a2 a4 a3 (0 : Int32) v1 w4 (0 : Int32) m
set_option maxRecDepth 20000 in
theorem C_p_wrongFor (l : Launch) (G : GG) (a1 : Nat) (a2 : Int32) (a3 : Int32) (a4 : Nat) (m : M) {z : Int32} (hz : p_wrongFor a1 a2 a3 a4 m = some z) : Ct l G yX6_wrongFor cX6_wrongFor 12 (some .int) 4 [.ref (G.2.1 4), .ref (G.2.1 a1), .int a2, .int a3, .ref (G.2.1 a4)] m (some (.int z)) m :=
  ct_of (K := (KRi m)) (by decide) (Nat.le_of_ble_eq_true rfl) (congrArg (fun q => Option.bind q _) hz) (fun x hl hn E => (t_p_wrongFor E hn a1 a2 a3 a4 m))
theorem mdX6_wrongFor : mdq yX6_wrongFor 4 := ⟨by decide, by decide, by decide +kernel⟩
theorem dX11_wrongReportsFor_0 : decode cX11_wrongReportsFor 0 = .ok (.aload_n 0, 1) := by decide +kernel
theorem dX11_wrongReportsFor_1 : decode cX11_wrongReportsFor 1 = .ok (.getfield 12, 3) := by decide +kernel
theorem dX11_wrongReportsFor_4 : decode cX11_wrongReportsFor 4 = .ok (.getfield 275, 3) := by decide +kernel
theorem dX11_wrongReportsFor_7 : decode cX11_wrongReportsFor 7 = .ok (.aload_n 0, 1) := by decide +kernel
theorem dX11_wrongReportsFor_8 : decode cX11_wrongReportsFor 8 = .ok (.getfield 12, 3) := by decide +kernel
theorem dX11_wrongReportsFor_11 : decode cX11_wrongReportsFor 11 = .ok (.getfield 297, 3) := by decide +kernel
theorem dX11_wrongReportsFor_14 : decode cX11_wrongReportsFor 14 = .ok (.iload_n 1, 1) := by decide +kernel
theorem dX11_wrongReportsFor_15 : decode cX11_wrongReportsFor 15 = .ok (.invokestatic 288, 3) := by decide +kernel
theorem dX11_wrongReportsFor_18 : decode cX11_wrongReportsFor 18 = .ok (.aaload, 1) := by decide +kernel
theorem dX11_wrongReportsFor_19 : decode cX11_wrongReportsFor 19 = .ok (.iload_n 1, 1) := by decide +kernel
theorem dX11_wrongReportsFor_20 : decode cX11_wrongReportsFor 20 = .ok (.invokestatic 291, 3) := by decide +kernel
theorem dX11_wrongReportsFor_23 : decode cX11_wrongReportsFor 23 = .ok (.iload_n 1, 1) := by decide +kernel
theorem dX11_wrongReportsFor_24 : decode cX11_wrongReportsFor 24 = .ok (.invokestatic 294, 3) := by decide +kernel
theorem dX11_wrongReportsFor_27 : decode cX11_wrongReportsFor 27 = .ok (.aload_n 0, 1) := by decide +kernel
theorem dX11_wrongReportsFor_28 : decode cX11_wrongReportsFor 28 = .ok (.getfield 12, 3) := by decide +kernel
theorem dX11_wrongReportsFor_31 : decode cX11_wrongReportsFor 31 = .ok (.getfield 121, 3) := by decide +kernel
theorem dX11_wrongReportsFor_34 : decode cX11_wrongReportsFor 34 = .ok (.invokevirtual 301, 3) := by decide +kernel
theorem dX11_wrongReportsFor_37 : decode cX11_wrongReportsFor 37 = .ok (.ireturn, 1) := by decide +kernel
def k_wrongReportsFor (a1 : Int32) (m : M) : Option (Int32) :=
  Option.bind (k_kindOfLone a1 m) (fun v1 => Option.bind (rdR 17 v1) (fun p2 => Option.bind (k_greedOfLone a1 m) (fun v3 => Option.bind (k_lightOfLone a1 m) (fun v4 => Option.bind (p_wrongFor p2 v3 v4 14 m) (fun v5 => some v5)))))
set_option maxRecDepth 20000 in
theorem t_k_wrongReportsFor {G : GG} {x : Cx} (E : En G x cX11_wrongReportsFor "WreckBoard" 5 (some .int)) (hn : xn x = 2) (a1 : Int32) (m : M) : Sm G x 0 [(0, .ref (G.2.1 0)), (1, .int a1)] [] m (k_wrongReportsFor a1 m) (KRi m) := by
  unfold k_wrongReportsFor
  refine s_aload_n 0 E dX11_wrongReportsFor_0 rfl rfl ?_
  refine s_getr (k := 0) (T := TX11) 0 E rfl rfl rfl inX11 (by decide) W360 dX11_wrongReportsFor_1 ?_
  refine s_getr (k := 17) (T := TX0) 1 E rfl rfl rfl inX0 (by decide) W261 dX11_wrongReportsFor_4 ?_
  refine s_aload_n 0 E dX11_wrongReportsFor_7 rfl rfl ?_
  refine s_getr (k := 0) (T := TX11) 0 E rfl rfl rfl inX11 (by decide) W360 dX11_wrongReportsFor_8 ?_
  refine s_getr (k := 18) (T := TX0) 1 E rfl rfl rfl inX0 (by decide) W263 dX11_wrongReportsFor_11 ?_
  refine s_iload_n 1 E dX11_wrongReportsFor_14 rfl rfl ?_
  refine s_bd (fun v1 hz => ?_)
  refine s_cS (rest := [.ref (G.2.1 17), .ref (G.2.1 4)]) E (C_k_kindOfLone (xl x) G a1 m hz) mdX11_kindOfLone W984 W985 W91 W986 rfl rfl (Nat.le_of_ble_eq_true rfl) ⟨by decide, by decide⟩ dX11_wrongReportsFor_15 ?_
  refine s_aald E dX11_wrongReportsFor_18 (fun p2 => ?_)
  refine s_iload_n 1 E dX11_wrongReportsFor_19 rfl rfl ?_
  refine s_bd (fun v3 hz => ?_)
  refine s_cS (rest := [.ref (G.2.1 p2), .ref (G.2.1 4)]) E (C_k_greedOfLone (xl x) G a1 m hz) mdX11_greedOfLone W987 W988 W91 W989 rfl rfl (Nat.le_of_ble_eq_true rfl) ⟨by decide, by decide⟩ dX11_wrongReportsFor_20 ?_
  refine s_iload_n 1 E dX11_wrongReportsFor_23 rfl rfl ?_
  refine s_bd (fun v4 hz => ?_)
  refine s_cS (rest := [.int v3, .ref (G.2.1 p2), .ref (G.2.1 4)]) E (C_k_lightOfLone (xl x) G a1 m hz) mdX11_lightOfLone W990 W991 W91 W992 rfl rfl (Nat.le_of_ble_eq_true rfl) ⟨by decide, by decide⟩ dX11_wrongReportsFor_24 ?_
  refine s_aload_n 0 E dX11_wrongReportsFor_27 rfl rfl ?_
  refine s_getr (k := 0) (T := TX11) 0 E rfl rfl rfl inX11 (by decide) W360 dX11_wrongReportsFor_28 ?_
  refine s_getr (k := 13) (T := TX0) 1 E rfl rfl rfl inX0 (by decide) W253 dX11_wrongReportsFor_31 ?_
  refine s_bd (fun v5 hz => ?_)
  refine s_cV (rest := []) E (C_p_wrongFor (xl x) G p2 v3 v4 14 m hz) mdX6_wrongFor W993 W994 W995 W94 W996 rfl rfl rfl rfl (Nat.le_of_ble_eq_true rfl) ⟨by decide, by decide⟩ dX11_wrongReportsFor_34 ?_
  exact s_iret E rfl dX11_wrongReportsFor_37
set_option maxRecDepth 20000 in
theorem C_k_wrongReportsFor (l : Launch) (G : GG) (a1 : Int32) (m : M) {z : Int32} (hz : k_wrongReportsFor a1 m = some z) : Ct l G yX11_wrongReportsFor cX11_wrongReportsFor 2 (some .int) 5 [.ref (G.2.1 0), .int a1] m (some (.int z)) m :=
  ct_of (K := (KRi m)) (by decide) (Nat.le_of_ble_eq_true rfl) (congrArg (fun q => Option.bind q _) hz) (fun x hl hn E => (t_k_wrongReportsFor E hn a1 m))
theorem mdX11_wrongReportsFor : mdq yX11_wrongReportsFor 1 := ⟨by decide, by decide, by decide +kernel⟩
theorem dX11_lone_0 : decode cX11_lone 0 = .ok (.iload_n 1, 1) := by decide +kernel
theorem dX11_lone_1 : decode cX11_lone 1 = .ok (.iconst 0, 1) := by decide +kernel
theorem dX11_lone_2 : decode cX11_lone 2 = .ok (.iconst 3, 1) := by decide +kernel
theorem dX11_lone_3 : decode cX11_lone 3 = .ok (.invokestatic 61, 3) := by decide +kernel
theorem dX11_lone_6 : decode cX11_lone 6 = .ok (.ifCond .ne 5, 3) := by decide +kernel
theorem dX11_lone_9 : decode cX11_lone 9 = .ok (.iconst (-1), 1) := by decide +kernel
theorem dX11_lone_10 : decode cX11_lone 10 = .ok (.ireturn, 1) := by decide +kernel
theorem dX11_lone_11 : decode cX11_lone 11 = .ok (.iconst 0, 1) := by decide +kernel
theorem dX11_lone_12 : decode cX11_lone 12 = .ok (.istore_n 2, 1) := by decide +kernel
theorem dX11_lone_13 : decode cX11_lone 13 = .ok (.iconst 0, 1) := by decide +kernel
theorem dX11_lone_14 : decode cX11_lone 14 = .ok (.istore_n 3, 1) := by decide +kernel
theorem dX11_lone_15 : decode cX11_lone 15 = .ok (.sipush 499, 3) := by decide +kernel
theorem dX11_lone_18 : decode cX11_lone 18 = .ok (.istore 4, 2) := by decide +kernel
theorem dX11_lone_20 : decode cX11_lone 20 = .ok (.iload 4, 2) := by decide +kernel
theorem dX11_lone_22 : decode cX11_lone 22 = .ok (.ifCond .lt 24, 3) := by decide +kernel
theorem dX11_lone_25 : decode cX11_lone 25 = .ok (.aload_n 0, 1) := by decide +kernel
theorem dX11_lone_26 : decode cX11_lone 26 = .ok (.iload 4, 2) := by decide +kernel
theorem dX11_lone_28 : decode cX11_lone 28 = .ok (.invokevirtual 285, 3) := by decide +kernel
theorem dX11_lone_31 : decode cX11_lone 31 = .ok (.ifCond .ne 9, 3) := by decide +kernel
theorem dX11_lone_34 : decode cX11_lone 34 = .ok (.iinc 2 1, 3) := by decide +kernel
theorem dX11_lone_37 : decode cX11_lone 37 = .ok (.iload 4, 2) := by decide +kernel
theorem dX11_lone_39 : decode cX11_lone 39 = .ok (.istore_n 3, 1) := by decide +kernel
theorem dX11_lone_40 : decode cX11_lone 40 = .ok (.iinc 4 (-1), 3) := by decide +kernel
theorem dX11_lone_43 : decode cX11_lone 43 = .ok (.goto (-23), 3) := by decide +kernel
theorem dX11_lone_46 : decode cX11_lone 46 = .ok (.iload_n 1, 1) := by decide +kernel
theorem dX11_lone_47 : decode cX11_lone 47 = .ok (.ifCond .ne 5, 3) := by decide +kernel
theorem dX11_lone_50 : decode cX11_lone 50 = .ok (.iload_n 2, 1) := by decide +kernel
theorem dX11_lone_51 : decode cX11_lone 51 = .ok (.ireturn, 1) := by decide +kernel
theorem dX11_lone_52 : decode cX11_lone 52 = .ok (.iload_n 2, 1) := by decide +kernel
theorem dX11_lone_53 : decode cX11_lone 53 = .ok (.ifCond .ne 6, 3) := by decide +kernel
theorem dX11_lone_56 : decode cX11_lone 56 = .ok (.bipush (-3), 2) := by decide +kernel
theorem dX11_lone_58 : decode cX11_lone 58 = .ok (.ireturn, 1) := by decide +kernel
theorem dX11_lone_59 : decode cX11_lone 59 = .ok (.iload_n 1, 1) := by decide +kernel
theorem dX11_lone_60 : decode cX11_lone 60 = .ok (.lookupswitch 38 #[(1, 28), (2, 33)], 28) := by decide +kernel
theorem dX11_lone_88 : decode cX11_lone 88 = .ok (.iload_n 3, 1) := by decide +kernel
theorem dX11_lone_89 : decode cX11_lone 89 = .ok (.invokestatic 288, 3) := by decide +kernel
theorem dX11_lone_92 : decode cX11_lone 92 = .ok (.ireturn, 1) := by decide +kernel
theorem dX11_lone_93 : decode cX11_lone 93 = .ok (.iload_n 3, 1) := by decide +kernel
theorem dX11_lone_94 : decode cX11_lone 94 = .ok (.invokestatic 291, 3) := by decide +kernel
theorem dX11_lone_97 : decode cX11_lone 97 = .ok (.ireturn, 1) := by decide +kernel
theorem dX11_lone_98 : decode cX11_lone 98 = .ok (.iload_n 3, 1) := by decide +kernel
theorem dX11_lone_99 : decode cX11_lone 99 = .ok (.invokestatic 294, 3) := by decide +kernel
theorem dX11_lone_102 : decode cX11_lone 102 = .ok (.ireturn, 1) := by decide +kernel
def k_lone_40 (a1 : Int32) (a2 : Int32) (a3 : Int32) (a4 : Int32) (m : M) : Option ((Int32 × Int32 × Int32) ⊕ ((Int32 × Int32))) :=
  lt (a4 + (-1 : Int32)) (fun w1 : Int32 => some (.inl (a2, a3, w1)))
set_option maxRecDepth 20000 in
theorem t_k_lone_40 {G : GG} {x : Cx} {K : ((Int32 × Int32 × Int32) ⊕ ((Int32 × Int32))) → Option (Option Value × M)} (E : En G x cX11_lone "WreckBoard" 6 (some .int)) (hn : xn x = 5) (a1 : Int32) (a2 : Int32) (a3 : Int32) (a4 : Int32) (m : M) (hb : ∀ z : Int32 × Int32 × Int32, Sm G x 20 [(0, .ref (G.2.1 0)), (1, .int a1), (2, .int z.1), (3, .int z.2.1), (4, .int z.2.2)] [] m (some (.inl z)) K) (hx0 : ∀ z : Int32 × Int32, Sm G x 46 [(1, .int a1), (2, .int z.1), (3, .int z.2)] [] m (some (.inr z)) K) : Sm G x 40 [(0, .ref (G.2.1 0)), (1, .int a1), (2, .int a2), (3, .int a3), (4, .int a4)] [] m (k_lone_40 a1 a2 a3 a4 m) K := by
  unfold k_lone_40
  refine s_iincL (v := (-1 : Int32)) 4 [1, 2, 3, 4, 0] (fun w1 => [(0, .ref (G.2.1 0)), (1, .int a1), (2, .int a2), (3, .int a3), (4, .int w1)]) E dX11_lone_40 rfl (by decide) (by rw [hn]; decide) (fun _ => rfl) (fun w1 => ?_)
  refine s_goto 20 E dX11_lone_43 (by decide) ?_
  exact hb (a2, a3, w1)
def k_lone_20b (a1 : Int32) (a2 : Int32) (a3 : Int32) (a4 : Int32) (m : M) : Option ((Int32 × Int32 × Int32) ⊕ ((Int32 × Int32))) :=
  (if a4 < 0 then some (.inr (a2, a3)) else Option.bind (k_wrongReportsFor a4 m) (fun v1 => (if v1 = 0 then lt (a2 + (1 : Int32)) (fun w2 : Int32 => k_lone_40 a1 w2 a4 a4 m) else k_lone_40 a1 a2 a3 a4 m)))
set_option maxRecDepth 20000 in
theorem t_k_lone_20b {G : GG} {x : Cx} {K : ((Int32 × Int32 × Int32) ⊕ ((Int32 × Int32))) → Option (Option Value × M)} (E : En G x cX11_lone "WreckBoard" 6 (some .int)) (hn : xn x = 5) (a1 : Int32) (a2 : Int32) (a3 : Int32) (a4 : Int32) (m : M) (hb : ∀ z : Int32 × Int32 × Int32, Sm G x 20 [(0, .ref (G.2.1 0)), (1, .int a1), (2, .int z.1), (3, .int z.2.1), (4, .int z.2.2)] [] m (some (.inl z)) K) (hx0 : ∀ z : Int32 × Int32, Sm G x 46 [(1, .int a1), (2, .int z.1), (3, .int z.2)] [] m (some (.inr z)) K) : Sm G x 20 [(0, .ref (G.2.1 0)), (1, .int a1), (2, .int a2), (3, .int a3), (4, .int a4)] [] m (k_lone_20b a1 a2 a3 a4 m) K := by
  unfold k_lone_20b
  refine s_iload 4 E dX11_lone_20 rfl ?_
  refine s_if_lt 46 E dX11_lone_22 (by decide) ?_ ?_
  · refine s_sub (lv' := [(1, .int a1), (2, .int a2), (3, .int a3)]) [1, 2, 3] rfl ?_
    exact hx0 (a2, a3)
  · refine s_aload_n 0 E dX11_lone_25 rfl rfl ?_
    refine s_iload 4 E dX11_lone_26 rfl ?_
    refine s_bd (fun v1 hz => ?_)
    refine s_cV (rest := []) E (C_k_wrongReportsFor (xl x) G a4 m hz) mdX11_wrongReportsFor W980 W982 W19 W91 W983 rfl rfl rfl rfl (Nat.le_of_ble_eq_true rfl) ⟨by decide, by decide⟩ dX11_lone_28 ?_
    refine s_if_ne 40 E dX11_lone_31 (by decide) ?_ ?_
    · exact t_k_lone_40 E hn a1 a2 a3 a4 m hb hx0
    · refine s_iincL (v := (1 : Int32)) 2 [1, 2, 0, 4] (fun w2 => [(0, .ref (G.2.1 0)), (1, .int a1), (2, .int w2), (4, .int a4)]) E dX11_lone_34 rfl (by decide) (by rw [hn]; decide) (fun _ => rfl) (fun w2 => ?_)
      refine s_iload 3 E dX11_lone_37 rfl ?_
      refine s_istore_n (lv' := [(0, .ref (G.2.1 0)), (1, .int a1), (2, .int w2), (3, .int a4), (4, .int a4)]) [1, 2, 3, 0, 4] E dX11_lone_39 rfl (by rw [hn]; decide) rfl ?_
      exact t_k_lone_40 E hn a1 w2 a4 a4 m hb hx0
def k_lone_20 (a1 : Int32) (a2 : Int32) (a3 : Int32) (a4 : Int32) (m : M) : Option (Int32) :=
  Option.bind (iter (fun z => k_lone_20b a1 z.1 z.2.1 z.2.2 m) FU (a2, a3, a4)) (fun r => (if a1 = 0 then some r.1 else (if r.1 = 0 then some (-3 : Int32) else (if a1 = (1 : Int32) then Option.bind (k_kindOfLone r.2 m) (fun v3 => some v3) else (if a1 = (2 : Int32) then Option.bind (k_greedOfLone r.2 m) (fun v4 => some v4) else Option.bind (k_lightOfLone r.2 m) (fun v5 => some v5))))))
set_option maxRecDepth 20000 in
theorem t_k_lone_20 {G : GG} {x : Cx} (E : En G x cX11_lone "WreckBoard" 6 (some .int)) (hn : xn x = 5) (a1 : Int32) (a2 : Int32) (a3 : Int32) (a4 : Int32) (m : M) : Sm G x 20 [(0, .ref (G.2.1 0)), (1, .int a1), (2, .int a2), (3, .int a3), (4, .int a4)] [] m (k_lone_20 a1 a2 a3 a4 m) (KRi m) := by
  unfold k_lone_20
  refine s_loop (fun z => [(0, .ref (G.2.1 0)), (1, .int a1), (2, .int z.1), (3, .int z.2.1), (4, .int z.2.2)]) (fun z => m) (fun K2 hb2 hr2 z => ?_) FU (a2, a3, a4)
  refine t_k_lone_20b (K := K2) E hn a1 z.1 z.2.1 z.2.2 m hb2 (fun r => s_out (hr2 r) ?_)
  · refine s_iload_n 0 E dX11_lone_46 rfl rfl ?_
    refine s_if_ne 52 E dX11_lone_47 (by decide) ?_ ?_
    · refine s_iload_n 1 E dX11_lone_52 rfl rfl ?_
      refine s_if_ne 59 E dX11_lone_53 (by decide) ?_ ?_
      · refine s_iload_n 0 E dX11_lone_59 rfl rfl ?_
        refine s_case (fun h60_0 => ?_) (fun h60_0 => ?_)
        · refine s_look (off := 28) 88 E dX11_lone_60 (by decide) (by rw [h60_0]; decide) (by decide) ?_
          refine s_iload_n 2 E dX11_lone_88 rfl rfl ?_
          refine s_bd (fun v3 hz => ?_)
          refine s_cS (rest := []) E (C_k_kindOfLone (xl x) G r.2 m hz) mdX11_kindOfLone W984 W985 W91 W986 rfl rfl (Nat.le_of_ble_eq_true rfl) ⟨by decide, by decide⟩ dX11_lone_89 ?_
          exact s_iret E rfl dX11_lone_92
        · refine s_case (fun h60_1 => ?_) (fun h60_1 => ?_)
          · refine s_look (off := 33) 93 E dX11_lone_60 (by decide) (by rw [h60_1]; decide) (by decide) ?_
            refine s_iload_n 2 E dX11_lone_93 rfl rfl ?_
            refine s_bd (fun v4 hz => ?_)
            refine s_cS (rest := []) E (C_k_greedOfLone (xl x) G r.2 m hz) mdX11_greedOfLone W987 W988 W91 W989 rfl rfl (Nat.le_of_ble_eq_true rfl) ⟨by decide, by decide⟩ dX11_lone_94 ?_
            exact s_iret E rfl dX11_lone_97
          · refine s_look (off := 38) 98 E dX11_lone_60 (by decide) (by have e0 := ne_toIntK h60_0 (k := 1) (by decide); have e1 := ne_toIntK h60_1 (k := 2) (by decide); simp [Op.lookupswitch.offset, e0, Ne.symm e0, e1, Ne.symm e1]) (by decide) ?_
            refine s_iload_n 2 E dX11_lone_98 rfl rfl ?_
            refine s_bd (fun v5 hz => ?_)
            refine s_cS (rest := []) E (C_k_lightOfLone (xl x) G r.2 m hz) mdX11_lightOfLone W990 W991 W91 W992 rfl rfl (Nat.le_of_ble_eq_true rfl) ⟨by decide, by decide⟩ dX11_lone_99 ?_
            exact s_iret E rfl dX11_lone_102
      · refine s_bipush (v := (-3 : Int32)) E dX11_lone_56 (by decide) ?_
        exact s_iret E rfl dX11_lone_58
    · refine s_iload_n 1 E dX11_lone_50 rfl rfl ?_
      exact s_iret E rfl dX11_lone_51
def k_lone (a1 : Int32) (m : M) : Option (Int32) :=
  Option.bind (k_within a1 (0 : Int32) (3 : Int32) m) (fun v1 => (if v1 = 0 then some (-1 : Int32) else k_lone_20 a1 (0 : Int32) (0 : Int32) (499 : Int32) m))
set_option maxRecDepth 20000 in
theorem t_k_lone {G : GG} {x : Cx} (E : En G x cX11_lone "WreckBoard" 6 (some .int)) (hn : xn x = 5) (a1 : Int32) (m : M) : Sm G x 0 [(0, .ref (G.2.1 0)), (1, .int a1)] [] m (k_lone a1 m) (KRi m) := by
  unfold k_lone
  refine s_iload_n 1 E dX11_lone_0 rfl rfl ?_
  refine s_iconst (v := (0 : Int32)) E dX11_lone_1 (by decide) ?_
  refine s_iconst (v := (3 : Int32)) E dX11_lone_2 (by decide) ?_
  refine s_bd (fun v1 hz => ?_)
  refine s_cS (rest := []) E (C_k_within (xl x) G a1 (0 : Int32) (3 : Int32) m hz) mdX11_within W404 W405 W91 W406 rfl rfl (Nat.le_of_ble_eq_true rfl) ⟨by decide, by decide⟩ dX11_lone_3 ?_
  refine s_if_ne 11 E dX11_lone_6 (by decide) ?_ ?_
  · refine s_iconst (v := (0 : Int32)) E dX11_lone_11 (by decide) ?_
    refine s_istore_n (lv' := [(0, .ref (G.2.1 0)), (1, .int a1), (2, .int (0 : Int32))]) [1, 2, 0] E dX11_lone_12 rfl (by rw [hn]; decide) rfl ?_
    refine s_iconst (v := (0 : Int32)) E dX11_lone_13 (by decide) ?_
    refine s_istore_n (lv' := [(0, .ref (G.2.1 0)), (1, .int a1), (2, .int (0 : Int32)), (3, .int (0 : Int32))]) [1, 2, 3, 0] E dX11_lone_14 rfl (by rw [hn]; decide) rfl ?_
    refine s_sipush (v := (499 : Int32)) E dX11_lone_15 (by decide) ?_
    refine s_istore (lv' := [(0, .ref (G.2.1 0)), (1, .int a1), (2, .int (0 : Int32)), (3, .int (0 : Int32)), (4, .int (499 : Int32))]) [1, 2, 3, 4, 0] E dX11_lone_18 (by rw [hn]; decide) rfl ?_
    exact t_k_lone_20 E hn a1 (0 : Int32) (0 : Int32) (499 : Int32) m
  · refine s_iconst (v := (-1 : Int32)) E dX11_lone_9 (by decide) ?_
    exact s_iret E rfl dX11_lone_10
set_option maxRecDepth 20000 in
theorem C_k_lone (l : Launch) (G : GG) (a1 : Int32) (m : M) {z : Int32} (hz : k_lone a1 m = some z) : Ct l G yX11_lone cX11_lone 5 (some .int) 6 [.ref (G.2.1 0), .int a1] m (some (.int z)) m :=
  ct_of (K := (KRi m)) (by decide) (Nat.le_of_ble_eq_true rfl) (congrArg (fun q => Option.bind q _) hz) (fun x hl hn E => (t_k_lone E hn a1 m))
theorem dX11_liar_0 : decode cX11_liar 0 = .ok (.iconst 0, 1) := by decide +kernel
theorem dX11_liar_1 : decode cX11_liar 1 = .ok (.istore_n 1, 1) := by decide +kernel
theorem dX11_liar_2 : decode cX11_liar 2 = .ok (.iconst 0, 1) := by decide +kernel
theorem dX11_liar_3 : decode cX11_liar 3 = .ok (.istore_n 2, 1) := by decide +kernel
theorem dX11_liar_4 : decode cX11_liar 4 = .ok (.iload_n 2, 1) := by decide +kernel
theorem dX11_liar_5 : decode cX11_liar 5 = .ok (.sipush 500, 3) := by decide +kernel
theorem dX11_liar_8 : decode cX11_liar 8 = .ok (.if_icmp .ge 34, 3) := by decide +kernel
theorem dX11_liar_11 : decode cX11_liar 11 = .ok (.aload_n 0, 1) := by decide +kernel
theorem dX11_liar_12 : decode cX11_liar 12 = .ok (.iload_n 2, 1) := by decide +kernel
theorem dX11_liar_13 : decode cX11_liar 13 = .ok (.invokevirtual 285, 3) := by decide +kernel
theorem dX11_liar_16 : decode cX11_liar 16 = .ok (.istore_n 3, 1) := by decide +kernel
theorem dX11_liar_17 : decode cX11_liar 17 = .ok (.iload_n 3, 1) := by decide +kernel
theorem dX11_liar_18 : decode cX11_liar 18 = .ok (.ifCond .ne 6, 3) := by decide +kernel
theorem dX11_liar_21 : decode cX11_liar 21 = .ok (.bipush (-3), 2) := by decide +kernel
theorem dX11_liar_23 : decode cX11_liar 23 = .ok (.ireturn, 1) := by decide +kernel
theorem dX11_liar_24 : decode cX11_liar 24 = .ok (.iload_n 3, 1) := by decide +kernel
theorem dX11_liar_25 : decode cX11_liar 25 = .ok (.invokestatic 217, 3) := by decide +kernel
theorem dX11_liar_28 : decode cX11_liar 28 = .ok (.iconst 1, 1) := by decide +kernel
theorem dX11_liar_29 : decode cX11_liar 29 = .ok (.if_icmp .ne 7, 3) := by decide +kernel
theorem dX11_liar_32 : decode cX11_liar 32 = .ok (.iload_n 1, 1) := by decide +kernel
theorem dX11_liar_33 : decode cX11_liar 33 = .ok (.iload_n 3, 1) := by decide +kernel
theorem dX11_liar_34 : decode cX11_liar 34 = .ok (.ior, 1) := by decide +kernel
theorem dX11_liar_35 : decode cX11_liar 35 = .ok (.istore_n 1, 1) := by decide +kernel
theorem dX11_liar_36 : decode cX11_liar 36 = .ok (.iinc 2 1, 3) := by decide +kernel
theorem dX11_liar_39 : decode cX11_liar 39 = .ok (.goto (-35), 3) := by decide +kernel
theorem dX11_liar_42 : decode cX11_liar 42 = .ok (.iconst 0, 1) := by decide +kernel
theorem dX11_liar_43 : decode cX11_liar 43 = .ok (.istore_n 2, 1) := by decide +kernel
theorem dX11_liar_44 : decode cX11_liar 44 = .ok (.iload_n 2, 1) := by decide +kernel
theorem dX11_liar_45 : decode cX11_liar 45 = .ok (.bipush 6, 2) := by decide +kernel
theorem dX11_liar_47 : decode cX11_liar 47 = .ok (.if_icmp .ge 19, 3) := by decide +kernel
theorem dX11_liar_50 : decode cX11_liar 50 = .ok (.iload_n 1, 1) := by decide +kernel
theorem dX11_liar_51 : decode cX11_liar 51 = .ok (.iload_n 2, 1) := by decide +kernel
theorem dX11_liar_52 : decode cX11_liar 52 = .ok (.invokestatic 208, 3) := by decide +kernel
theorem dX11_liar_55 : decode cX11_liar 55 = .ok (.ifCond .eq 5, 3) := by decide +kernel
theorem dX11_liar_58 : decode cX11_liar 58 = .ok (.iload_n 2, 1) := by decide +kernel
theorem dX11_liar_59 : decode cX11_liar 59 = .ok (.ireturn, 1) := by decide +kernel
theorem dX11_liar_60 : decode cX11_liar 60 = .ok (.iinc 2 1, 3) := by decide +kernel
theorem dX11_liar_63 : decode cX11_liar 63 = .ok (.goto (-19), 3) := by decide +kernel
theorem dX11_liar_66 : decode cX11_liar 66 = .ok (.bipush (-3), 2) := by decide +kernel
theorem dX11_liar_68 : decode cX11_liar 68 = .ok (.ireturn, 1) := by decide +kernel
def k_liar_36 (a1 : Int32) (a2 : Int32) (m : M) : Option ((Int32 × Int32) ⊕ ((Int32) ⊕ ((Unit)))) :=
  lt (a2 + (1 : Int32)) (fun w1 : Int32 => some (.inl (a1, w1)))
set_option maxRecDepth 20000 in
theorem t_k_liar_36 {G : GG} {x : Cx} {K : ((Int32 × Int32) ⊕ ((Int32) ⊕ ((Unit)))) → Option (Option Value × M)} (E : En G x cX11_liar "WreckBoard" 6 (some .int)) (hn : xn x = 4) (a1 : Int32) (a2 : Int32) (m : M) (hb : ∀ z : Int32 × Int32, Sm G x 4 [(0, .ref (G.2.1 0)), (1, .int z.1), (2, .int z.2)] [] m (some (.inl z)) K) (hx0 : ∀ z : Int32, Sm G x 42 [(1, .int z)] [] m (some (.inr (.inl z))) K) (hx1 : ∀ z : Unit, Sm G x 21 [] [] m (some (.inr (.inr z))) K) : Sm G x 36 [(0, .ref (G.2.1 0)), (1, .int a1), (2, .int a2)] [] m (k_liar_36 a1 a2 m) K := by
  unfold k_liar_36
  refine s_iincL (v := (1 : Int32)) 2 [1, 2, 0] (fun w1 => [(0, .ref (G.2.1 0)), (1, .int a1), (2, .int w1)]) E dX11_liar_36 rfl (by decide) (by rw [hn]; decide) (fun _ => rfl) (fun w1 => ?_)
  refine s_goto 4 E dX11_liar_39 (by decide) ?_
  exact hb (a1, w1)
def k_liar_4b (a1 : Int32) (a2 : Int32) (m : M) : Option ((Int32 × Int32) ⊕ ((Int32) ⊕ ((Unit)))) :=
  (if (500 : Int32) ≤ a2 then some (.inr (.inl a1)) else Option.bind (k_wrongReportsFor a2 m) (fun v1 => (if v1 = 0 then some (.inr (.inr ())) else Option.bind (i_bitCount v1 m) (fun v2 => (if v2 = (1 : Int32) then lt (a1 ||| v1) (fun w3 : Int32 => k_liar_36 w3 a2 m) else k_liar_36 a1 a2 m)))))
set_option maxRecDepth 20000 in
theorem t_k_liar_4b {G : GG} {x : Cx} {K : ((Int32 × Int32) ⊕ ((Int32) ⊕ ((Unit)))) → Option (Option Value × M)} (E : En G x cX11_liar "WreckBoard" 6 (some .int)) (hn : xn x = 4) (a1 : Int32) (a2 : Int32) (m : M) (hb : ∀ z : Int32 × Int32, Sm G x 4 [(0, .ref (G.2.1 0)), (1, .int z.1), (2, .int z.2)] [] m (some (.inl z)) K) (hx0 : ∀ z : Int32, Sm G x 42 [(1, .int z)] [] m (some (.inr (.inl z))) K) (hx1 : ∀ z : Unit, Sm G x 21 [] [] m (some (.inr (.inr z))) K) : Sm G x 4 [(0, .ref (G.2.1 0)), (1, .int a1), (2, .int a2)] [] m (k_liar_4b a1 a2 m) K := by
  unfold k_liar_4b
  refine s_iload_n 2 E dX11_liar_4 rfl rfl ?_
  refine s_sipush (v := (500 : Int32)) E dX11_liar_5 (by decide) ?_
  refine s_icmp_ge 42 E dX11_liar_8 (by decide) ?_ ?_
  · refine s_sub (lv' := [(1, .int a1)]) [1] rfl ?_
    exact hx0 a1
  · refine s_aload_n 0 E dX11_liar_11 rfl rfl ?_
    refine s_iload_n 2 E dX11_liar_12 rfl rfl ?_
    refine s_bd (fun v1 hz => ?_)
    refine s_cV (rest := []) E (C_k_wrongReportsFor (xl x) G a2 m hz) mdX11_wrongReportsFor W980 W982 W19 W91 W983 rfl rfl rfl rfl (Nat.le_of_ble_eq_true rfl) ⟨by decide, by decide⟩ dX11_liar_13 ?_
    refine s_istore_n (lv' := [(0, .ref (G.2.1 0)), (1, .int a1), (2, .int a2), (3, .int v1)]) [1, 2, 3, 0] E dX11_liar_16 rfl (by rw [hn]; decide) rfl ?_
    refine s_iload_n 3 E dX11_liar_17 rfl rfl ?_
    refine s_if_ne 24 E dX11_liar_18 (by decide) ?_ ?_
    · refine s_iload_n 3 E dX11_liar_24 rfl rfl ?_
      refine s_bd (fun v2 hz => ?_)
      refine s_cS (rest := []) E (C_i_bitCount (xl x) G v1 m hz) mdJ6_bitCount_0f7a4 W891 W892 W111 W893 rfl rfl (Nat.le_of_ble_eq_true rfl) ⟨by decide, by decide⟩ dX11_liar_25 ?_
      refine s_iconst (v := (1 : Int32)) E dX11_liar_28 (by decide) ?_
      refine s_icmp_ne 36 E dX11_liar_29 (by decide) ?_ ?_
      · refine s_sub (lv' := [(0, .ref (G.2.1 0)), (1, .int a1), (2, .int a2)]) [0, 1, 2] rfl ?_
        exact t_k_liar_36 E hn a1 a2 m hb hx0 hx1
      · refine s_iload_n 1 E dX11_liar_32 rfl rfl ?_
        refine s_iload_n 3 E dX11_liar_33 rfl rfl ?_
        refine s_ior E dX11_liar_34 ?_
        refine s_lt (fun w3 => [(0, .ref (G.2.1 0)), (1, .int a1), (2, .int a2), (3, .int v1)]) (fun w3 => [.int w3]) rfl rfl (fun w3 => ?_)
        refine s_istore_n (lv' := [(0, .ref (G.2.1 0)), (1, .int w3), (2, .int a2)]) [1, 0, 2] E dX11_liar_35 rfl (by rw [hn]; decide) rfl ?_
        exact t_k_liar_36 E hn w3 a2 m hb hx0 hx1
    · refine s_sub (lv' := []) [] rfl ?_
      exact hx1 ()
def k_liar_44b (a1 : Int32) (a2 : Int32) (m : M) : Option ((Int32) ⊕ ((Unit) ⊕ ((Int32)))) :=
  (if (6 : Int32) ≤ a2 then some (.inr (.inl ())) else Option.bind (k_isIn a1 a2 m) (fun v1 => (if v1 = 0 then lt (a2 + (1 : Int32)) (fun w2 : Int32 => some (.inl w2)) else some (.inr (.inr a2)))))
set_option maxRecDepth 20000 in
theorem t_k_liar_44b {G : GG} {x : Cx} {K : ((Int32) ⊕ ((Unit) ⊕ ((Int32)))) → Option (Option Value × M)} (E : En G x cX11_liar "WreckBoard" 6 (some .int)) (hn : xn x = 4) (a1 : Int32) (a2 : Int32) (m : M) (hb : ∀ z : Int32, Sm G x 44 [(1, .int a1), (2, .int z)] [] m (some (.inl z)) K) (hx0 : ∀ z : Unit, Sm G x 66 [] [] m (some (.inr (.inl z))) K) (hx1 : ∀ z : Int32, Sm G x 58 [(2, .int z)] [] m (some (.inr (.inr z))) K) : Sm G x 44 [(1, .int a1), (2, .int a2)] [] m (k_liar_44b a1 a2 m) K := by
  unfold k_liar_44b
  refine s_iload_n 1 E dX11_liar_44 rfl rfl ?_
  refine s_bipush (v := (6 : Int32)) E dX11_liar_45 (by decide) ?_
  refine s_icmp_ge 66 E dX11_liar_47 (by decide) ?_ ?_
  · refine s_sub (lv' := []) [] rfl ?_
    exact hx0 ()
  · refine s_iload_n 0 E dX11_liar_50 rfl rfl ?_
    refine s_iload_n 1 E dX11_liar_51 rfl rfl ?_
    refine s_bd (fun v1 hz => ?_)
    refine s_cS (rest := []) E (C_k_isIn (xl x) G a1 a2 m hz) mdX11_isIn W520 W425 W91 W426 rfl rfl (Nat.le_of_ble_eq_true rfl) ⟨by decide, by decide⟩ dX11_liar_52 ?_
    refine s_if_eq 60 E dX11_liar_55 (by decide) ?_ ?_
    · refine s_iincL (v := (1 : Int32)) 1 [1, 0] (fun w2 => [(1, .int a1), (2, .int w2)]) E dX11_liar_60 rfl (by decide) (by rw [hn]; decide) (fun _ => rfl) (fun w2 => ?_)
      refine s_goto 44 E dX11_liar_63 (by decide) ?_
      exact hb w2
    · refine s_sub (lv' := [(2, .int a2)]) [1] rfl ?_
      exact hx1 a2
def k_liar_44 (a1 : Int32) (a2 : Int32) (m : M) : Option (Int32) :=
  Option.bind (iter (fun z => k_liar_44b a1 z m) FU a2) (fun r => (match r with
  | .inl r => some (-3 : Int32)
  | .inr r => some r))
set_option maxRecDepth 20000 in
theorem t_k_liar_44 {G : GG} {x : Cx} (E : En G x cX11_liar "WreckBoard" 6 (some .int)) (hn : xn x = 4) (a1 : Int32) (a2 : Int32) (m : M) : Sm G x 44 [(1, .int a1), (2, .int a2)] [] m (k_liar_44 a1 a2 m) (KRi m) := by
  unfold k_liar_44
  refine s_loop (fun z => [(1, .int a1), (2, .int z)]) (fun z => m) (fun K2 hb2 hr2 z => ?_) FU a2
  refine t_k_liar_44b (K := K2) E hn a1 z m hb2 (fun r => s_out (hr2 (.inl r)) ?_) (fun r => s_out (hr2 (.inr r)) ?_)
  · refine s_bipush (v := (-3 : Int32)) E dX11_liar_66 (by decide) ?_
    exact s_iret E rfl dX11_liar_68
  · refine s_iload_n 0 E dX11_liar_58 rfl rfl ?_
    exact s_iret E rfl dX11_liar_59
def k_liar_4 (a1 : Int32) (a2 : Int32) (m : M) : Option (Int32) :=
  Option.bind (iter (fun z => k_liar_4b z.1 z.2 m) FU (a1, a2)) (fun r => (match r with
  | .inl r => k_liar_44 r (0 : Int32) m
  | .inr r => some (-3 : Int32)))
set_option maxRecDepth 20000 in
theorem t_k_liar_4 {G : GG} {x : Cx} (E : En G x cX11_liar "WreckBoard" 6 (some .int)) (hn : xn x = 4) (a1 : Int32) (a2 : Int32) (m : M) : Sm G x 4 [(0, .ref (G.2.1 0)), (1, .int a1), (2, .int a2)] [] m (k_liar_4 a1 a2 m) (KRi m) := by
  unfold k_liar_4
  refine s_loop (fun z => [(0, .ref (G.2.1 0)), (1, .int z.1), (2, .int z.2)]) (fun z => m) (fun K2 hb2 hr2 z => ?_) FU (a1, a2)
  refine t_k_liar_4b (K := K2) E hn z.1 z.2 m hb2 (fun r => s_out (hr2 (.inl r)) ?_) (fun r => s_out (hr2 (.inr r)) ?_)
  · refine s_iconst (v := (0 : Int32)) E dX11_liar_42 (by decide) ?_
    refine s_istore_n (lv' := [(1, .int r), (2, .int (0 : Int32))]) [1, 0] E dX11_liar_43 rfl (by rw [hn]; decide) rfl ?_
    exact t_k_liar_44 E hn r (0 : Int32) m
  · refine s_bipush (v := (-3 : Int32)) E dX11_liar_21 (by decide) ?_
    exact s_iret E rfl dX11_liar_23
def k_liar  (m : M) : Option (Int32) :=
  k_liar_4 (0 : Int32) (0 : Int32) m
set_option maxRecDepth 20000 in
theorem t_k_liar {G : GG} {x : Cx} (E : En G x cX11_liar "WreckBoard" 6 (some .int)) (hn : xn x = 4)  (m : M) : Sm G x 0 [(0, .ref (G.2.1 0))] [] m (k_liar m) (KRi m) := by
  unfold k_liar
  refine s_iconst (v := (0 : Int32)) E dX11_liar_0 (by decide) ?_
  refine s_istore_n (lv' := [(0, .ref (G.2.1 0)), (1, .int (0 : Int32))]) [1, 0] E dX11_liar_1 rfl (by rw [hn]; decide) rfl ?_
  refine s_iconst (v := (0 : Int32)) E dX11_liar_2 (by decide) ?_
  refine s_istore_n (lv' := [(0, .ref (G.2.1 0)), (1, .int (0 : Int32)), (2, .int (0 : Int32))]) [1, 2, 0] E dX11_liar_3 rfl (by rw [hn]; decide) rfl ?_
  exact t_k_liar_4 E hn (0 : Int32) (0 : Int32) m
set_option maxRecDepth 20000 in
theorem C_k_liar (l : Launch) (G : GG)  (m : M) {z : Int32} (hz : k_liar m = some z) : Ct l G yX11_liar cX11_liar 4 (some .int) 6 [.ref (G.2.1 0)] m (some (.int z)) m :=
  ct_of (K := (KRi m)) (by decide) (Nat.le_of_ble_eq_true rfl) (congrArg (fun q => Option.bind q _) hz) (fun x hl hn E => (t_k_liar E hn  m))
theorem dX11_seed_0 : decode cX11_seed 0 = .ok (.aload_n 0, 1) := by decide +kernel
theorem dX11_seed_1 : decode cX11_seed 1 = .ok (.getfield 12, 3) := by decide +kernel
theorem dX11_seed_4 : decode cX11_seed 4 = .ok (.getfield 305, 3) := by decide +kernel
theorem dX11_seed_7 : decode cX11_seed 7 = .ok (.istore_n 2, 1) := by decide +kernel
theorem dX11_seed_8 : decode cX11_seed 8 = .ok (.aload_n 0, 1) := by decide +kernel
theorem dX11_seed_9 : decode cX11_seed 9 = .ok (.getfield 12, 3) := by decide +kernel
theorem dX11_seed_12 : decode cX11_seed 12 = .ok (.iload_n 1, 1) := by decide +kernel
theorem dX11_seed_13 : decode cX11_seed 13 = .ok (.putfield 305, 3) := by decide +kernel
theorem dX11_seed_16 : decode cX11_seed 16 = .ok (.iload_n 2, 1) := by decide +kernel
theorem dX11_seed_17 : decode cX11_seed 17 = .ok (.ireturn, 1) := by decide +kernel
def k_seed (a1 : Int32) (m : M) : Option (Int32 × M) :=
  lt (m 1 5) (fun w1 : Int32 => lt (wrF m 1 5 a1) (fun m2 => some (w1, m2)))
set_option maxRecDepth 20000 in
theorem t_k_seed {G : GG} {x : Cx} (E : En G x cX11_seed "WreckBoard" 1 (some .int)) (hn : xn x = 3) (a1 : Int32) (m : M) : Sm G x 0 [(0, .ref (G.2.1 0)), (1, .int a1)] [] m (k_seed a1 m) KWi := by
  unfold k_seed
  refine s_aload_n 0 E dX11_seed_0 rfl rfl ?_
  refine s_getr (k := 0) (T := TX11) 0 E rfl rfl rfl inX11 (by decide) W360 dX11_seed_1 ?_
  refine s_geti (k := 5) (T := TX0) 1 E rfl rfl rfl inX0 (by decide) W235 dX11_seed_4 ?_
  refine s_lt (fun w1 => [(0, .ref (G.2.1 0)), (1, .int a1)]) (fun w1 => [.int w1]) rfl rfl (fun w1 => ?_)
  refine s_istore_n (lv' := [(0, .ref (G.2.1 0)), (1, .int a1), (2, .int w1)]) [1, 2, 0] E dX11_seed_7 rfl (by rw [hn]; decide) rfl ?_
  refine s_aload_n 0 E dX11_seed_8 rfl rfl ?_
  refine s_getr (k := 0) (T := TX11) 0 E rfl rfl rfl inX11 (by decide) W360 dX11_seed_9 ?_
  refine s_iload_n 1 E dX11_seed_12 rfl rfl ?_
  refine s_put (k := 5) (T := TX0) (ty := .int) 1 E rfl rfl rfl inX0 tyX0 tyX0_ok nmX0 (by decide) W235 rfl (by decide +kernel) rfl rfl dX11_seed_13 ?_
  refine s_ltm rfl (fun m2 => ?_)
  refine s_iload_n 2 E dX11_seed_16 rfl rfl ?_
  exact s_iret E rfl dX11_seed_17
set_option maxRecDepth 20000 in
theorem C_k_seed (l : Launch) (G : GG) (a1 : Int32) (m : M) {z : Int32 × M} (hz : k_seed a1 m = some z) : Ct l G yX11_seed cX11_seed 3 (some .int) 1 [.ref (G.2.1 0), .int a1] m (some (.int z.1)) z.2 :=
  ct_of (K := KWi) (by decide) (Nat.le_of_ble_eq_true rfl) (congrArg (fun q => Option.bind q _) hz) (fun x hl hn E => (t_k_seed E hn a1 m))
theorem dX0_nightByLot_0 : decode cX0_nightByLot 0 = .ok (.aload_n 0, 1) := by decide +kernel
theorem dX0_nightByLot_1 : decode cX0_nightByLot 1 = .ok (.aload_n 0, 1) := by decide +kernel
theorem dX0_nightByLot_2 : decode cX0_nightByLot 2 = .ok (.getfield 18, 3) := by decide +kernel
theorem dX0_nightByLot_5 : decode cX0_nightByLot 5 = .ok (.ldc 187, 2) := by decide +kernel
theorem dX0_nightByLot_7 : decode cX0_nightByLot 7 = .ok (.imul, 1) := by decide +kernel
theorem dX0_nightByLot_8 : decode cX0_nightByLot 8 = .ok (.sipush 12345, 3) := by decide +kernel
theorem dX0_nightByLot_11 : decode cX0_nightByLot 11 = .ok (.iadd, 1) := by decide +kernel
theorem dX0_nightByLot_12 : decode cX0_nightByLot 12 = .ok (.putfield 18, 3) := by decide +kernel
theorem dX0_nightByLot_15 : decode cX0_nightByLot 15 = .ok (.aload_n 0, 1) := by decide +kernel
theorem dX0_nightByLot_16 : decode cX0_nightByLot 16 = .ok (.aload_n 0, 1) := by decide +kernel
theorem dX0_nightByLot_17 : decode cX0_nightByLot 17 = .ok (.getfield 18, 3) := by decide +kernel
theorem dX0_nightByLot_20 : decode cX0_nightByLot 20 = .ok (.bipush 16, 2) := by decide +kernel
theorem dX0_nightByLot_22 : decode cX0_nightByLot 22 = .ok (.iushr, 1) := by decide +kernel
theorem dX0_nightByLot_23 : decode cX0_nightByLot 23 = .ok (.aload_n 0, 1) := by decide +kernel
theorem dX0_nightByLot_24 : decode cX0_nightByLot 24 = .ok (.getfield 79, 3) := by decide +kernel
theorem dX0_nightByLot_27 : decode cX0_nightByLot 27 = .ok (.iconst 1, 1) := by decide +kernel
theorem dX0_nightByLot_28 : decode cX0_nightByLot 28 = .ok (.iadd, 1) := by decide +kernel
theorem dX0_nightByLot_29 : decode cX0_nightByLot 29 = .ok (.irem, 1) := by decide +kernel
theorem dX0_nightByLot_30 : decode cX0_nightByLot 30 = .ok (.aload_n 0, 1) := by decide +kernel
theorem dX0_nightByLot_31 : decode cX0_nightByLot 31 = .ok (.invokevirtual 172, 3) := by decide +kernel
theorem dX0_nightByLot_34 : decode cX0_nightByLot 34 = .ok (.invokevirtual 178, 3) := by decide +kernel
theorem dX0_nightByLot_37 : decode cX0_nightByLot 37 = .ok (.ireturn, 1) := by decide +kernel
def b_nightByLot  (m : M) : Option (Int32 × M) :=
  lt (wrF m 1 5 (((m 1 5) * (1103515245 : Int32)) + (12345 : Int32))) (fun m1 => Option.bind (rmI ((Int32.toUInt32 (m1 1 5) >>> (Int32.toUInt32 (16 : Int32) &&& Int32.toUInt32 31)).toInt32) ((m1 1 6) + (1 : Int32))) (fun q2 => Option.bind (b_count m1) (fun v3 => Option.bind (b_goesBy q2 v3 m1) (fun z4 => some (z4.1, z4.2)))))
set_option maxRecDepth 20000 in
theorem t_b_nightByLot {G : GG} {x : Cx} (E : En G x cX0_nightByLot "WreckBoard$Board" 6 (some .int)) (hn : xn x = 1)  (m : M) : Sm G x 0 [(0, .ref (G.2.1 1))] [] m (b_nightByLot m) KWi := by
  unfold b_nightByLot
  refine s_aload_n 0 E dX0_nightByLot_0 rfl rfl ?_
  refine s_aload_n 0 E dX0_nightByLot_1 rfl rfl ?_
  refine s_geti (k := 5) (T := TX0) 1 E rfl rfl rfl inX0 (by decide) W234 dX0_nightByLot_2 ?_
  refine s_ldc (v := (1103515245 : Int32)) E dX0_nightByLot_5 W1031 ?_
  refine s_imul E dX0_nightByLot_7 ?_
  refine s_sipush (v := (12345 : Int32)) E dX0_nightByLot_8 (by decide) ?_
  refine s_iadd E dX0_nightByLot_11 ?_
  refine s_put (k := 5) (T := TX0) (ty := .int) 1 E rfl rfl rfl inX0 tyX0 tyX0_ok nmX0 (by decide) W234 rfl (by decide +kernel) rfl rfl dX0_nightByLot_12 ?_
  refine s_ltm rfl (fun m1 => ?_)
  refine s_aload_n 0 E dX0_nightByLot_15 rfl rfl ?_
  refine s_aload_n 0 E dX0_nightByLot_16 rfl rfl ?_
  refine s_geti (k := 5) (T := TX0) 1 E rfl rfl rfl inX0 (by decide) W234 dX0_nightByLot_17 ?_
  refine s_bipush (v := (16 : Int32)) E dX0_nightByLot_20 (by decide) ?_
  refine s_iushr E dX0_nightByLot_22 ?_
  refine s_aload_n 0 E dX0_nightByLot_23 rfl rfl ?_
  refine s_geti (k := 6) (T := TX0) 1 E rfl rfl rfl inX0 (by decide) W236 dX0_nightByLot_24 ?_
  refine s_iconst (v := (1 : Int32)) E dX0_nightByLot_27 (by decide) ?_
  refine s_iadd E dX0_nightByLot_28 ?_
  refine s_irem E dX0_nightByLot_29 (fun q2 => ?_)
  refine s_aload_n 0 E dX0_nightByLot_30 rfl rfl ?_
  refine s_bd (fun v3 hz => ?_)
  refine s_cV (rest := [.int q2, .ref (G.2.1 1)]) E (C_b_count (xl x) G  m1 hz) mdX0_count W796 W500 W501 W92 W502 rfl rfl rfl rfl (Nat.le_of_ble_eq_true rfl) ⟨by decide, by decide⟩ dX0_nightByLot_31 ?_
  refine s_bd (fun z4 hz => ?_)
  refine s_cV (rest := []) E (C_b_goesBy (xl x) G q2 v3 m1 hz) mdX0_goesBy W798 W799 W800 W92 W801 rfl rfl rfl rfl (Nat.le_of_ble_eq_true rfl) ⟨by decide, by decide⟩ dX0_nightByLot_34 ?_
  exact s_iret E rfl dX0_nightByLot_37
set_option maxRecDepth 20000 in
theorem C_b_nightByLot (l : Launch) (G : GG)  (m : M) {z : Int32 × M} (hz : b_nightByLot m = some z) : Ct l G yX0_nightByLot cX0_nightByLot 1 (some .int) 6 [.ref (G.2.1 1)] m (some (.int z.1)) z.2 :=
  ct_of (K := KWi) (by decide) (Nat.le_of_ble_eq_true rfl) (congrArg (fun q => Option.bind q _) hz) (fun x hl hn E => (t_b_nightByLot E hn  m))
theorem mdX0_nightByLot : mdq yX0_nightByLot 0 := ⟨by decide, by decide, by decide +kernel⟩
theorem dX11_lot_0 : decode cX11_lot 0 = .ok (.aload_n 0, 1) := by decide +kernel
theorem dX11_lot_1 : decode cX11_lot 1 = .ok (.getfield 12, 3) := by decide +kernel
theorem dX11_lot_4 : decode cX11_lot 4 = .ok (.invokevirtual 148, 3) := by decide +kernel
theorem dX11_lot_7 : decode cX11_lot 7 = .ok (.ifCond .eq 6, 3) := by decide +kernel
theorem dX11_lot_10 : decode cX11_lot 10 = .ok (.bipush (-4), 2) := by decide +kernel
theorem dX11_lot_12 : decode cX11_lot 12 = .ok (.ireturn, 1) := by decide +kernel
theorem dX11_lot_13 : decode cX11_lot 13 = .ok (.aload_n 0, 1) := by decide +kernel
theorem dX11_lot_14 : decode cX11_lot 14 = .ok (.getfield 12, 3) := by decide +kernel
theorem dX11_lot_17 : decode cX11_lot 17 = .ok (.invokevirtual 308, 3) := by decide +kernel
theorem dX11_lot_20 : decode cX11_lot 20 = .ok (.istore_n 1, 1) := by decide +kernel
theorem dX11_lot_21 : decode cX11_lot 21 = .ok (.aload_n 0, 1) := by decide +kernel
theorem dX11_lot_22 : decode cX11_lot 22 = .ok (.getfield 12, 3) := by decide +kernel
theorem dX11_lot_25 : decode cX11_lot 25 = .ok (.dup, 1) := by decide +kernel
theorem dX11_lot_26 : decode cX11_lot 26 = .ok (.getfield 142, 3) := by decide +kernel
theorem dX11_lot_29 : decode cX11_lot 29 = .ok (.iload_n 1, 1) := by decide +kernel
theorem dX11_lot_30 : decode cX11_lot 30 = .ok (.iadd, 1) := by decide +kernel
theorem dX11_lot_31 : decode cX11_lot 31 = .ok (.putfield 142, 3) := by decide +kernel
theorem dX11_lot_34 : decode cX11_lot 34 = .ok (.iload_n 1, 1) := by decide +kernel
theorem dX11_lot_35 : decode cX11_lot 35 = .ok (.ireturn, 1) := by decide +kernel
def k_lot  (m : M) : Option (Int32 × M) :=
  Option.bind (b_isOver m) (fun v1 => (if v1 = 0 then Option.bind (b_nightByLot m) (fun z2 => lt (wrF z2.2 1 4 ((z2.2 1 4) + z2.1)) (fun m3 => some (z2.1, m3))) else some ((-4 : Int32), m)))
set_option maxRecDepth 20000 in
theorem t_k_lot {G : GG} {x : Cx} (E : En G x cX11_lot "WreckBoard" 7 (some .int)) (hn : xn x = 2)  (m : M) : Sm G x 0 [(0, .ref (G.2.1 0))] [] m (k_lot m) KWi := by
  unfold k_lot
  refine s_aload_n 0 E dX11_lot_0 rfl rfl ?_
  refine s_getr (k := 0) (T := TX11) 0 E rfl rfl rfl inX11 (by decide) W360 dX11_lot_1 ?_
  refine s_bd (fun v1 hz => ?_)
  refine s_cV (rest := []) E (C_b_isOver (xl x) G  m hz) mdX0_isOver W578 W579 W580 W92 W581 rfl rfl rfl rfl (Nat.le_of_ble_eq_true rfl) ⟨by decide, by decide⟩ dX11_lot_4 ?_
  refine s_if_eq 13 E dX11_lot_7 (by decide) ?_ ?_
  · refine s_aload_n 0 E dX11_lot_13 rfl rfl ?_
    refine s_getr (k := 0) (T := TX11) 0 E rfl rfl rfl inX11 (by decide) W360 dX11_lot_14 ?_
    refine s_bd (fun z2 hz => ?_)
    refine s_cV (rest := []) E (C_b_nightByLot (xl x) G  m hz) mdX0_nightByLot W1027 W1028 W1029 W92 W1030 rfl rfl rfl rfl (Nat.le_of_ble_eq_true rfl) ⟨by decide, by decide⟩ dX11_lot_17 ?_
    refine s_istore_n (lv' := [(0, .ref (G.2.1 0)), (1, .int z2.1)]) [1, 0] E dX11_lot_20 rfl (by rw [hn]; decide) rfl ?_
    refine s_aload_n 0 E dX11_lot_21 rfl rfl ?_
    refine s_getr (k := 0) (T := TX11) 0 E rfl rfl rfl inX11 (by decide) W360 dX11_lot_22 ?_
    refine s_dup E dX11_lot_25 rfl ?_
    refine s_geti (k := 4) (T := TX0) 1 E rfl rfl rfl inX0 (by decide) W232 dX11_lot_26 ?_
    refine s_iload_n 1 E dX11_lot_29 rfl rfl ?_
    refine s_iadd E dX11_lot_30 ?_
    refine s_put (k := 4) (T := TX0) (ty := .int) 1 E rfl rfl rfl inX0 tyX0 tyX0_ok nmX0 (by decide) W232 rfl (by decide +kernel) rfl rfl dX11_lot_31 ?_
    refine s_ltm rfl (fun m3 => ?_)
    refine s_iload_n 1 E dX11_lot_34 rfl rfl ?_
    exact s_iret E rfl dX11_lot_35
  · refine s_bipush (v := (-4 : Int32)) E dX11_lot_10 (by decide) ?_
    exact s_iret E rfl dX11_lot_12
set_option maxRecDepth 20000 in
theorem C_k_lot (l : Launch) (G : GG)  (m : M) {z : Int32 × M} (hz : k_lot m = some z) : Ct l G yX11_lot cX11_lot 2 (some .int) 7 [.ref (G.2.1 0)] m (some (.int z.1)) z.2 :=
  ct_of (K := KWi) (by decide) (Nat.le_of_ble_eq_true rfl) (congrArg (fun q => Option.bind q _) hz) (fun x hl hn E => (t_k_lot E hn  m))
theorem dX11_times_0 : decode cX11_times 0 = .ok (.iload_n 1, 1) := by decide +kernel
theorem dX11_times_1 : decode cX11_times 1 = .ok (.iconst 1, 1) := by decide +kernel
theorem dX11_times_2 : decode cX11_times 2 = .ok (.bipush 40, 2) := by decide +kernel
theorem dX11_times_4 : decode cX11_times 4 = .ok (.invokestatic 61, 3) := by decide +kernel
theorem dX11_times_7 : decode cX11_times 7 = .ok (.ifCond .eq 14, 3) := by decide +kernel
theorem dX11_times_10 : decode cX11_times 10 = .ok (.iload_n 2, 1) := by decide +kernel
theorem dX11_times_11 : decode cX11_times 11 = .ok (.iconst 0, 1) := by decide +kernel
theorem dX11_times_12 : decode cX11_times 12 = .ok (.sipush 999, 3) := by decide +kernel
theorem dX11_times_15 : decode cX11_times 15 = .ok (.invokestatic 61, 3) := by decide +kernel
theorem dX11_times_18 : decode cX11_times 18 = .ok (.ifCond .ne 5, 3) := by decide +kernel
theorem dX11_times_21 : decode cX11_times 21 = .ok (.iconst (-1), 1) := by decide +kernel
theorem dX11_times_22 : decode cX11_times 22 = .ok (.ireturn, 1) := by decide +kernel
theorem dX11_times_23 : decode cX11_times 23 = .ok (.aload_n 0, 1) := by decide +kernel
theorem dX11_times_24 : decode cX11_times 24 = .ok (.getfield 12, 3) := by decide +kernel
theorem dX11_times_27 : decode cX11_times 27 = .ok (.invokevirtual 178, 3) := by decide +kernel
theorem dX11_times_30 : decode cX11_times 30 = .ok (.lstore_n 3, 1) := by decide +kernel
theorem dX11_times_31 : decode cX11_times 31 = .ok (.aload_n 0, 1) := by decide +kernel
theorem dX11_times_32 : decode cX11_times 32 = .ok (.getfield 12, 3) := by decide +kernel
theorem dX11_times_35 : decode cX11_times 35 = .ok (.getfield 305, 3) := by decide +kernel
theorem dX11_times_38 : decode cX11_times 38 = .ok (.istore 5, 2) := by decide +kernel
theorem dX11_times_40 : decode cX11_times 40 = .ok (.iconst 0, 1) := by decide +kernel
theorem dX11_times_41 : decode cX11_times 41 = .ok (.istore 6, 2) := by decide +kernel
theorem dX11_times_43 : decode cX11_times 43 = .ok (.iconst 0, 1) := by decide +kernel
theorem dX11_times_44 : decode cX11_times 44 = .ok (.istore 7, 2) := by decide +kernel
theorem dX11_times_46 : decode cX11_times 46 = .ok (.iload 7, 2) := by decide +kernel
theorem dX11_times_48 : decode cX11_times 48 = .ok (.iload_n 1, 1) := by decide +kernel
theorem dX11_times_49 : decode cX11_times 49 = .ok (.if_icmp .ge 63, 3) := by decide +kernel
theorem dX11_times_52 : decode cX11_times 52 = .ok (.iconst 0, 1) := by decide +kernel
theorem dX11_times_53 : decode cX11_times 53 = .ok (.istore 8, 2) := by decide +kernel
theorem dX11_times_55 : decode cX11_times 55 = .ok (.aload_n 0, 1) := by decide +kernel
theorem dX11_times_56 : decode cX11_times 56 = .ok (.getfield 12, 3) := by decide +kernel
theorem dX11_times_59 : decode cX11_times 59 = .ok (.bipush 16, 2) := by decide +kernel
theorem dX11_times_61 : decode cX11_times 61 = .ok (.invokevirtual 189, 3) := by decide +kernel
theorem dX11_times_64 : decode cX11_times 64 = .ok (.istore 9, 2) := by decide +kernel
theorem dX11_times_66 : decode cX11_times 66 = .ok (.iload 9, 2) := by decide +kernel
theorem dX11_times_68 : decode cX11_times 68 = .ok (.ifCond .le 21, 3) := by decide +kernel
theorem dX11_times_71 : decode cX11_times 71 = .ok (.iload 8, 2) := by decide +kernel
theorem dX11_times_73 : decode cX11_times 73 = .ok (.aload_n 0, 1) := by decide +kernel
theorem dX11_times_74 : decode cX11_times 74 = .ok (.getfield 12, 3) := by decide +kernel
theorem dX11_times_77 : decode cX11_times 77 = .ok (.invokevirtual 308, 3) := by decide +kernel
theorem dX11_times_80 : decode cX11_times 80 = .ok (.iadd, 1) := by decide +kernel
theorem dX11_times_81 : decode cX11_times 81 = .ok (.istore 8, 2) := by decide +kernel
theorem dX11_times_83 : decode cX11_times 83 = .ok (.iinc 9 (-1), 3) := by decide +kernel
theorem dX11_times_86 : decode cX11_times 86 = .ok (.goto (-20), 3) := by decide +kernel
theorem dX11_times_89 : decode cX11_times 89 = .ok (.aload_n 0, 1) := by decide +kernel
theorem dX11_times_90 : decode cX11_times 90 = .ok (.getfield 12, 3) := by decide +kernel
theorem dX11_times_93 : decode cX11_times 93 = .ok (.lload_n 3, 1) := by decide +kernel
theorem dX11_times_94 : decode cX11_times 94 = .ok (.invokevirtual 185, 3) := by decide +kernel
theorem dX11_times_97 : decode cX11_times 97 = .ok (.iload 8, 2) := by decide +kernel
theorem dX11_times_99 : decode cX11_times 99 = .ok (.iload_n 2, 1) := by decide +kernel
theorem dX11_times_100 : decode cX11_times 100 = .ok (.if_icmp .lt 6, 3) := by decide +kernel
theorem dX11_times_103 : decode cX11_times 103 = .ok (.iinc 6 1, 3) := by decide +kernel
theorem dX11_times_106 : decode cX11_times 106 = .ok (.iinc 7 1, 3) := by decide +kernel
theorem dX11_times_109 : decode cX11_times 109 = .ok (.goto (-63), 3) := by decide +kernel
theorem dX11_times_112 : decode cX11_times 112 = .ok (.aload_n 0, 1) := by decide +kernel
theorem dX11_times_113 : decode cX11_times 113 = .ok (.getfield 12, 3) := by decide +kernel
theorem dX11_times_116 : decode cX11_times 116 = .ok (.iload 5, 2) := by decide +kernel
theorem dX11_times_118 : decode cX11_times 118 = .ok (.putfield 305, 3) := by decide +kernel
theorem dX11_times_121 : decode cX11_times 121 = .ok (.iload 6, 2) := by decide +kernel
theorem dX11_times_123 : decode cX11_times 123 = .ok (.ireturn, 1) := by decide +kernel
def k_times_66b (a1 : Int32) (a2 : Int32) (a3 : Int64) (a5 : Int32) (a6 : Int32) (a7 : Int32) (a8 : Int32) (a9 : Int32) (m : M) : Option ((Int32 × Int32 × M) ⊕ ((Int32 × M))) :=
  (if a9 ≤ 0 then some (.inr (a8, m)) else Option.bind (b_nightByLot m) (fun z1 => lt (a8 + z1.1) (fun w2 : Int32 => lt (a9 + (-1 : Int32)) (fun w3 : Int32 => some (.inl (w2, w3, z1.2))))))
set_option maxRecDepth 20000 in
theorem t_k_times_66b {G : GG} {x : Cx} {K : ((Int32 × Int32 × M) ⊕ ((Int32 × M))) → Option (Option Value × M)} (E : En G x cX11_times "WreckBoard" 7 (some .int)) (hn : xn x = 10) (a1 : Int32) (a2 : Int32) (a3 : Int64) (a5 : Int32) (a6 : Int32) (a7 : Int32) (a8 : Int32) (a9 : Int32) (m : M) (hb : ∀ z : Int32 × Int32 × M, Sm G x 66 [(0, .ref (G.2.1 0)), (1, .int a1), (2, .int a2), (3, .long a3), (5, .int a5), (6, .int a6), (7, .int a7), (8, .int z.1), (9, .int z.2.1)] [] z.2.2 (some (.inl z)) K) (hx0 : ∀ z : Int32 × M, Sm G x 89 [(0, .ref (G.2.1 0)), (1, .int a1), (2, .int a2), (3, .long a3), (5, .int a5), (6, .int a6), (7, .int a7), (8, .int z.1)] [] z.2 (some (.inr z)) K) : Sm G x 66 [(0, .ref (G.2.1 0)), (1, .int a1), (2, .int a2), (3, .long a3), (5, .int a5), (6, .int a6), (7, .int a7), (8, .int a8), (9, .int a9)] [] m (k_times_66b a1 a2 a3 a5 a6 a7 a8 a9 m) K := by
  unfold k_times_66b
  refine s_iload 8 E dX11_times_66 rfl ?_
  refine s_if_le 89 E dX11_times_68 (by decide) ?_ ?_
  · refine s_sub (lv' := [(0, .ref (G.2.1 0)), (1, .int a1), (2, .int a2), (3, .long a3), (5, .int a5), (6, .int a6), (7, .int a7), (8, .int a8)]) [0, 1, 2, 3, 4, 5, 6, 7] rfl ?_
    exact hx0 (a8, m)
  · refine s_iload 7 E dX11_times_71 rfl ?_
    refine s_aload_n 0 E dX11_times_73 rfl rfl ?_
    refine s_getr (k := 0) (T := TX11) 0 E rfl rfl rfl inX11 (by decide) W360 dX11_times_74 ?_
    refine s_bd (fun z1 hz => ?_)
    refine s_cV (rest := [.int a8]) E (C_b_nightByLot (xl x) G  m hz) mdX0_nightByLot W1027 W1028 W1029 W92 W1030 rfl rfl rfl rfl (Nat.le_of_ble_eq_true rfl) ⟨by decide, by decide⟩ dX11_times_77 ?_
    refine s_iadd E dX11_times_80 ?_
    refine s_lt (fun w2 => [(0, .ref (G.2.1 0)), (1, .int a1), (2, .int a2), (3, .long a3), (5, .int a5), (6, .int a6), (7, .int a7), (8, .int a8), (9, .int a9)]) (fun w2 => [.int w2]) rfl rfl (fun w2 => ?_)
    refine s_istore (lv' := [(0, .ref (G.2.1 0)), (1, .int a1), (2, .int a2), (3, .long a3), (5, .int a5), (6, .int a6), (7, .int a7), (8, .int w2), (9, .int a9)]) [1, 2, 3, 4, 5, 6, 7, 0, 8] E dX11_times_81 (by rw [hn]; decide) rfl ?_
    refine s_iincL (v := (-1 : Int32)) 8 [1, 2, 3, 4, 5, 6, 7, 8, 0] (fun w3 => [(0, .ref (G.2.1 0)), (1, .int a1), (2, .int a2), (3, .long a3), (5, .int a5), (6, .int a6), (7, .int a7), (8, .int w2), (9, .int w3)]) E dX11_times_83 rfl (by decide) (by rw [hn]; decide) (fun _ => rfl) (fun w3 => ?_)
    refine s_goto 66 E dX11_times_86 (by decide) ?_
    exact hb (w2, w3, z1.2)
def k_times_106 (a1 : Int32) (a2 : Int32) (a3 : Int64) (a5 : Int32) (a6 : Int32) (a7 : Int32) (m : M) : Option ((Int32 × Int32 × M) ⊕ ((Int32 × M))) :=
  lt (a7 + (1 : Int32)) (fun w1 : Int32 => some (.inl (a6, w1, m)))
set_option maxRecDepth 20000 in
theorem t_k_times_106 {G : GG} {x : Cx} {K : ((Int32 × Int32 × M) ⊕ ((Int32 × M))) → Option (Option Value × M)} (E : En G x cX11_times "WreckBoard" 7 (some .int)) (hn : xn x = 10) (a1 : Int32) (a2 : Int32) (a3 : Int64) (a5 : Int32) (a6 : Int32) (a7 : Int32) (m : M) (hb : ∀ z : Int32 × Int32 × M, Sm G x 46 [(0, .ref (G.2.1 0)), (1, .int a1), (2, .int a2), (3, .long a3), (5, .int a5), (6, .int z.1), (7, .int z.2.1)] [] z.2.2 (some (.inl z)) K) (hx0 : ∀ z : Int32 × M, Sm G x 112 [(0, .ref (G.2.1 0)), (5, .int a5), (6, .int z.1)] [] z.2 (some (.inr z)) K) : Sm G x 106 [(0, .ref (G.2.1 0)), (1, .int a1), (2, .int a2), (3, .long a3), (5, .int a5), (6, .int a6), (7, .int a7)] [] m (k_times_106 a1 a2 a3 a5 a6 a7 m) K := by
  unfold k_times_106
  refine s_iincL (v := (1 : Int32)) 6 [1, 2, 3, 4, 5, 6, 0] (fun w1 => [(0, .ref (G.2.1 0)), (1, .int a1), (2, .int a2), (3, .long a3), (5, .int a5), (6, .int a6), (7, .int w1)]) E dX11_times_106 rfl (by decide) (by rw [hn]; decide) (fun _ => rfl) (fun w1 => ?_)
  refine s_goto 46 E dX11_times_109 (by decide) ?_
  exact hb (a6, w1, m)
def k_times_66 (a1 : Int32) (a2 : Int32) (a3 : Int64) (a5 : Int32) (a6 : Int32) (a7 : Int32) (a8 : Int32) (a9 : Int32) (m : M) : Option ((Int32 × Int32 × M) ⊕ ((Int32 × M))) :=
  Option.bind (iter (fun z => k_times_66b a1 a2 a3 a5 a6 a7 z.1 z.2.1 z.2.2) FU (a8, a9, m)) (fun r => Option.bind (b_goBackTo a3 r.2) (fun m4 => (if r.1 < a2 then k_times_106 a1 a2 a3 a5 a6 a7 m4 else lt (a6 + (1 : Int32)) (fun w5 : Int32 => k_times_106 a1 a2 a3 a5 w5 a7 m4))))
set_option maxRecDepth 20000 in
theorem t_k_times_66 {G : GG} {x : Cx} {K : ((Int32 × Int32 × M) ⊕ ((Int32 × M))) → Option (Option Value × M)} (E : En G x cX11_times "WreckBoard" 7 (some .int)) (hn : xn x = 10) (a1 : Int32) (a2 : Int32) (a3 : Int64) (a5 : Int32) (a6 : Int32) (a7 : Int32) (a8 : Int32) (a9 : Int32) (m : M) (hb : ∀ z : Int32 × Int32 × M, Sm G x 46 [(0, .ref (G.2.1 0)), (1, .int a1), (2, .int a2), (3, .long a3), (5, .int a5), (6, .int z.1), (7, .int z.2.1)] [] z.2.2 (some (.inl z)) K) (hx0 : ∀ z : Int32 × M, Sm G x 112 [(0, .ref (G.2.1 0)), (5, .int a5), (6, .int z.1)] [] z.2 (some (.inr z)) K) : Sm G x 66 [(0, .ref (G.2.1 0)), (1, .int a1), (2, .int a2), (3, .long a3), (5, .int a5), (6, .int a6), (7, .int a7), (8, .int a8), (9, .int a9)] [] m (k_times_66 a1 a2 a3 a5 a6 a7 a8 a9 m) K := by
  unfold k_times_66
  refine s_loop (fun z => [(0, .ref (G.2.1 0)), (1, .int a1), (2, .int a2), (3, .long a3), (5, .int a5), (6, .int a6), (7, .int a7), (8, .int z.1), (9, .int z.2.1)]) (fun z => z.2.2) (fun K2 hb2 hr2 z => ?_) FU (a8, a9, m)
  refine t_k_times_66b (K := K2) E hn a1 a2 a3 a5 a6 a7 z.1 z.2.1 z.2.2 hb2 (fun r => s_out (hr2 r) ?_)
  · refine s_aload_n 0 E dX11_times_89 rfl rfl ?_
    refine s_getr (k := 0) (T := TX11) 0 E rfl rfl rfl inX11 (by decide) W360 dX11_times_90 ?_
    refine s_lload_n 3 E dX11_times_93 rfl rfl ?_
    refine s_bd (fun m4 hz => ?_)
    refine s_cV (rest := []) E (C_b_goBackTo (xl x) G a3 r.2 hz) mdX0_goBackTo W835 W836 W837 W92 W838 rfl rfl rfl rfl (Nat.le_of_ble_eq_true rfl) ⟨by decide, by decide⟩ dX11_times_94 ?_
    refine s_iload 7 E dX11_times_97 rfl ?_
    refine s_iload_n 2 E dX11_times_99 rfl rfl ?_
    refine s_icmp_lt 106 E dX11_times_100 (by decide) ?_ ?_
    · refine s_sub (lv' := [(0, .ref (G.2.1 0)), (1, .int a1), (2, .int a2), (3, .long a3), (5, .int a5), (6, .int a6), (7, .int a7)]) [0, 1, 2, 3, 4, 5, 6] rfl ?_
      exact t_k_times_106 E hn a1 a2 a3 a5 a6 a7 m4 hb hx0
    · refine s_iincL (v := (1 : Int32)) 5 [1, 2, 3, 4, 5, 0, 6] (fun w5 => [(0, .ref (G.2.1 0)), (1, .int a1), (2, .int a2), (3, .long a3), (5, .int a5), (6, .int w5), (7, .int a7)]) E dX11_times_103 rfl (by decide) (by rw [hn]; decide) (fun _ => rfl) (fun w5 => ?_)
      exact t_k_times_106 E hn a1 a2 a3 a5 w5 a7 m4 hb hx0
def k_times_46b (a1 : Int32) (a2 : Int32) (a3 : Int64) (a5 : Int32) (a6 : Int32) (a7 : Int32) (m : M) : Option ((Int32 × Int32 × M) ⊕ ((Int32 × M))) :=
  (if a1 ≤ a7 then some (.inr (a6, m)) else Option.bind (b_nightsOf (16 : Int32) m) (fun v1 => k_times_66 a1 a2 a3 a5 a6 a7 (0 : Int32) v1 m))
set_option maxRecDepth 20000 in
theorem t_k_times_46b {G : GG} {x : Cx} {K : ((Int32 × Int32 × M) ⊕ ((Int32 × M))) → Option (Option Value × M)} (E : En G x cX11_times "WreckBoard" 7 (some .int)) (hn : xn x = 10) (a1 : Int32) (a2 : Int32) (a3 : Int64) (a5 : Int32) (a6 : Int32) (a7 : Int32) (m : M) (hb : ∀ z : Int32 × Int32 × M, Sm G x 46 [(0, .ref (G.2.1 0)), (1, .int a1), (2, .int a2), (3, .long a3), (5, .int a5), (6, .int z.1), (7, .int z.2.1)] [] z.2.2 (some (.inl z)) K) (hx0 : ∀ z : Int32 × M, Sm G x 112 [(0, .ref (G.2.1 0)), (5, .int a5), (6, .int z.1)] [] z.2 (some (.inr z)) K) : Sm G x 46 [(0, .ref (G.2.1 0)), (1, .int a1), (2, .int a2), (3, .long a3), (5, .int a5), (6, .int a6), (7, .int a7)] [] m (k_times_46b a1 a2 a3 a5 a6 a7 m) K := by
  unfold k_times_46b
  refine s_iload 6 E dX11_times_46 rfl ?_
  refine s_iload_n 1 E dX11_times_48 rfl rfl ?_
  refine s_icmp_ge 112 E dX11_times_49 (by decide) ?_ ?_
  · refine s_sub (lv' := [(0, .ref (G.2.1 0)), (5, .int a5), (6, .int a6)]) [0, 4, 5] rfl ?_
    exact hx0 (a6, m)
  · refine s_iconst (v := (0 : Int32)) E dX11_times_52 (by decide) ?_
    refine s_istore (lv' := [(0, .ref (G.2.1 0)), (1, .int a1), (2, .int a2), (3, .long a3), (5, .int a5), (6, .int a6), (7, .int a7), (8, .int (0 : Int32))]) [1, 2, 3, 4, 5, 6, 7, 0] E dX11_times_53 (by rw [hn]; decide) rfl ?_
    refine s_aload_n 0 E dX11_times_55 rfl rfl ?_
    refine s_getr (k := 0) (T := TX11) 0 E rfl rfl rfl inX11 (by decide) W360 dX11_times_56 ?_
    refine s_bipush (v := (16 : Int32)) E dX11_times_59 (by decide) ?_
    refine s_bd (fun v1 hz => ?_)
    refine s_cV (rest := []) E (C_b_nightsOf (xl x) G (16 : Int32) m hz) mdX0_nightsOf W843 W831 W832 W92 W833 rfl rfl rfl rfl (Nat.le_of_ble_eq_true rfl) ⟨by decide, by decide⟩ dX11_times_61 ?_
    refine s_istore (lv' := [(0, .ref (G.2.1 0)), (1, .int a1), (2, .int a2), (3, .long a3), (5, .int a5), (6, .int a6), (7, .int a7), (8, .int (0 : Int32)), (9, .int v1)]) [1, 2, 3, 4, 5, 6, 7, 8, 0] E dX11_times_64 (by rw [hn]; decide) rfl ?_
    exact t_k_times_66 E hn a1 a2 a3 a5 a6 a7 (0 : Int32) v1 m hb hx0
def k_times_46 (a1 : Int32) (a2 : Int32) (a3 : Int64) (a5 : Int32) (a6 : Int32) (a7 : Int32) (m : M) : Option (Int32 × M) :=
  Option.bind (iter (fun z => k_times_46b a1 a2 a3 a5 z.1 z.2.1 z.2.2) FU (a6, a7, m)) (fun r => lt (wrF r.2 1 5 a5) (fun m2 => some (r.1, m2)))
set_option maxRecDepth 20000 in
theorem t_k_times_46 {G : GG} {x : Cx} (E : En G x cX11_times "WreckBoard" 7 (some .int)) (hn : xn x = 10) (a1 : Int32) (a2 : Int32) (a3 : Int64) (a5 : Int32) (a6 : Int32) (a7 : Int32) (m : M) : Sm G x 46 [(0, .ref (G.2.1 0)), (1, .int a1), (2, .int a2), (3, .long a3), (5, .int a5), (6, .int a6), (7, .int a7)] [] m (k_times_46 a1 a2 a3 a5 a6 a7 m) KWi := by
  unfold k_times_46
  refine s_loop (fun z => [(0, .ref (G.2.1 0)), (1, .int a1), (2, .int a2), (3, .long a3), (5, .int a5), (6, .int z.1), (7, .int z.2.1)]) (fun z => z.2.2) (fun K2 hb2 hr2 z => ?_) FU (a6, a7, m)
  refine t_k_times_46b (K := K2) E hn a1 a2 a3 a5 z.1 z.2.1 z.2.2 hb2 (fun r => s_out (hr2 r) ?_)
  · refine s_aload_n 0 E dX11_times_112 rfl rfl ?_
    refine s_getr (k := 0) (T := TX11) 0 E rfl rfl rfl inX11 (by decide) W360 dX11_times_113 ?_
    refine s_iload 1 E dX11_times_116 rfl ?_
    refine s_put (k := 5) (T := TX0) (ty := .int) 1 E rfl rfl rfl inX0 tyX0 tyX0_ok nmX0 (by decide) W235 rfl (by decide +kernel) rfl rfl dX11_times_118 ?_
    refine s_ltm rfl (fun m2 => ?_)
    refine s_iload 2 E dX11_times_121 rfl ?_
    exact s_iret E rfl dX11_times_123
def k_times (a1 : Int32) (a2 : Int32) (m : M) : Option (Int32 × M) :=
  Option.bind (k_within a1 (1 : Int32) (40 : Int32) m) (fun v1 => (if v1 = 0 then some ((-1 : Int32), m) else Option.bind (k_within a2 (0 : Int32) (999 : Int32) m) (fun v2 => (if v2 = 0 then some ((-1 : Int32), m) else Option.bind (b_moment m) (fun v3 => lt (m 1 5) (fun w4 : Int32 => k_times_46 a1 a2 v3 w4 (0 : Int32) (0 : Int32) m))))))
set_option maxRecDepth 20000 in
theorem t_k_times {G : GG} {x : Cx} (E : En G x cX11_times "WreckBoard" 7 (some .int)) (hn : xn x = 10) (a1 : Int32) (a2 : Int32) (m : M) : Sm G x 0 [(0, .ref (G.2.1 0)), (1, .int a1), (2, .int a2)] [] m (k_times a1 a2 m) KWi := by
  unfold k_times
  refine s_iload_n 1 E dX11_times_0 rfl rfl ?_
  refine s_iconst (v := (1 : Int32)) E dX11_times_1 (by decide) ?_
  refine s_bipush (v := (40 : Int32)) E dX11_times_2 (by decide) ?_
  refine s_bd (fun v1 hz => ?_)
  refine s_cS (rest := []) E (C_k_within (xl x) G a1 (1 : Int32) (40 : Int32) m hz) mdX11_within W404 W405 W91 W406 rfl rfl (Nat.le_of_ble_eq_true rfl) ⟨by decide, by decide⟩ dX11_times_4 ?_
  refine s_if_eq 21 E dX11_times_7 (by decide) ?_ ?_
  · refine s_iconst (v := (-1 : Int32)) E dX11_times_21 (by decide) ?_
    exact s_iret E rfl dX11_times_22
  · refine s_iload_n 2 E dX11_times_10 rfl rfl ?_
    refine s_iconst (v := (0 : Int32)) E dX11_times_11 (by decide) ?_
    refine s_sipush (v := (999 : Int32)) E dX11_times_12 (by decide) ?_
    refine s_bd (fun v2 hz => ?_)
    refine s_cS (rest := []) E (C_k_within (xl x) G a2 (0 : Int32) (999 : Int32) m hz) mdX11_within W404 W405 W91 W406 rfl rfl (Nat.le_of_ble_eq_true rfl) ⟨by decide, by decide⟩ dX11_times_15 ?_
    refine s_if_ne 23 E dX11_times_18 (by decide) ?_ ?_
    · refine s_aload_n 0 E dX11_times_23 rfl rfl ?_
      refine s_getr (k := 0) (T := TX11) 0 E rfl rfl rfl inX11 (by decide) W360 dX11_times_24 ?_
      refine s_bd (fun v3 hz => ?_)
      refine s_cV (rest := []) E (C_b_moment (xl x) G  m hz) mdX0_moment W822 W823 W824 W92 W825 rfl rfl rfl rfl (Nat.le_of_ble_eq_true rfl) ⟨by decide, by decide⟩ dX11_times_27 ?_
      refine s_lstore_n (lv' := [(0, .ref (G.2.1 0)), (1, .int a1), (2, .int a2), (3, .long v3)]) [1, 2, 3, 0] E dX11_times_30 rfl (by rw [hn]; decide) rfl ?_
      refine s_aload_n 0 E dX11_times_31 rfl rfl ?_
      refine s_getr (k := 0) (T := TX11) 0 E rfl rfl rfl inX11 (by decide) W360 dX11_times_32 ?_
      refine s_geti (k := 5) (T := TX0) 1 E rfl rfl rfl inX0 (by decide) W235 dX11_times_35 ?_
      refine s_lt (fun w4 => [(0, .ref (G.2.1 0)), (1, .int a1), (2, .int a2), (3, .long v3)]) (fun w4 => [.int w4]) rfl rfl (fun w4 => ?_)
      refine s_istore (lv' := [(0, .ref (G.2.1 0)), (1, .int a1), (2, .int a2), (3, .long v3), (5, .int w4)]) [1, 2, 3, 4, 0] E dX11_times_38 (by rw [hn]; decide) rfl ?_
      refine s_iconst (v := (0 : Int32)) E dX11_times_40 (by decide) ?_
      refine s_istore (lv' := [(0, .ref (G.2.1 0)), (1, .int a1), (2, .int a2), (3, .long v3), (5, .int w4), (6, .int (0 : Int32))]) [1, 2, 3, 4, 5, 0] E dX11_times_41 (by rw [hn]; decide) rfl ?_
      refine s_iconst (v := (0 : Int32)) E dX11_times_43 (by decide) ?_
      refine s_istore (lv' := [(0, .ref (G.2.1 0)), (1, .int a1), (2, .int a2), (3, .long v3), (5, .int w4), (6, .int (0 : Int32)), (7, .int (0 : Int32))]) [1, 2, 3, 4, 5, 6, 0] E dX11_times_44 (by rw [hn]; decide) rfl ?_
      exact t_k_times_46 E hn a1 a2 v3 w4 (0 : Int32) (0 : Int32) m
    · refine s_iconst (v := (-1 : Int32)) E dX11_times_21 (by decide) ?_
      exact s_iret E rfl dX11_times_22
set_option maxRecDepth 20000 in
theorem C_k_times (l : Launch) (G : GG) (a1 : Int32) (a2 : Int32) (m : M) {z : Int32 × M} (hz : k_times a1 a2 m = some z) : Ct l G yX11_times cX11_times 10 (some .int) 7 [.ref (G.2.1 0), .int a1, .int a2] m (some (.int z.1)) z.2 :=
  ct_of (K := KWi) (by decide) (Nat.le_of_ble_eq_true rfl) (congrArg (fun q => Option.bind q _) hz) (fun x hl hn E => (t_k_times E hn a1 a2 m))
theorem dX11_prove_0 : decode cX11_prove 0 = .ok (.iload_n 1, 1) := by decide +kernel
theorem dX11_prove_1 : decode cX11_prove 1 = .ok (.iconst 0, 1) := by decide +kernel
theorem dX11_prove_2 : decode cX11_prove 2 = .ok (.iconst 4, 1) := by decide +kernel
theorem dX11_prove_3 : decode cX11_prove 3 = .ok (.invokestatic 61, 3) := by decide +kernel
theorem dX11_prove_6 : decode cX11_prove 6 = .ok (.ifCond .ne 5, 3) := by decide +kernel
theorem dX11_prove_9 : decode cX11_prove 9 = .ok (.iconst (-1), 1) := by decide +kernel
theorem dX11_prove_10 : decode cX11_prove 10 = .ok (.ireturn, 1) := by decide +kernel
theorem dX11_prove_11 : decode cX11_prove 11 = .ok (.aload_n 0, 1) := by decide +kernel
theorem dX11_prove_12 : decode cX11_prove 12 = .ok (.getfield 12, 3) := by decide +kernel
theorem dX11_prove_15 : decode cX11_prove 15 = .ok (.iload_n 1, 1) := by decide +kernel
theorem dX11_prove_16 : decode cX11_prove 16 = .ok (.invokestatic 225, 3) := by decide +kernel
theorem dX11_prove_19 : decode cX11_prove 19 = .ok (.lstore_n 2, 1) := by decide +kernel
theorem dX11_prove_20 : decode cX11_prove 20 = .ok (.aload_n 0, 1) := by decide +kernel
theorem dX11_prove_21 : decode cX11_prove 21 = .ok (.getfield 12, 3) := by decide +kernel
theorem dX11_prove_24 : decode cX11_prove 24 = .ok (.invokevirtual 178, 3) := by decide +kernel
theorem dX11_prove_27 : decode cX11_prove 27 = .ok (.lstore 4, 2) := by decide +kernel
theorem dX11_prove_29 : decode cX11_prove 29 = .ok (.aload_n 0, 1) := by decide +kernel
theorem dX11_prove_30 : decode cX11_prove 30 = .ok (.aload_n 0, 1) := by decide +kernel
theorem dX11_prove_31 : decode cX11_prove 31 = .ok (.getfield 12, 3) := by decide +kernel
theorem dX11_prove_34 : decode cX11_prove 34 = .ok (.iload_n 1, 1) := by decide +kernel
theorem dX11_prove_35 : decode cX11_prove 35 = .ok (.invokevirtual 189, 3) := by decide +kernel
theorem dX11_prove_38 : decode cX11_prove 38 = .ok (.putfield 311, 3) := by decide +kernel
theorem dX11_prove_41 : decode cX11_prove 41 = .ok (.iconst 0, 1) := by decide +kernel
theorem dX11_prove_42 : decode cX11_prove 42 = .ok (.istore 6, 2) := by decide +kernel
theorem dX11_prove_44 : decode cX11_prove 44 = .ok (.iload 6, 2) := by decide +kernel
theorem dX11_prove_46 : decode cX11_prove 46 = .ok (.aload_n 0, 1) := by decide +kernel
theorem dX11_prove_47 : decode cX11_prove 47 = .ok (.getfield 311, 3) := by decide +kernel
theorem dX11_prove_50 : decode cX11_prove 50 = .ok (.if_icmp .ge 72, 3) := by decide +kernel
theorem dX11_prove_53 : decode cX11_prove 53 = .ok (.aload_n 0, 1) := by decide +kernel
theorem dX11_prove_54 : decode cX11_prove 54 = .ok (.getfield 35, 3) := by decide +kernel
theorem dX11_prove_57 : decode cX11_prove 57 = .ok (.iload 6, 2) := by decide +kernel
theorem dX11_prove_59 : decode cX11_prove 59 = .ok (.aaload, 1) := by decide +kernel
theorem dX11_prove_60 : decode cX11_prove 60 = .ok (.iconst 0, 1) := by decide +kernel
theorem dX11_prove_61 : decode cX11_prove 61 = .ok (.lload_n 2, 1) := by decide +kernel
theorem dX11_prove_62 : decode cX11_prove 62 = .ok (.iload 6, 2) := by decide +kernel
theorem dX11_prove_64 : decode cX11_prove 64 = .ok (.invokestatic 233, 3) := by decide +kernel
theorem dX11_prove_67 : decode cX11_prove 67 = .ok (.iastore, 1) := by decide +kernel
theorem dX11_prove_68 : decode cX11_prove 68 = .ok (.aload_n 0, 1) := by decide +kernel
theorem dX11_prove_69 : decode cX11_prove 69 = .ok (.getfield 35, 3) := by decide +kernel
theorem dX11_prove_72 : decode cX11_prove 72 = .ok (.iload 6, 2) := by decide +kernel
theorem dX11_prove_74 : decode cX11_prove 74 = .ok (.aaload, 1) := by decide +kernel
theorem dX11_prove_75 : decode cX11_prove 75 = .ok (.iconst 1, 1) := by decide +kernel
theorem dX11_prove_76 : decode cX11_prove 76 = .ok (.aload_n 0, 1) := by decide +kernel
theorem dX11_prove_77 : decode cX11_prove 77 = .ok (.getfield 12, 3) := by decide +kernel
theorem dX11_prove_80 : decode cX11_prove 80 = .ok (.aload_n 0, 1) := by decide +kernel
theorem dX11_prove_81 : decode cX11_prove 81 = .ok (.getfield 35, 3) := by decide +kernel
theorem dX11_prove_84 : decode cX11_prove 84 = .ok (.iload 6, 2) := by decide +kernel
theorem dX11_prove_86 : decode cX11_prove 86 = .ok (.aaload, 1) := by decide +kernel
theorem dX11_prove_87 : decode cX11_prove 87 = .ok (.iconst 0, 1) := by decide +kernel
theorem dX11_prove_88 : decode cX11_prove 88 = .ok (.iaload, 1) := by decide +kernel
theorem dX11_prove_89 : decode cX11_prove 89 = .ok (.aload_n 0, 1) := by decide +kernel
theorem dX11_prove_90 : decode cX11_prove 90 = .ok (.getfield 12, 3) := by decide +kernel
theorem dX11_prove_93 : decode cX11_prove 93 = .ok (.invokevirtual 102, 3) := by decide +kernel
theorem dX11_prove_96 : decode cX11_prove 96 = .ok (.invokevirtual 254, 3) := by decide +kernel
theorem dX11_prove_99 : decode cX11_prove 99 = .ok (.iastore, 1) := by decide +kernel
theorem dX11_prove_100 : decode cX11_prove 100 = .ok (.aload_n 0, 1) := by decide +kernel
theorem dX11_prove_101 : decode cX11_prove 101 = .ok (.getfield 35, 3) := by decide +kernel
theorem dX11_prove_104 : decode cX11_prove 104 = .ok (.iload 6, 2) := by decide +kernel
theorem dX11_prove_106 : decode cX11_prove 106 = .ok (.aaload, 1) := by decide +kernel
theorem dX11_prove_107 : decode cX11_prove 107 = .ok (.iconst 2, 1) := by decide +kernel
theorem dX11_prove_108 : decode cX11_prove 108 = .ok (.aload_n 0, 1) := by decide +kernel
theorem dX11_prove_109 : decode cX11_prove 109 = .ok (.getfield 12, 3) := by decide +kernel
theorem dX11_prove_112 : decode cX11_prove 112 = .ok (.getfield 145, 3) := by decide +kernel
theorem dX11_prove_115 : decode cX11_prove 115 = .ok (.iastore, 1) := by decide +kernel
theorem dX11_prove_116 : decode cX11_prove 116 = .ok (.iinc 6 1, 3) := by decide +kernel
theorem dX11_prove_119 : decode cX11_prove 119 = .ok (.goto (-75), 3) := by decide +kernel
theorem dX11_prove_122 : decode cX11_prove 122 = .ok (.aload_n 0, 1) := by decide +kernel
theorem dX11_prove_123 : decode cX11_prove 123 = .ok (.getfield 12, 3) := by decide +kernel
theorem dX11_prove_126 : decode cX11_prove 126 = .ok (.lload 4, 2) := by decide +kernel
theorem dX11_prove_128 : decode cX11_prove 128 = .ok (.invokevirtual 185, 3) := by decide +kernel
theorem dX11_prove_131 : decode cX11_prove 131 = .ok (.aload_n 0, 1) := by decide +kernel
theorem dX11_prove_132 : decode cX11_prove 132 = .ok (.getfield 311, 3) := by decide +kernel
theorem dX11_prove_135 : decode cX11_prove 135 = .ok (.ireturn, 1) := by decide +kernel
def k_prove_44b (a2 : Int64) (a4 : Int64) (a6 : Int32) (m : M) : Option ((Int32 × M) ⊕ ((M))) :=
  (if (m 0 6) ≤ a6 then some (.inr m) else Option.bind (rdR 50 a6) (fun p1 => Option.bind (k_actOf a2 a6 m) (fun v2 => Option.bind (wrI m p1 (0 : Int32) v2) (fun m3 => Option.bind (rdR 50 a6) (fun p4 => Option.bind (rdR 50 a6) (fun p5 => Option.bind (rdI m3 p5 (0 : Int32)) (fun v6 => Option.bind (b_count m3) (fun v7 => Option.bind (b_goesBy v6 v7 m3) (fun z8 => Option.bind (wrI z8.2 p4 (1 : Int32) z8.1) (fun m9 => Option.bind (rdR 50 a6) (fun p10 => Option.bind (wrI m9 p10 (2 : Int32) (m9 1 7)) (fun m11 => lt (a6 + (1 : Int32)) (fun w12 : Int32 => some (.inl (w12, m11)))))))))))))))
set_option maxRecDepth 20000 in
theorem t_k_prove_44b {G : GG} {x : Cx} {K : ((Int32 × M) ⊕ ((M))) → Option (Option Value × M)} (E : En G x cX11_prove "WreckBoard" 14 (some .int)) (hn : xn x = 7) (a2 : Int64) (a4 : Int64) (a6 : Int32) (m : M) (hb : ∀ z : Int32 × M, Sm G x 44 [(0, .ref (G.2.1 0)), (2, .long a2), (4, .long a4), (6, .int z.1)] [] z.2 (some (.inl z)) K) (hx0 : ∀ z : M, Sm G x 122 [(0, .ref (G.2.1 0)), (4, .long a4)] [] z (some (.inr z)) K) : Sm G x 44 [(0, .ref (G.2.1 0)), (2, .long a2), (4, .long a4), (6, .int a6)] [] m (k_prove_44b a2 a4 a6 m) K := by
  unfold k_prove_44b
  refine s_iload 3 E dX11_prove_44 rfl ?_
  refine s_aload_n 0 E dX11_prove_46 rfl rfl ?_
  refine s_geti (k := 6) (T := TX11) 0 E rfl rfl rfl inX11 (by decide) W366 dX11_prove_47 ?_
  refine s_icmp_ge 122 E dX11_prove_50 (by decide) ?_ ?_
  · refine s_sub (lv' := [(0, .ref (G.2.1 0)), (4, .long a4)]) [0, 2] rfl ?_
    exact hx0 m
  · refine s_aload_n 0 E dX11_prove_53 rfl rfl ?_
    refine s_getr (k := 5) (T := TX11) 0 E rfl rfl rfl inX11 (by decide) W365 dX11_prove_54 ?_
    refine s_iload 3 E dX11_prove_57 rfl ?_
    refine s_aald E dX11_prove_59 (fun p1 => ?_)
    refine s_iconst (v := (0 : Int32)) E dX11_prove_60 (by decide) ?_
    refine s_lload_n 1 E dX11_prove_61 rfl rfl ?_
    refine s_iload 3 E dX11_prove_62 rfl ?_
    refine s_bd (fun v2 hz => ?_)
    refine s_cS (rest := [.int (0 : Int32), .ref (G.2.1 p1)]) E (C_k_actOf (xl x) G a2 a6 m hz) mdX11_actOf W924 W925 W91 W926 rfl rfl (Nat.le_of_ble_eq_true rfl) ⟨by decide, by decide⟩ dX11_prove_64 ?_
    refine s_iast E dX11_prove_67 (fun m3 => ?_)
    refine s_aload_n 0 E dX11_prove_68 rfl rfl ?_
    refine s_getr (k := 5) (T := TX11) 0 E rfl rfl rfl inX11 (by decide) W365 dX11_prove_69 ?_
    refine s_iload 3 E dX11_prove_72 rfl ?_
    refine s_aald E dX11_prove_74 (fun p4 => ?_)
    refine s_iconst (v := (1 : Int32)) E dX11_prove_75 (by decide) ?_
    refine s_aload_n 0 E dX11_prove_76 rfl rfl ?_
    refine s_getr (k := 0) (T := TX11) 0 E rfl rfl rfl inX11 (by decide) W360 dX11_prove_77 ?_
    refine s_aload_n 0 E dX11_prove_80 rfl rfl ?_
    refine s_getr (k := 5) (T := TX11) 0 E rfl rfl rfl inX11 (by decide) W365 dX11_prove_81 ?_
    refine s_iload 3 E dX11_prove_84 rfl ?_
    refine s_aald E dX11_prove_86 (fun p5 => ?_)
    refine s_iconst (v := (0 : Int32)) E dX11_prove_87 (by decide) ?_
    refine s_iald E dX11_prove_88 (fun v6 => ?_)
    refine s_aload_n 0 E dX11_prove_89 rfl rfl ?_
    refine s_getr (k := 0) (T := TX11) 0 E rfl rfl rfl inX11 (by decide) W360 dX11_prove_90 ?_
    refine s_bd (fun v7 hz => ?_)
    refine s_cV (rest := [.int v6, .ref (G.2.1 1), .int (1 : Int32), .ref (G.2.1 p4)]) E (C_b_count (xl x) G  m3 hz) mdX0_count W499 W500 W501 W92 W502 rfl rfl rfl rfl (Nat.le_of_ble_eq_true rfl) ⟨by decide, by decide⟩ dX11_prove_93 ?_
    refine s_bd (fun z8 hz => ?_)
    refine s_cV (rest := [.int (1 : Int32), .ref (G.2.1 p4)]) E (C_b_goesBy (xl x) G v6 v7 m3 hz) mdX0_goesBy W909 W799 W800 W92 W801 rfl rfl rfl rfl (Nat.le_of_ble_eq_true rfl) ⟨by decide, by decide⟩ dX11_prove_96 ?_
    refine s_iast E dX11_prove_99 (fun m9 => ?_)
    refine s_aload_n 0 E dX11_prove_100 rfl rfl ?_
    refine s_getr (k := 5) (T := TX11) 0 E rfl rfl rfl inX11 (by decide) W365 dX11_prove_101 ?_
    refine s_iload 3 E dX11_prove_104 rfl ?_
    refine s_aald E dX11_prove_106 (fun p10 => ?_)
    refine s_iconst (v := (2 : Int32)) E dX11_prove_107 (by decide) ?_
    refine s_aload_n 0 E dX11_prove_108 rfl rfl ?_
    refine s_getr (k := 0) (T := TX11) 0 E rfl rfl rfl inX11 (by decide) W360 dX11_prove_109 ?_
    refine s_geti (k := 7) (T := TX0) 1 E rfl rfl rfl inX0 (by decide) W239 dX11_prove_112 ?_
    refine s_iast E dX11_prove_115 (fun m11 => ?_)
    refine s_iincL (v := (1 : Int32)) 3 [1, 2, 3, 0] (fun w12 => [(0, .ref (G.2.1 0)), (2, .long a2), (4, .long a4), (6, .int w12)]) E dX11_prove_116 rfl (by decide) (by rw [hn]; decide) (fun _ => rfl) (fun w12 => ?_)
    refine s_goto 44 E dX11_prove_119 (by decide) ?_
    exact hb (w12, m11)
def k_prove_44 (a2 : Int64) (a4 : Int64) (a6 : Int32) (m : M) : Option (Int32 × M) :=
  Option.bind (iter (fun z => k_prove_44b a2 a4 z.1 z.2) FU (a6, m)) (fun r => Option.bind (b_goBackTo a4 r) (fun m13 => some ((m13 0 6), m13)))
set_option maxRecDepth 20000 in
theorem t_k_prove_44 {G : GG} {x : Cx} (E : En G x cX11_prove "WreckBoard" 14 (some .int)) (hn : xn x = 7) (a2 : Int64) (a4 : Int64) (a6 : Int32) (m : M) : Sm G x 44 [(0, .ref (G.2.1 0)), (2, .long a2), (4, .long a4), (6, .int a6)] [] m (k_prove_44 a2 a4 a6 m) KWi := by
  unfold k_prove_44
  refine s_loop (fun z => [(0, .ref (G.2.1 0)), (2, .long a2), (4, .long a4), (6, .int z.1)]) (fun z => z.2) (fun K2 hb2 hr2 z => ?_) FU (a6, m)
  refine t_k_prove_44b (K := K2) E hn a2 a4 z.1 z.2 hb2 (fun r => s_out (hr2 r) ?_)
  · refine s_aload_n 0 E dX11_prove_122 rfl rfl ?_
    refine s_getr (k := 0) (T := TX11) 0 E rfl rfl rfl inX11 (by decide) W360 dX11_prove_123 ?_
    refine s_lload 1 E dX11_prove_126 rfl ?_
    refine s_bd (fun m13 hz => ?_)
    refine s_cV (rest := []) E (C_b_goBackTo (xl x) G a4 r hz) mdX0_goBackTo W835 W836 W837 W92 W838 rfl rfl rfl rfl (Nat.le_of_ble_eq_true rfl) ⟨by decide, by decide⟩ dX11_prove_128 ?_
    refine s_aload_n 0 E dX11_prove_131 rfl rfl ?_
    refine s_geti (k := 6) (T := TX11) 0 E rfl rfl rfl inX11 (by decide) W366 dX11_prove_132 ?_
    exact s_iret E rfl dX11_prove_135
def k_prove (a1 : Int32) (m : M) : Option (Int32 × M) :=
  Option.bind (k_within a1 (0 : Int32) (4 : Int32) m) (fun v1 => (if v1 = 0 then some ((-1 : Int32), m) else Option.bind (k_bestPlans_d 8 a1 m) (fun z2 => Option.bind (b_moment z2.2) (fun v3 => Option.bind (b_nightsOf a1 z2.2) (fun v4 => lt (wrF z2.2 0 6 v4) (fun m5 => k_prove_44 z2.1 v3 (0 : Int32) m5))))))
set_option maxRecDepth 20000 in
theorem t_k_prove {G : GG} {x : Cx} (E : En G x cX11_prove "WreckBoard" 14 (some .int)) (hn : xn x = 7) (a1 : Int32) (m : M) : Sm G x 0 [(0, .ref (G.2.1 0)), (1, .int a1)] [] m (k_prove a1 m) KWi := by
  unfold k_prove
  refine s_iload_n 1 E dX11_prove_0 rfl rfl ?_
  refine s_iconst (v := (0 : Int32)) E dX11_prove_1 (by decide) ?_
  refine s_iconst (v := (4 : Int32)) E dX11_prove_2 (by decide) ?_
  refine s_bd (fun v1 hz => ?_)
  refine s_cS (rest := []) E (C_k_within (xl x) G a1 (0 : Int32) (4 : Int32) m hz) mdX11_within W404 W405 W91 W406 rfl rfl (Nat.le_of_ble_eq_true rfl) ⟨by decide, by decide⟩ dX11_prove_3 ?_
  refine s_if_ne 11 E dX11_prove_6 (by decide) ?_ ?_
  · refine s_aload_n 0 E dX11_prove_11 rfl rfl ?_
    refine s_getr (k := 0) (T := TX11) 0 E rfl rfl rfl inX11 (by decide) W360 dX11_prove_12 ?_
    refine s_iload_n 1 E dX11_prove_15 rfl rfl ?_
    refine s_bd (fun z2 hz => ?_)
    refine s_cS (rest := []) E (C_k_bestPlans_d (xl x) G 8 a1 m hz) mdX11_bestPlans W903 W904 W91 W905 rfl rfl (Nat.le_of_ble_eq_true rfl) ⟨by decide, by decide⟩ dX11_prove_16 ?_
    refine s_lstore_n (lv' := [(0, .ref (G.2.1 0)), (1, .int a1), (2, .long z2.1)]) [1, 2, 0] E dX11_prove_19 rfl (by rw [hn]; decide) rfl ?_
    refine s_aload_n 0 E dX11_prove_20 rfl rfl ?_
    refine s_getr (k := 0) (T := TX11) 0 E rfl rfl rfl inX11 (by decide) W360 dX11_prove_21 ?_
    refine s_bd (fun v3 hz => ?_)
    refine s_cV (rest := []) E (C_b_moment (xl x) G  z2.2 hz) mdX0_moment W822 W823 W824 W92 W825 rfl rfl rfl rfl (Nat.le_of_ble_eq_true rfl) ⟨by decide, by decide⟩ dX11_prove_24 ?_
    refine s_lstore (lv' := [(0, .ref (G.2.1 0)), (1, .int a1), (2, .long z2.1), (4, .long v3)]) [1, 2, 3, 0] E dX11_prove_27 (by rw [hn]; decide) rfl ?_
    refine s_aload_n 0 E dX11_prove_29 rfl rfl ?_
    refine s_aload_n 0 E dX11_prove_30 rfl rfl ?_
    refine s_getr (k := 0) (T := TX11) 0 E rfl rfl rfl inX11 (by decide) W360 dX11_prove_31 ?_
    refine s_iload_n 1 E dX11_prove_34 rfl rfl ?_
    refine s_bd (fun v4 hz => ?_)
    refine s_cV (rest := [.ref (G.2.1 0)]) E (C_b_nightsOf (xl x) G a1 z2.2 hz) mdX0_nightsOf W843 W831 W832 W92 W833 rfl rfl rfl rfl (Nat.le_of_ble_eq_true rfl) ⟨by decide, by decide⟩ dX11_prove_35 ?_
    refine s_put (k := 6) (T := TX11) (ty := .int) 0 E rfl rfl rfl inX11 tyX11 tyX11_ok nmX11 (by decide) W366 rfl (by decide +kernel) rfl rfl dX11_prove_38 ?_
    refine s_ltm rfl (fun m5 => ?_)
    refine s_iconst (v := (0 : Int32)) E dX11_prove_41 (by decide) ?_
    refine s_istore (lv' := [(0, .ref (G.2.1 0)), (2, .long z2.1), (4, .long v3), (6, .int (0 : Int32))]) [1, 3, 4, 0] E dX11_prove_42 (by rw [hn]; decide) rfl ?_
    exact t_k_prove_44 E hn z2.1 v3 (0 : Int32) m5
  · refine s_iconst (v := (-1 : Int32)) E dX11_prove_9 (by decide) ?_
    exact s_iret E rfl dX11_prove_10
set_option maxRecDepth 20000 in
theorem C_k_prove (l : Launch) (G : GG) (a1 : Int32) (m : M) {z : Int32 × M} (hz : k_prove a1 m = some z) : Ct l G yX11_prove cX11_prove 7 (some .int) 14 [.ref (G.2.1 0), .int a1] m (some (.int z.1)) z.2 :=
  ct_of (K := KWi) (by decide) (Nat.le_of_ble_eq_true rfl) (congrArg (fun q => Option.bind q _) hz) (fun x hl hn E => (t_k_prove E hn a1 m))
theorem dX11_isInRows_0 : decode cX11_isInRows 0 = .ok (.iload_n 1, 1) := by decide +kernel
theorem dX11_isInRows_1 : decode cX11_isInRows 1 = .ok (.iconst 0, 1) := by decide +kernel
theorem dX11_isInRows_2 : decode cX11_isInRows 2 = .ok (.aload_n 0, 1) := by decide +kernel
theorem dX11_isInRows_3 : decode cX11_isInRows 3 = .ok (.getfield 311, 3) := by decide +kernel
theorem dX11_isInRows_6 : decode cX11_isInRows 6 = .ok (.iconst 1, 1) := by decide +kernel
theorem dX11_isInRows_7 : decode cX11_isInRows 7 = .ok (.isub, 1) := by decide +kernel
theorem dX11_isInRows_8 : decode cX11_isInRows 8 = .ok (.invokestatic 61, 3) := by decide +kernel
theorem dX11_isInRows_11 : decode cX11_isInRows 11 = .ok (.ifCond .eq 16, 3) := by decide +kernel
theorem dX11_isInRows_14 : decode cX11_isInRows 14 = .ok (.iload_n 2, 1) := by decide +kernel
theorem dX11_isInRows_15 : decode cX11_isInRows 15 = .ok (.iconst 0, 1) := by decide +kernel
theorem dX11_isInRows_16 : decode cX11_isInRows 16 = .ok (.iconst 2, 1) := by decide +kernel
theorem dX11_isInRows_17 : decode cX11_isInRows 17 = .ok (.invokestatic 61, 3) := by decide +kernel
theorem dX11_isInRows_20 : decode cX11_isInRows 20 = .ok (.ifCond .eq 7, 3) := by decide +kernel
theorem dX11_isInRows_23 : decode cX11_isInRows 23 = .ok (.iconst 1, 1) := by decide +kernel
theorem dX11_isInRows_24 : decode cX11_isInRows 24 = .ok (.goto 4, 3) := by decide +kernel
theorem dX11_isInRows_27 : decode cX11_isInRows 27 = .ok (.iconst 0, 1) := by decide +kernel
theorem dX11_isInRows_28 : decode cX11_isInRows 28 = .ok (.ireturn, 1) := by decide +kernel
def k_isInRows (a1 : Int32) (a2 : Int32) (m : M) : Option (Int32) :=
  Option.bind (k_within a1 (0 : Int32) ((m 0 6) - (1 : Int32)) m) (fun v1 => (if v1 = 0 then some (0 : Int32) else Option.bind (k_within a2 (0 : Int32) (2 : Int32) m) (fun v2 => (if v2 = 0 then some (0 : Int32) else some (1 : Int32)))))
set_option maxRecDepth 20000 in
theorem t_k_isInRows {G : GG} {x : Cx} (E : En G x cX11_isInRows "WreckBoard" 2 (some .boolean)) (hn : xn x = 3) (a1 : Int32) (a2 : Int32) (m : M) : Sm G x 0 [(0, .ref (G.2.1 0)), (1, .int a1), (2, .int a2)] [] m (k_isInRows a1 a2 m) (KRi m) := by
  unfold k_isInRows
  refine s_iload_n 1 E dX11_isInRows_0 rfl rfl ?_
  refine s_iconst (v := (0 : Int32)) E dX11_isInRows_1 (by decide) ?_
  refine s_aload_n 0 E dX11_isInRows_2 rfl rfl ?_
  refine s_geti (k := 6) (T := TX11) 0 E rfl rfl rfl inX11 (by decide) W366 dX11_isInRows_3 ?_
  refine s_iconst (v := (1 : Int32)) E dX11_isInRows_6 (by decide) ?_
  refine s_isub E dX11_isInRows_7 ?_
  refine s_bd (fun v1 hz => ?_)
  refine s_cS (rest := []) E (C_k_within (xl x) G a1 (0 : Int32) ((m 0 6) - (1 : Int32)) m hz) mdX11_within W404 W405 W91 W406 rfl rfl (Nat.le_of_ble_eq_true rfl) ⟨by decide, by decide⟩ dX11_isInRows_8 ?_
  refine s_if_eq 27 E dX11_isInRows_11 (by decide) ?_ ?_
  · refine s_iconst (v := (0 : Int32)) E dX11_isInRows_27 (by decide) ?_
    exact s_zret E (by decide) rfl dX11_isInRows_28
  · refine s_iload_n 2 E dX11_isInRows_14 rfl rfl ?_
    refine s_iconst (v := (0 : Int32)) E dX11_isInRows_15 (by decide) ?_
    refine s_iconst (v := (2 : Int32)) E dX11_isInRows_16 (by decide) ?_
    refine s_bd (fun v2 hz => ?_)
    refine s_cS (rest := []) E (C_k_within (xl x) G a2 (0 : Int32) (2 : Int32) m hz) mdX11_within W404 W405 W91 W406 rfl rfl (Nat.le_of_ble_eq_true rfl) ⟨by decide, by decide⟩ dX11_isInRows_17 ?_
    refine s_if_eq 27 E dX11_isInRows_20 (by decide) ?_ ?_
    · refine s_iconst (v := (0 : Int32)) E dX11_isInRows_27 (by decide) ?_
      exact s_zret E (by decide) rfl dX11_isInRows_28
    · refine s_iconst (v := (1 : Int32)) E dX11_isInRows_23 (by decide) ?_
      refine s_goto 28 E dX11_isInRows_24 (by decide) ?_
      exact s_zret E (by decide) rfl dX11_isInRows_28
set_option maxRecDepth 20000 in
theorem C_k_isInRows (l : Launch) (G : GG) (a1 : Int32) (a2 : Int32) (m : M) {z : Int32} (hz : k_isInRows a1 a2 m = some z) : Ct l G yX11_isInRows cX11_isInRows 3 (some .boolean) 2 [.ref (G.2.1 0), .int a1, .int a2] m (some (.int z)) m :=
  ct_of (K := (KRi m)) (by decide) (Nat.le_of_ble_eq_true rfl) (congrArg (fun q => Option.bind q _) hz) (fun x hl hn E => (t_k_isInRows E hn a1 a2 m))
theorem mdX11_isInRows : mdq yX11_isInRows 2 := ⟨by decide, by decide, by decide +kernel⟩
theorem dX11_row_0 : decode cX11_row 0 = .ok (.aload_n 0, 1) := by decide +kernel
theorem dX11_row_1 : decode cX11_row 1 = .ok (.iload_n 1, 1) := by decide +kernel
theorem dX11_row_2 : decode cX11_row 2 = .ok (.iload_n 2, 1) := by decide +kernel
theorem dX11_row_3 : decode cX11_row 3 = .ok (.invokevirtual 314, 3) := by decide +kernel
theorem dX11_row_6 : decode cX11_row 6 = .ok (.ifCond .eq 14, 3) := by decide +kernel
theorem dX11_row_9 : decode cX11_row 9 = .ok (.aload_n 0, 1) := by decide +kernel
theorem dX11_row_10 : decode cX11_row 10 = .ok (.getfield 35, 3) := by decide +kernel
theorem dX11_row_13 : decode cX11_row 13 = .ok (.iload_n 1, 1) := by decide +kernel
theorem dX11_row_14 : decode cX11_row 14 = .ok (.aaload, 1) := by decide +kernel
theorem dX11_row_15 : decode cX11_row 15 = .ok (.iload_n 2, 1) := by decide +kernel
theorem dX11_row_16 : decode cX11_row 16 = .ok (.iaload, 1) := by decide +kernel
theorem dX11_row_17 : decode cX11_row 17 = .ok (.goto 5, 3) := by decide +kernel
theorem dX11_row_20 : decode cX11_row 20 = .ok (.bipush (-9), 2) := by decide +kernel
theorem dX11_row_22 : decode cX11_row 22 = .ok (.ireturn, 1) := by decide +kernel
def k_row (a1 : Int32) (a2 : Int32) (m : M) : Option (Int32) :=
  Option.bind (k_isInRows a1 a2 m) (fun v1 => (if v1 = 0 then some (-9 : Int32) else Option.bind (rdR 50 a1) (fun p2 => Option.bind (rdI m p2 a2) (fun v3 => some v3))))
set_option maxRecDepth 20000 in
theorem t_k_row {G : GG} {x : Cx} (E : En G x cX11_row "WreckBoard" 3 (some .int)) (hn : xn x = 3) (a1 : Int32) (a2 : Int32) (m : M) : Sm G x 0 [(0, .ref (G.2.1 0)), (1, .int a1), (2, .int a2)] [] m (k_row a1 a2 m) (KRi m) := by
  unfold k_row
  refine s_aload_n 0 E dX11_row_0 rfl rfl ?_
  refine s_iload_n 1 E dX11_row_1 rfl rfl ?_
  refine s_iload_n 2 E dX11_row_2 rfl rfl ?_
  refine s_bd (fun v1 hz => ?_)
  refine s_cV (rest := []) E (C_k_isInRows (xl x) G a1 a2 m hz) mdX11_isInRows W1044 W1046 W22 W91 W1047 rfl rfl rfl rfl (Nat.le_of_ble_eq_true rfl) ⟨by decide, by decide⟩ dX11_row_3 ?_
  refine s_if_eq 20 E dX11_row_6 (by decide) ?_ ?_
  · refine s_bipush (v := (-9 : Int32)) E dX11_row_20 (by decide) ?_
    exact s_iret E rfl dX11_row_22
  · refine s_aload_n 0 E dX11_row_9 rfl rfl ?_
    refine s_getr (k := 5) (T := TX11) 0 E rfl rfl rfl inX11 (by decide) W365 dX11_row_10 ?_
    refine s_iload_n 1 E dX11_row_13 rfl rfl ?_
    refine s_aald E dX11_row_14 (fun p2 => ?_)
    refine s_iload_n 2 E dX11_row_15 rfl rfl ?_
    refine s_iald E dX11_row_16 (fun v3 => ?_)
    refine s_goto 22 E dX11_row_17 (by decide) ?_
    exact s_iret E rfl dX11_row_22
set_option maxRecDepth 20000 in
theorem C_k_row (l : Launch) (G : GG) (a1 : Int32) (a2 : Int32) (m : M) {z : Int32} (hz : k_row a1 a2 m = some z) : Ct l G yX11_row cX11_row 3 (some .int) 3 [.ref (G.2.1 0), .int a1, .int a2] m (some (.int z)) m :=
  ct_of (K := (KRi m)) (by decide) (Nat.le_of_ble_eq_true rfl) (congrArg (fun q => Option.bind q _) hz) (fun x hl hn E => (t_k_row E hn a1 a2 m))
theorem dX11_alterRow_0 : decode cX11_alterRow 0 = .ok (.aload_n 0, 1) := by decide +kernel
theorem dX11_alterRow_1 : decode cX11_alterRow 1 = .ok (.iload_n 1, 1) := by decide +kernel
theorem dX11_alterRow_2 : decode cX11_alterRow 2 = .ok (.iload_n 2, 1) := by decide +kernel
theorem dX11_alterRow_3 : decode cX11_alterRow 3 = .ok (.invokevirtual 314, 3) := by decide +kernel
theorem dX11_alterRow_6 : decode cX11_alterRow 6 = .ok (.ifCond .ne 6, 3) := by decide +kernel
theorem dX11_alterRow_9 : decode cX11_alterRow 9 = .ok (.bipush (-9), 2) := by decide +kernel
theorem dX11_alterRow_11 : decode cX11_alterRow 11 = .ok (.ireturn, 1) := by decide +kernel
theorem dX11_alterRow_12 : decode cX11_alterRow 12 = .ok (.aload_n 0, 1) := by decide +kernel
theorem dX11_alterRow_13 : decode cX11_alterRow 13 = .ok (.getfield 35, 3) := by decide +kernel
theorem dX11_alterRow_16 : decode cX11_alterRow 16 = .ok (.iload_n 1, 1) := by decide +kernel
theorem dX11_alterRow_17 : decode cX11_alterRow 17 = .ok (.aaload, 1) := by decide +kernel
theorem dX11_alterRow_18 : decode cX11_alterRow 18 = .ok (.iload_n 2, 1) := by decide +kernel
theorem dX11_alterRow_19 : decode cX11_alterRow 19 = .ok (.iaload, 1) := by decide +kernel
theorem dX11_alterRow_20 : decode cX11_alterRow 20 = .ok (.istore 4, 2) := by decide +kernel
theorem dX11_alterRow_22 : decode cX11_alterRow 22 = .ok (.aload_n 0, 1) := by decide +kernel
theorem dX11_alterRow_23 : decode cX11_alterRow 23 = .ok (.getfield 35, 3) := by decide +kernel
theorem dX11_alterRow_26 : decode cX11_alterRow 26 = .ok (.iload_n 1, 1) := by decide +kernel
theorem dX11_alterRow_27 : decode cX11_alterRow 27 = .ok (.aaload, 1) := by decide +kernel
theorem dX11_alterRow_28 : decode cX11_alterRow 28 = .ok (.iload_n 2, 1) := by decide +kernel
theorem dX11_alterRow_29 : decode cX11_alterRow 29 = .ok (.iload_n 3, 1) := by decide +kernel
theorem dX11_alterRow_30 : decode cX11_alterRow 30 = .ok (.iastore, 1) := by decide +kernel
theorem dX11_alterRow_31 : decode cX11_alterRow 31 = .ok (.iload 4, 2) := by decide +kernel
theorem dX11_alterRow_33 : decode cX11_alterRow 33 = .ok (.ireturn, 1) := by decide +kernel
def k_alterRow (a1 : Int32) (a2 : Int32) (a3 : Int32) (m : M) : Option (Int32 × M) :=
  Option.bind (k_isInRows a1 a2 m) (fun v1 => (if v1 = 0 then some ((-9 : Int32), m) else Option.bind (rdR 50 a1) (fun p2 => Option.bind (rdI m p2 a2) (fun v3 => Option.bind (rdR 50 a1) (fun p4 => Option.bind (wrI m p4 a2 a3) (fun m5 => some (v3, m5)))))))
set_option maxRecDepth 20000 in
theorem t_k_alterRow {G : GG} {x : Cx} (E : En G x cX11_alterRow "WreckBoard" 3 (some .int)) (hn : xn x = 5) (a1 : Int32) (a2 : Int32) (a3 : Int32) (m : M) : Sm G x 0 [(0, .ref (G.2.1 0)), (1, .int a1), (2, .int a2), (3, .int a3)] [] m (k_alterRow a1 a2 a3 m) KWi := by
  unfold k_alterRow
  refine s_aload_n 0 E dX11_alterRow_0 rfl rfl ?_
  refine s_iload_n 1 E dX11_alterRow_1 rfl rfl ?_
  refine s_iload_n 2 E dX11_alterRow_2 rfl rfl ?_
  refine s_bd (fun v1 hz => ?_)
  refine s_cV (rest := []) E (C_k_isInRows (xl x) G a1 a2 m hz) mdX11_isInRows W1044 W1046 W22 W91 W1047 rfl rfl rfl rfl (Nat.le_of_ble_eq_true rfl) ⟨by decide, by decide⟩ dX11_alterRow_3 ?_
  refine s_if_ne 12 E dX11_alterRow_6 (by decide) ?_ ?_
  · refine s_aload_n 0 E dX11_alterRow_12 rfl rfl ?_
    refine s_getr (k := 5) (T := TX11) 0 E rfl rfl rfl inX11 (by decide) W365 dX11_alterRow_13 ?_
    refine s_iload_n 1 E dX11_alterRow_16 rfl rfl ?_
    refine s_aald E dX11_alterRow_17 (fun p2 => ?_)
    refine s_iload_n 2 E dX11_alterRow_18 rfl rfl ?_
    refine s_iald E dX11_alterRow_19 (fun v3 => ?_)
    refine s_istore (lv' := [(0, .ref (G.2.1 0)), (1, .int a1), (2, .int a2), (3, .int a3), (4, .int v3)]) [1, 2, 3, 4, 0] E dX11_alterRow_20 (by rw [hn]; decide) rfl ?_
    refine s_aload_n 0 E dX11_alterRow_22 rfl rfl ?_
    refine s_getr (k := 5) (T := TX11) 0 E rfl rfl rfl inX11 (by decide) W365 dX11_alterRow_23 ?_
    refine s_iload_n 1 E dX11_alterRow_26 rfl rfl ?_
    refine s_aald E dX11_alterRow_27 (fun p4 => ?_)
    refine s_iload_n 2 E dX11_alterRow_28 rfl rfl ?_
    refine s_iload_n 3 E dX11_alterRow_29 rfl rfl ?_
    refine s_iast E dX11_alterRow_30 (fun m5 => ?_)
    refine s_iload 4 E dX11_alterRow_31 rfl ?_
    exact s_iret E rfl dX11_alterRow_33
  · refine s_bipush (v := (-9 : Int32)) E dX11_alterRow_9 (by decide) ?_
    exact s_iret E rfl dX11_alterRow_11
set_option maxRecDepth 20000 in
theorem C_k_alterRow (l : Launch) (G : GG) (a1 : Int32) (a2 : Int32) (a3 : Int32) (m : M) {z : Int32 × M} (hz : k_alterRow a1 a2 a3 m = some z) : Ct l G yX11_alterRow cX11_alterRow 5 (some .int) 3 [.ref (G.2.1 0), .int a1, .int a2, .int a3] m (some (.int z.1)) z.2 :=
  ct_of (K := KWi) (by decide) (Nat.le_of_ble_eq_true rfl) (congrArg (fun q => Option.bind q _) hz) (fun x hl hn E => (t_k_alterRow E hn a1 a2 a3 m))
theorem dX0_isAct_0 : decode cX0_isAct 0 = .ok (.iload_n 1, 1) := by decide +kernel
theorem dX0_isAct_1 : decode cX0_isAct 1 = .ok (.iconst 0, 1) := by decide +kernel
theorem dX0_isAct_2 : decode cX0_isAct 2 = .ok (.aload_n 0, 1) := by decide +kernel
theorem dX0_isAct_3 : decode cX0_isAct 3 = .ok (.getfield 79, 3) := by decide +kernel
theorem dX0_isAct_6 : decode cX0_isAct 6 = .ok (.invokestatic 82, 3) := by decide +kernel
theorem dX0_isAct_9 : decode cX0_isAct 9 = .ok (.ireturn, 1) := by decide +kernel
def b_isAct (a1 : Int32) (m : M) : Option (Int32) :=
  Option.bind (k_within a1 (0 : Int32) (m 1 6) m) (fun v1 => some (v1 &&& 1))
set_option maxRecDepth 20000 in
theorem t_b_isAct {G : GG} {x : Cx} (E : En G x cX0_isAct "WreckBoard$Board" 2 (some .boolean)) (hn : xn x = 2) (a1 : Int32) (m : M) : Sm G x 0 [(0, .ref (G.2.1 1)), (1, .int a1)] [] m (b_isAct a1 m) (KRi m) := by
  unfold b_isAct
  refine s_iload_n 1 E dX0_isAct_0 rfl rfl ?_
  refine s_iconst (v := (0 : Int32)) E dX0_isAct_1 (by decide) ?_
  refine s_aload_n 0 E dX0_isAct_2 rfl rfl ?_
  refine s_geti (k := 6) (T := TX0) 1 E rfl rfl rfl inX0 (by decide) W236 dX0_isAct_3 ?_
  refine s_bd (fun v1 hz => ?_)
  refine s_cSN (rest := []) (host := "WreckBoard") E (C_k_within (xl x) G a1 (0 : Int32) (m 1 6) m hz) mdX11_within (by decide) W405 W91 W406 rfl rfl (Nat.le_of_ble_eq_true rfl) ⟨by decide, by decide⟩ dX0_isAct_6 ?_
  exact s_zretN E rfl dX0_isAct_9
set_option maxRecDepth 20000 in
theorem C_b_isAct (l : Launch) (G : GG) (a1 : Int32) (m : M) {z : Int32} (hz : b_isAct a1 m = some z) : Ct l G yX0_isAct cX0_isAct 2 (some .boolean) 2 [.ref (G.2.1 1), .int a1] m (some (.int z)) m :=
  ct_of (K := (KRi m)) (by decide) (Nat.le_of_ble_eq_true rfl) (congrArg (fun q => Option.bind q _) hz) (fun x hl hn E => (t_b_isAct E hn a1 m))
theorem mdX0_isAct : mdq yX0_isAct 1 := ⟨by decide, by decide, by decide +kernel⟩
theorem dX11_isRight_0 : decode cX11_isRight 0 = .ok (.aload_n 0, 1) := by decide +kernel
theorem dX11_isRight_1 : decode cX11_isRight 1 = .ok (.getfield 35, 3) := by decide +kernel
theorem dX11_isRight_4 : decode cX11_isRight 4 = .ok (.iload_n 1, 1) := by decide +kernel
theorem dX11_isRight_5 : decode cX11_isRight 5 = .ok (.aaload, 1) := by decide +kernel
theorem dX11_isRight_6 : decode cX11_isRight 6 = .ok (.iconst 0, 1) := by decide +kernel
theorem dX11_isRight_7 : decode cX11_isRight 7 = .ok (.iaload, 1) := by decide +kernel
theorem dX11_isRight_8 : decode cX11_isRight 8 = .ok (.istore_n 2, 1) := by decide +kernel
theorem dX11_isRight_9 : decode cX11_isRight 9 = .ok (.aload_n 0, 1) := by decide +kernel
theorem dX11_isRight_10 : decode cX11_isRight 10 = .ok (.getfield 12, 3) := by decide +kernel
theorem dX11_isRight_13 : decode cX11_isRight 13 = .ok (.invokevirtual 148, 3) := by decide +kernel
theorem dX11_isRight_16 : decode cX11_isRight 16 = .ok (.ifCond .ne 14, 3) := by decide +kernel
theorem dX11_isRight_19 : decode cX11_isRight 19 = .ok (.aload_n 0, 1) := by decide +kernel
theorem dX11_isRight_20 : decode cX11_isRight 20 = .ok (.getfield 12, 3) := by decide +kernel
theorem dX11_isRight_23 : decode cX11_isRight 23 = .ok (.iload_n 2, 1) := by decide +kernel
theorem dX11_isRight_24 : decode cX11_isRight 24 = .ok (.invokevirtual 320, 3) := by decide +kernel
theorem dX11_isRight_27 : decode cX11_isRight 27 = .ok (.ifCond .ne 5, 3) := by decide +kernel
theorem dX11_isRight_30 : decode cX11_isRight 30 = .ok (.iconst 0, 1) := by decide +kernel
theorem dX11_isRight_31 : decode cX11_isRight 31 = .ok (.ireturn, 1) := by decide +kernel
theorem dX11_isRight_32 : decode cX11_isRight 32 = .ok (.aload_n 0, 1) := by decide +kernel
theorem dX11_isRight_33 : decode cX11_isRight 33 = .ok (.getfield 12, 3) := by decide +kernel
theorem dX11_isRight_36 : decode cX11_isRight 36 = .ok (.iload_n 2, 1) := by decide +kernel
theorem dX11_isRight_37 : decode cX11_isRight 37 = .ok (.aload_n 0, 1) := by decide +kernel
theorem dX11_isRight_38 : decode cX11_isRight 38 = .ok (.getfield 12, 3) := by decide +kernel
theorem dX11_isRight_41 : decode cX11_isRight 41 = .ok (.invokevirtual 102, 3) := by decide +kernel
theorem dX11_isRight_44 : decode cX11_isRight 44 = .ok (.invokevirtual 254, 3) := by decide +kernel
theorem dX11_isRight_47 : decode cX11_isRight 47 = .ok (.istore_n 3, 1) := by decide +kernel
theorem dX11_isRight_48 : decode cX11_isRight 48 = .ok (.aload_n 0, 1) := by decide +kernel
theorem dX11_isRight_49 : decode cX11_isRight 49 = .ok (.getfield 35, 3) := by decide +kernel
theorem dX11_isRight_52 : decode cX11_isRight 52 = .ok (.iload_n 1, 1) := by decide +kernel
theorem dX11_isRight_53 : decode cX11_isRight 53 = .ok (.aaload, 1) := by decide +kernel
theorem dX11_isRight_54 : decode cX11_isRight 54 = .ok (.iconst 1, 1) := by decide +kernel
theorem dX11_isRight_55 : decode cX11_isRight 55 = .ok (.iaload, 1) := by decide +kernel
theorem dX11_isRight_56 : decode cX11_isRight 56 = .ok (.iload_n 3, 1) := by decide +kernel
theorem dX11_isRight_57 : decode cX11_isRight 57 = .ok (.if_icmp .ne 25, 3) := by decide +kernel
theorem dX11_isRight_60 : decode cX11_isRight 60 = .ok (.aload_n 0, 1) := by decide +kernel
theorem dX11_isRight_61 : decode cX11_isRight 61 = .ok (.getfield 35, 3) := by decide +kernel
theorem dX11_isRight_64 : decode cX11_isRight 64 = .ok (.iload_n 1, 1) := by decide +kernel
theorem dX11_isRight_65 : decode cX11_isRight 65 = .ok (.aaload, 1) := by decide +kernel
theorem dX11_isRight_66 : decode cX11_isRight 66 = .ok (.iconst 2, 1) := by decide +kernel
theorem dX11_isRight_67 : decode cX11_isRight 67 = .ok (.iaload, 1) := by decide +kernel
theorem dX11_isRight_68 : decode cX11_isRight 68 = .ok (.aload_n 0, 1) := by decide +kernel
theorem dX11_isRight_69 : decode cX11_isRight 69 = .ok (.getfield 12, 3) := by decide +kernel
theorem dX11_isRight_72 : decode cX11_isRight 72 = .ok (.getfield 145, 3) := by decide +kernel
theorem dX11_isRight_75 : decode cX11_isRight 75 = .ok (.if_icmp .ne 7, 3) := by decide +kernel
theorem dX11_isRight_78 : decode cX11_isRight 78 = .ok (.iconst 1, 1) := by decide +kernel
theorem dX11_isRight_79 : decode cX11_isRight 79 = .ok (.goto 4, 3) := by decide +kernel
theorem dX11_isRight_82 : decode cX11_isRight 82 = .ok (.iconst 0, 1) := by decide +kernel
theorem dX11_isRight_83 : decode cX11_isRight 83 = .ok (.ireturn, 1) := by decide +kernel
def k_isRight (a1 : Int32) (m : M) : Option (Int32 × M) :=
  Option.bind (rdR 50 a1) (fun p1 => Option.bind (rdI m p1 (0 : Int32)) (fun v2 => Option.bind (b_isOver m) (fun v3 => (if v3 = 0 then Option.bind (b_isAct v2 m) (fun v4 => (if v4 = 0 then some ((0 : Int32), m) else Option.bind (b_count m) (fun v5 => Option.bind (b_goesBy v2 v5 m) (fun z6 => Option.bind (rdR 50 a1) (fun p7 => Option.bind (rdI z6.2 p7 (1 : Int32)) (fun v8 => (if v8 = z6.1 then Option.bind (rdR 50 a1) (fun p9 => Option.bind (rdI z6.2 p9 (2 : Int32)) (fun v10 => (if v10 = (z6.2 1 7) then some ((1 : Int32), z6.2) else some ((0 : Int32), z6.2)))) else some ((0 : Int32), z6.2)))))))) else some ((0 : Int32), m)))))
set_option maxRecDepth 20000 in
theorem t_k_isRight {G : GG} {x : Cx} (E : En G x cX11_isRight "WreckBoard" 6 (some .boolean)) (hn : xn x = 4) (a1 : Int32) (m : M) : Sm G x 0 [(0, .ref (G.2.1 0)), (1, .int a1)] [] m (k_isRight a1 m) KWi := by
  unfold k_isRight
  refine s_aload_n 0 E dX11_isRight_0 rfl rfl ?_
  refine s_getr (k := 5) (T := TX11) 0 E rfl rfl rfl inX11 (by decide) W365 dX11_isRight_1 ?_
  refine s_iload_n 1 E dX11_isRight_4 rfl rfl ?_
  refine s_aald E dX11_isRight_5 (fun p1 => ?_)
  refine s_iconst (v := (0 : Int32)) E dX11_isRight_6 (by decide) ?_
  refine s_iald E dX11_isRight_7 (fun v2 => ?_)
  refine s_istore_n (lv' := [(0, .ref (G.2.1 0)), (1, .int a1), (2, .int v2)]) [1, 2, 0] E dX11_isRight_8 rfl (by rw [hn]; decide) rfl ?_
  refine s_aload_n 0 E dX11_isRight_9 rfl rfl ?_
  refine s_getr (k := 0) (T := TX11) 0 E rfl rfl rfl inX11 (by decide) W360 dX11_isRight_10 ?_
  refine s_bd (fun v3 hz => ?_)
  refine s_cV (rest := []) E (C_b_isOver (xl x) G  m hz) mdX0_isOver W578 W579 W580 W92 W581 rfl rfl rfl rfl (Nat.le_of_ble_eq_true rfl) ⟨by decide, by decide⟩ dX11_isRight_13 ?_
  refine s_if_ne 30 E dX11_isRight_16 (by decide) ?_ ?_
  · refine s_iconst (v := (0 : Int32)) E dX11_isRight_30 (by decide) ?_
    exact s_zret E (by decide) rfl dX11_isRight_31
  · refine s_aload_n 0 E dX11_isRight_19 rfl rfl ?_
    refine s_getr (k := 0) (T := TX11) 0 E rfl rfl rfl inX11 (by decide) W360 dX11_isRight_20 ?_
    refine s_iload_n 2 E dX11_isRight_23 rfl rfl ?_
    refine s_bd (fun v4 hz => ?_)
    refine s_cV (rest := []) E (C_b_isAct (xl x) G v2 m hz) mdX0_isAct W1060 W1061 W1062 W92 W1063 rfl rfl rfl rfl (Nat.le_of_ble_eq_true rfl) ⟨by decide, by decide⟩ dX11_isRight_24 ?_
    refine s_if_ne 32 E dX11_isRight_27 (by decide) ?_ ?_
    · refine s_aload_n 0 E dX11_isRight_32 rfl rfl ?_
      refine s_getr (k := 0) (T := TX11) 0 E rfl rfl rfl inX11 (by decide) W360 dX11_isRight_33 ?_
      refine s_iload_n 2 E dX11_isRight_36 rfl rfl ?_
      refine s_aload_n 0 E dX11_isRight_37 rfl rfl ?_
      refine s_getr (k := 0) (T := TX11) 0 E rfl rfl rfl inX11 (by decide) W360 dX11_isRight_38 ?_
      refine s_bd (fun v5 hz => ?_)
      refine s_cV (rest := [.int v2, .ref (G.2.1 1)]) E (C_b_count (xl x) G  m hz) mdX0_count W499 W500 W501 W92 W502 rfl rfl rfl rfl (Nat.le_of_ble_eq_true rfl) ⟨by decide, by decide⟩ dX11_isRight_41 ?_
      refine s_bd (fun z6 hz => ?_)
      refine s_cV (rest := []) E (C_b_goesBy (xl x) G v2 v5 m hz) mdX0_goesBy W909 W799 W800 W92 W801 rfl rfl rfl rfl (Nat.le_of_ble_eq_true rfl) ⟨by decide, by decide⟩ dX11_isRight_44 ?_
      refine s_istore_n (lv' := [(0, .ref (G.2.1 0)), (1, .int a1), (3, .int z6.1)]) [1, 2, 0] E dX11_isRight_47 rfl (by rw [hn]; decide) rfl ?_
      refine s_aload_n 0 E dX11_isRight_48 rfl rfl ?_
      refine s_getr (k := 5) (T := TX11) 0 E rfl rfl rfl inX11 (by decide) W365 dX11_isRight_49 ?_
      refine s_iload_n 1 E dX11_isRight_52 rfl rfl ?_
      refine s_aald E dX11_isRight_53 (fun p7 => ?_)
      refine s_iconst (v := (1 : Int32)) E dX11_isRight_54 (by decide) ?_
      refine s_iald E dX11_isRight_55 (fun v8 => ?_)
      refine s_iload_n 2 E dX11_isRight_56 rfl rfl ?_
      refine s_icmp_ne 82 E dX11_isRight_57 (by decide) ?_ ?_
      · refine s_iconst (v := (0 : Int32)) E dX11_isRight_82 (by decide) ?_
        exact s_zret E (by decide) rfl dX11_isRight_83
      · refine s_aload_n 0 E dX11_isRight_60 rfl rfl ?_
        refine s_getr (k := 5) (T := TX11) 0 E rfl rfl rfl inX11 (by decide) W365 dX11_isRight_61 ?_
        refine s_iload_n 1 E dX11_isRight_64 rfl rfl ?_
        refine s_aald E dX11_isRight_65 (fun p9 => ?_)
        refine s_iconst (v := (2 : Int32)) E dX11_isRight_66 (by decide) ?_
        refine s_iald E dX11_isRight_67 (fun v10 => ?_)
        refine s_aload_n 0 E dX11_isRight_68 rfl rfl ?_
        refine s_getr (k := 0) (T := TX11) 0 E rfl rfl rfl inX11 (by decide) W360 dX11_isRight_69 ?_
        refine s_geti (k := 7) (T := TX0) 1 E rfl rfl rfl inX0 (by decide) W239 dX11_isRight_72 ?_
        refine s_icmp_ne 82 E dX11_isRight_75 (by decide) ?_ ?_
        · refine s_iconst (v := (0 : Int32)) E dX11_isRight_82 (by decide) ?_
          exact s_zret E (by decide) rfl dX11_isRight_83
        · refine s_iconst (v := (1 : Int32)) E dX11_isRight_78 (by decide) ?_
          refine s_goto 83 E dX11_isRight_79 (by decide) ?_
          exact s_zret E (by decide) rfl dX11_isRight_83
    · refine s_iconst (v := (0 : Int32)) E dX11_isRight_30 (by decide) ?_
      exact s_zret E (by decide) rfl dX11_isRight_31
set_option maxRecDepth 20000 in
theorem C_k_isRight (l : Launch) (G : GG) (a1 : Int32) (m : M) {z : Int32 × M} (hz : k_isRight a1 m = some z) : Ct l G yX11_isRight cX11_isRight 4 (some .boolean) 6 [.ref (G.2.1 0), .int a1] m (some (.int z.1)) z.2 :=
  ct_of (K := KWi) (by decide) (Nat.le_of_ble_eq_true rfl) (congrArg (fun q => Option.bind q _) hz) (fun x hl hn E => (t_k_isRight E hn a1 m))
theorem mdX11_isRight : mdq yX11_isRight 1 := ⟨by decide, by decide, by decide +kernel⟩
theorem dX11_judge_0 : decode cX11_judge 0 = .ok (.aload_n 0, 1) := by decide +kernel
theorem dX11_judge_1 : decode cX11_judge 1 = .ok (.getfield 12, 3) := by decide +kernel
theorem dX11_judge_4 : decode cX11_judge 4 = .ok (.invokevirtual 178, 3) := by decide +kernel
theorem dX11_judge_7 : decode cX11_judge 7 = .ok (.lstore_n 1, 1) := by decide +kernel
theorem dX11_judge_8 : decode cX11_judge 8 = .ok (.iconst 0, 1) := by decide +kernel
theorem dX11_judge_9 : decode cX11_judge 9 = .ok (.istore_n 3, 1) := by decide +kernel
theorem dX11_judge_10 : decode cX11_judge 10 = .ok (.iconst 0, 1) := by decide +kernel
theorem dX11_judge_11 : decode cX11_judge 11 = .ok (.istore 4, 2) := by decide +kernel
theorem dX11_judge_13 : decode cX11_judge 13 = .ok (.iload 4, 2) := by decide +kernel
theorem dX11_judge_15 : decode cX11_judge 15 = .ok (.aload_n 0, 1) := by decide +kernel
theorem dX11_judge_16 : decode cX11_judge 16 = .ok (.getfield 311, 3) := by decide +kernel
theorem dX11_judge_19 : decode cX11_judge 19 = .ok (.if_icmp .ge 27, 3) := by decide +kernel
theorem dX11_judge_22 : decode cX11_judge 22 = .ok (.iload_n 3, 1) := by decide +kernel
theorem dX11_judge_23 : decode cX11_judge 23 = .ok (.ifCond .ne 23, 3) := by decide +kernel
theorem dX11_judge_26 : decode cX11_judge 26 = .ok (.aload_n 0, 1) := by decide +kernel
theorem dX11_judge_27 : decode cX11_judge 27 = .ok (.iload 4, 2) := by decide +kernel
theorem dX11_judge_29 : decode cX11_judge 29 = .ok (.invokevirtual 317, 3) := by decide +kernel
theorem dX11_judge_32 : decode cX11_judge 32 = .ok (.ifCond .ne 8, 3) := by decide +kernel
theorem dX11_judge_35 : decode cX11_judge 35 = .ok (.iload 4, 2) := by decide +kernel
theorem dX11_judge_37 : decode cX11_judge 37 = .ok (.iconst 1, 1) := by decide +kernel
theorem dX11_judge_38 : decode cX11_judge 38 = .ok (.iadd, 1) := by decide +kernel
theorem dX11_judge_39 : decode cX11_judge 39 = .ok (.istore_n 3, 1) := by decide +kernel
theorem dX11_judge_40 : decode cX11_judge 40 = .ok (.iinc 4 1, 3) := by decide +kernel
theorem dX11_judge_43 : decode cX11_judge 43 = .ok (.goto (-30), 3) := by decide +kernel
theorem dX11_judge_46 : decode cX11_judge 46 = .ok (.aload_n 0, 1) := by decide +kernel
theorem dX11_judge_47 : decode cX11_judge 47 = .ok (.getfield 12, 3) := by decide +kernel
theorem dX11_judge_50 : decode cX11_judge 50 = .ok (.lload_n 1, 1) := by decide +kernel
theorem dX11_judge_51 : decode cX11_judge 51 = .ok (.invokevirtual 185, 3) := by decide +kernel
theorem dX11_judge_54 : decode cX11_judge 54 = .ok (.iload_n 3, 1) := by decide +kernel
theorem dX11_judge_55 : decode cX11_judge 55 = .ok (.ireturn, 1) := by decide +kernel
def k_judge_40 (a1 : Int64) (a3 : Int32) (a4 : Int32) (m : M) : Option ((Int32 × Int32 × M) ⊕ ((Int32 × M))) :=
  lt (a4 + (1 : Int32)) (fun w1 : Int32 => some (.inl (a3, w1, m)))
set_option maxRecDepth 20000 in
theorem t_k_judge_40 {G : GG} {x : Cx} {K : ((Int32 × Int32 × M) ⊕ ((Int32 × M))) → Option (Option Value × M)} (E : En G x cX11_judge "WreckBoard" 7 (some .int)) (hn : xn x = 5) (a1 : Int64) (a3 : Int32) (a4 : Int32) (m : M) (hb : ∀ z : Int32 × Int32 × M, Sm G x 13 [(0, .ref (G.2.1 0)), (1, .long a1), (3, .int z.1), (4, .int z.2.1)] [] z.2.2 (some (.inl z)) K) (hx0 : ∀ z : Int32 × M, Sm G x 46 [(0, .ref (G.2.1 0)), (1, .long a1), (3, .int z.1)] [] z.2 (some (.inr z)) K) : Sm G x 40 [(0, .ref (G.2.1 0)), (1, .long a1), (3, .int a3), (4, .int a4)] [] m (k_judge_40 a1 a3 a4 m) K := by
  unfold k_judge_40
  refine s_iincL (v := (1 : Int32)) 3 [1, 2, 3, 0] (fun w1 => [(0, .ref (G.2.1 0)), (1, .long a1), (3, .int a3), (4, .int w1)]) E dX11_judge_40 rfl (by decide) (by rw [hn]; decide) (fun _ => rfl) (fun w1 => ?_)
  refine s_goto 13 E dX11_judge_43 (by decide) ?_
  exact hb (a3, w1, m)
def k_judge_13b (a1 : Int64) (a3 : Int32) (a4 : Int32) (m : M) : Option ((Int32 × Int32 × M) ⊕ ((Int32 × M))) :=
  (if (m 0 6) ≤ a4 then some (.inr (a3, m)) else (if a3 = 0 then Option.bind (k_isRight a4 m) (fun z1 => (if z1.1 = 0 then lt (a4 + (1 : Int32)) (fun w2 : Int32 => k_judge_40 a1 w2 a4 z1.2) else k_judge_40 a1 a3 a4 z1.2)) else some (.inr (a3, m))))
set_option maxRecDepth 20000 in
theorem t_k_judge_13b {G : GG} {x : Cx} {K : ((Int32 × Int32 × M) ⊕ ((Int32 × M))) → Option (Option Value × M)} (E : En G x cX11_judge "WreckBoard" 7 (some .int)) (hn : xn x = 5) (a1 : Int64) (a3 : Int32) (a4 : Int32) (m : M) (hb : ∀ z : Int32 × Int32 × M, Sm G x 13 [(0, .ref (G.2.1 0)), (1, .long a1), (3, .int z.1), (4, .int z.2.1)] [] z.2.2 (some (.inl z)) K) (hx0 : ∀ z : Int32 × M, Sm G x 46 [(0, .ref (G.2.1 0)), (1, .long a1), (3, .int z.1)] [] z.2 (some (.inr z)) K) : Sm G x 13 [(0, .ref (G.2.1 0)), (1, .long a1), (3, .int a3), (4, .int a4)] [] m (k_judge_13b a1 a3 a4 m) K := by
  unfold k_judge_13b
  refine s_iload 3 E dX11_judge_13 rfl ?_
  refine s_aload_n 0 E dX11_judge_15 rfl rfl ?_
  refine s_geti (k := 6) (T := TX11) 0 E rfl rfl rfl inX11 (by decide) W366 dX11_judge_16 ?_
  refine s_icmp_ge 46 E dX11_judge_19 (by decide) ?_ ?_
  · refine s_sub (lv' := [(0, .ref (G.2.1 0)), (1, .long a1), (3, .int a3)]) [0, 1, 2] rfl ?_
    exact hx0 (a3, m)
  · refine s_iload_n 2 E dX11_judge_22 rfl rfl ?_
    refine s_if_ne 46 E dX11_judge_23 (by decide) ?_ ?_
    · refine s_sub (lv' := [(0, .ref (G.2.1 0)), (1, .long a1), (3, .int a3)]) [0, 1, 2] rfl ?_
      exact hx0 (a3, m)
    · refine s_aload_n 0 E dX11_judge_26 rfl rfl ?_
      refine s_iload 3 E dX11_judge_27 rfl ?_
      refine s_bd (fun z1 hz => ?_)
      refine s_cV (rest := []) E (C_k_isRight (xl x) G a4 m hz) mdX11_isRight W1056 W1058 W23 W91 W1059 rfl rfl rfl rfl (Nat.le_of_ble_eq_true rfl) ⟨by decide, by decide⟩ dX11_judge_29 ?_
      refine s_if_ne 40 E dX11_judge_32 (by decide) ?_ ?_
      · exact t_k_judge_40 E hn a1 a3 a4 z1.2 hb hx0
      · refine s_iload 3 E dX11_judge_35 rfl ?_
        refine s_iconst (v := (1 : Int32)) E dX11_judge_37 (by decide) ?_
        refine s_iadd E dX11_judge_38 ?_
        refine s_lt (fun w2 => [(0, .ref (G.2.1 0)), (1, .long a1), (3, .int a3), (4, .int a4)]) (fun w2 => [.int w2]) rfl rfl (fun w2 => ?_)
        refine s_istore_n (lv' := [(0, .ref (G.2.1 0)), (1, .long a1), (3, .int w2), (4, .int a4)]) [1, 2, 0, 3] E dX11_judge_39 rfl (by rw [hn]; decide) rfl ?_
        exact t_k_judge_40 E hn a1 w2 a4 z1.2 hb hx0
def k_judge_46 (a1 : Int64) (a3 : Int32) (m : M) : Option (Int32 × M) :=
  Option.bind (b_goBackTo a1 m) (fun m1 => some (a3, m1))
set_option maxRecDepth 20000 in
theorem t_k_judge_46 {G : GG} {x : Cx} (E : En G x cX11_judge "WreckBoard" 7 (some .int)) (hn : xn x = 5) (a1 : Int64) (a3 : Int32) (m : M) : Sm G x 46 [(0, .ref (G.2.1 0)), (1, .long a1), (3, .int a3)] [] m (k_judge_46 a1 a3 m) KWi := by
  unfold k_judge_46
  refine s_aload_n 0 E dX11_judge_46 rfl rfl ?_
  refine s_getr (k := 0) (T := TX11) 0 E rfl rfl rfl inX11 (by decide) W360 dX11_judge_47 ?_
  refine s_lload_n 1 E dX11_judge_50 rfl rfl ?_
  refine s_bd (fun m1 hz => ?_)
  refine s_cV (rest := []) E (C_b_goBackTo (xl x) G a1 m hz) mdX0_goBackTo W835 W836 W837 W92 W838 rfl rfl rfl rfl (Nat.le_of_ble_eq_true rfl) ⟨by decide, by decide⟩ dX11_judge_51 ?_
  refine s_iload_n 2 E dX11_judge_54 rfl rfl ?_
  exact s_iret E rfl dX11_judge_55
def k_judge_13 (a1 : Int64) (a3 : Int32) (a4 : Int32) (m : M) : Option (Int32 × M) :=
  Option.bind (iter (fun z => k_judge_13b a1 z.1 z.2.1 z.2.2) FU (a3, a4, m)) (fun r => k_judge_46 a1 r.1 r.2)
set_option maxRecDepth 20000 in
theorem t_k_judge_13 {G : GG} {x : Cx} (E : En G x cX11_judge "WreckBoard" 7 (some .int)) (hn : xn x = 5) (a1 : Int64) (a3 : Int32) (a4 : Int32) (m : M) : Sm G x 13 [(0, .ref (G.2.1 0)), (1, .long a1), (3, .int a3), (4, .int a4)] [] m (k_judge_13 a1 a3 a4 m) KWi := by
  unfold k_judge_13
  refine s_loop (fun z => [(0, .ref (G.2.1 0)), (1, .long a1), (3, .int z.1), (4, .int z.2.1)]) (fun z => z.2.2) (fun K2 hb2 hr2 z => ?_) FU (a3, a4, m)
  refine t_k_judge_13b (K := K2) E hn a1 z.1 z.2.1 z.2.2 hb2 (fun r => s_out (hr2 r) ?_)
  · exact t_k_judge_46 E hn a1 r.1 r.2
def k_judge  (m : M) : Option (Int32 × M) :=
  Option.bind (b_moment m) (fun v1 => k_judge_13 v1 (0 : Int32) (0 : Int32) m)
set_option maxRecDepth 20000 in
theorem t_k_judge {G : GG} {x : Cx} (E : En G x cX11_judge "WreckBoard" 7 (some .int)) (hn : xn x = 5)  (m : M) : Sm G x 0 [(0, .ref (G.2.1 0))] [] m (k_judge m) KWi := by
  unfold k_judge
  refine s_aload_n 0 E dX11_judge_0 rfl rfl ?_
  refine s_getr (k := 0) (T := TX11) 0 E rfl rfl rfl inX11 (by decide) W360 dX11_judge_1 ?_
  refine s_bd (fun v1 hz => ?_)
  refine s_cV (rest := []) E (C_b_moment (xl x) G  m hz) mdX0_moment W822 W823 W824 W92 W825 rfl rfl rfl rfl (Nat.le_of_ble_eq_true rfl) ⟨by decide, by decide⟩ dX11_judge_4 ?_
  refine s_lstore_n (lv' := [(0, .ref (G.2.1 0)), (1, .long v1)]) [1, 0] E dX11_judge_7 rfl (by rw [hn]; decide) rfl ?_
  refine s_iconst (v := (0 : Int32)) E dX11_judge_8 (by decide) ?_
  refine s_istore_n (lv' := [(0, .ref (G.2.1 0)), (1, .long v1), (3, .int (0 : Int32))]) [1, 2, 0] E dX11_judge_9 rfl (by rw [hn]; decide) rfl ?_
  refine s_iconst (v := (0 : Int32)) E dX11_judge_10 (by decide) ?_
  refine s_istore (lv' := [(0, .ref (G.2.1 0)), (1, .long v1), (3, .int (0 : Int32)), (4, .int (0 : Int32))]) [1, 2, 3, 0] E dX11_judge_11 (by rw [hn]; decide) rfl ?_
  exact t_k_judge_13 E hn v1 (0 : Int32) (0 : Int32) m
set_option maxRecDepth 20000 in
theorem C_k_judge (l : Launch) (G : GG)  (m : M) {z : Int32 × M} (hz : k_judge m = some z) : Ct l G yX11_judge cX11_judge 5 (some .int) 7 [.ref (G.2.1 0)] m (some (.int z.1)) z.2 :=
  ct_of (K := KWi) (by decide) (Nat.le_of_ble_eq_true rfl) (congrArg (fun q => Option.bind q _) hz) (fun x hl hn E => (t_k_judge E hn  m))
theorem dX11_sheet_0 : decode cX11_sheet 0 = .ok (.iload_n 1, 1) := by decide +kernel
theorem dX11_sheet_1 : decode cX11_sheet 1 = .ok (.iconst 0, 1) := by decide +kernel
theorem dX11_sheet_2 : decode cX11_sheet 2 = .ok (.iconst 3, 1) := by decide +kernel
theorem dX11_sheet_3 : decode cX11_sheet 3 = .ok (.invokestatic 61, 3) := by decide +kernel
theorem dX11_sheet_6 : decode cX11_sheet 6 = .ok (.ifCond .eq 12, 3) := by decide +kernel
theorem dX11_sheet_9 : decode cX11_sheet 9 = .ok (.iload_n 2, 1) := by decide +kernel
theorem dX11_sheet_10 : decode cX11_sheet 10 = .ok (.iconst (-1), 1) := by decide +kernel
theorem dX11_sheet_11 : decode cX11_sheet 11 = .ok (.iconst 4, 1) := by decide +kernel
theorem dX11_sheet_12 : decode cX11_sheet 12 = .ok (.invokestatic 61, 3) := by decide +kernel
theorem dX11_sheet_15 : decode cX11_sheet 15 = .ok (.ifCond .ne 5, 3) := by decide +kernel
theorem dX11_sheet_18 : decode cX11_sheet 18 = .ok (.iconst (-1), 1) := by decide +kernel
theorem dX11_sheet_19 : decode cX11_sheet 19 = .ok (.ireturn, 1) := by decide +kernel
theorem dX11_sheet_20 : decode cX11_sheet 20 = .ok (.iload_n 2, 1) := by decide +kernel
theorem dX11_sheet_21 : decode cX11_sheet 21 = .ok (.iconst (-1), 1) := by decide +kernel
theorem dX11_sheet_22 : decode cX11_sheet 22 = .ok (.if_icmp .ne 12, 3) := by decide +kernel
theorem dX11_sheet_25 : decode cX11_sheet 25 = .ok (.aload_n 0, 1) := by decide +kernel
theorem dX11_sheet_26 : decode cX11_sheet 26 = .ok (.getfield 38, 3) := by decide +kernel
theorem dX11_sheet_29 : decode cX11_sheet 29 = .ok (.iload_n 1, 1) := by decide +kernel
theorem dX11_sheet_30 : decode cX11_sheet 30 = .ok (.iconst (-1), 1) := by decide +kernel
theorem dX11_sheet_31 : decode cX11_sheet 31 = .ok (.iastore, 1) := by decide +kernel
theorem dX11_sheet_32 : decode cX11_sheet 32 = .ok (.iconst 1, 1) := by decide +kernel
theorem dX11_sheet_33 : decode cX11_sheet 33 = .ok (.ireturn, 1) := by decide +kernel
theorem dX11_sheet_34 : decode cX11_sheet 34 = .ok (.iload_n 3, 1) := by decide +kernel
theorem dX11_sheet_35 : decode cX11_sheet 35 = .ok (.bipush 40, 2) := by decide +kernel
theorem dX11_sheet_37 : decode cX11_sheet 37 = .ok (.if_icmp .le 5, 3) := by decide +kernel
theorem dX11_sheet_40 : decode cX11_sheet 40 = .ok (.iconst (-1), 1) := by decide +kernel
theorem dX11_sheet_41 : decode cX11_sheet 41 = .ok (.ireturn, 1) := by decide +kernel
theorem dX11_sheet_42 : decode cX11_sheet 42 = .ok (.iload_n 3, 1) := by decide +kernel
theorem dX11_sheet_43 : decode cX11_sheet 43 = .ok (.ifCond .ge 6, 3) := by decide +kernel
theorem dX11_sheet_46 : decode cX11_sheet 46 = .ok (.bipush (-14), 2) := by decide +kernel
theorem dX11_sheet_48 : decode cX11_sheet 48 = .ok (.ireturn, 1) := by decide +kernel
theorem dX11_sheet_49 : decode cX11_sheet 49 = .ok (.aload_n 0, 1) := by decide +kernel
theorem dX11_sheet_50 : decode cX11_sheet 50 = .ok (.getfield 38, 3) := by decide +kernel
theorem dX11_sheet_53 : decode cX11_sheet 53 = .ok (.iload_n 1, 1) := by decide +kernel
theorem dX11_sheet_54 : decode cX11_sheet 54 = .ok (.iload_n 2, 1) := by decide +kernel
theorem dX11_sheet_55 : decode cX11_sheet 55 = .ok (.iastore, 1) := by decide +kernel
theorem dX11_sheet_56 : decode cX11_sheet 56 = .ok (.aload_n 0, 1) := by decide +kernel
theorem dX11_sheet_57 : decode cX11_sheet 57 = .ok (.getfield 42, 3) := by decide +kernel
theorem dX11_sheet_60 : decode cX11_sheet 60 = .ok (.iload_n 1, 1) := by decide +kernel
theorem dX11_sheet_61 : decode cX11_sheet 61 = .ok (.iload_n 3, 1) := by decide +kernel
theorem dX11_sheet_62 : decode cX11_sheet 62 = .ok (.iastore, 1) := by decide +kernel
theorem dX11_sheet_63 : decode cX11_sheet 63 = .ok (.iconst 0, 1) := by decide +kernel
theorem dX11_sheet_64 : decode cX11_sheet 64 = .ok (.istore 4, 2) := by decide +kernel
theorem dX11_sheet_66 : decode cX11_sheet 66 = .ok (.iload 4, 2) := by decide +kernel
theorem dX11_sheet_68 : decode cX11_sheet 68 = .ok (.iload_n 3, 1) := by decide +kernel
theorem dX11_sheet_69 : decode cX11_sheet 69 = .ok (.if_icmp .ge 19, 3) := by decide +kernel
theorem dX11_sheet_72 : decode cX11_sheet 72 = .ok (.aload_n 0, 1) := by decide +kernel
theorem dX11_sheet_73 : decode cX11_sheet 73 = .ok (.getfield 45, 3) := by decide +kernel
theorem dX11_sheet_76 : decode cX11_sheet 76 = .ok (.iload_n 1, 1) := by decide +kernel
theorem dX11_sheet_77 : decode cX11_sheet 77 = .ok (.aaload, 1) := by decide +kernel
theorem dX11_sheet_78 : decode cX11_sheet 78 = .ok (.iload 4, 2) := by decide +kernel
theorem dX11_sheet_80 : decode cX11_sheet 80 = .ok (.iconst 0, 1) := by decide +kernel
theorem dX11_sheet_81 : decode cX11_sheet 81 = .ok (.iastore, 1) := by decide +kernel
theorem dX11_sheet_82 : decode cX11_sheet 82 = .ok (.iinc 4 1, 3) := by decide +kernel
theorem dX11_sheet_85 : decode cX11_sheet 85 = .ok (.goto (-19), 3) := by decide +kernel
theorem dX11_sheet_88 : decode cX11_sheet 88 = .ok (.iconst 1, 1) := by decide +kernel
theorem dX11_sheet_89 : decode cX11_sheet 89 = .ok (.ireturn, 1) := by decide +kernel
def k_sheet_66b (a1 : Int32) (a3 : Int32) (a4 : Int32) (m : M) : Option ((Int32 × M) ⊕ ((M))) :=
  (if a3 ≤ a4 then some (.inr m) else Option.bind (rdR 55 a1) (fun p1 => Option.bind (wrI m p1 a4 (0 : Int32)) (fun m2 => lt (a4 + (1 : Int32)) (fun w3 : Int32 => some (.inl (w3, m2))))))
set_option maxRecDepth 20000 in
theorem t_k_sheet_66b {G : GG} {x : Cx} {K : ((Int32 × M) ⊕ ((M))) → Option (Option Value × M)} (E : En G x cX11_sheet "WreckBoard" 2 (some .int)) (hn : xn x = 5) (a1 : Int32) (a3 : Int32) (a4 : Int32) (m : M) (hb : ∀ z : Int32 × M, Sm G x 66 [(0, .ref (G.2.1 0)), (1, .int a1), (3, .int a3), (4, .int z.1)] [] z.2 (some (.inl z)) K) (hx0 : ∀ z : M, Sm G x 88 [] [] z (some (.inr z)) K) : Sm G x 66 [(0, .ref (G.2.1 0)), (1, .int a1), (3, .int a3), (4, .int a4)] [] m (k_sheet_66b a1 a3 a4 m) K := by
  unfold k_sheet_66b
  refine s_iload 3 E dX11_sheet_66 rfl ?_
  refine s_iload_n 2 E dX11_sheet_68 rfl rfl ?_
  refine s_icmp_ge 88 E dX11_sheet_69 (by decide) ?_ ?_
  · refine s_sub (lv' := []) [] rfl ?_
    exact hx0 m
  · refine s_aload_n 0 E dX11_sheet_72 rfl rfl ?_
    refine s_getr (k := 9) (T := TX11) 0 E rfl rfl rfl inX11 (by decide) W369 dX11_sheet_73 ?_
    refine s_iload_n 1 E dX11_sheet_76 rfl rfl ?_
    refine s_aald E dX11_sheet_77 (fun p1 => ?_)
    refine s_iload 3 E dX11_sheet_78 rfl ?_
    refine s_iconst (v := (0 : Int32)) E dX11_sheet_80 (by decide) ?_
    refine s_iast E dX11_sheet_81 (fun m2 => ?_)
    refine s_iincL (v := (1 : Int32)) 3 [1, 2, 3, 0] (fun w3 => [(0, .ref (G.2.1 0)), (1, .int a1), (3, .int a3), (4, .int w3)]) E dX11_sheet_82 rfl (by decide) (by rw [hn]; decide) (fun _ => rfl) (fun w3 => ?_)
    refine s_goto 66 E dX11_sheet_85 (by decide) ?_
    exact hb (w3, m2)
def k_sheet_66 (a1 : Int32) (a3 : Int32) (a4 : Int32) (m : M) : Option (Int32 × M) :=
  Option.bind (iter (fun z => k_sheet_66b a1 a3 z.1 z.2) FU (a4, m)) (fun r => some ((1 : Int32), r))
set_option maxRecDepth 20000 in
theorem t_k_sheet_66 {G : GG} {x : Cx} (E : En G x cX11_sheet "WreckBoard" 2 (some .int)) (hn : xn x = 5) (a1 : Int32) (a3 : Int32) (a4 : Int32) (m : M) : Sm G x 66 [(0, .ref (G.2.1 0)), (1, .int a1), (3, .int a3), (4, .int a4)] [] m (k_sheet_66 a1 a3 a4 m) KWi := by
  unfold k_sheet_66
  refine s_loop (fun z => [(0, .ref (G.2.1 0)), (1, .int a1), (3, .int a3), (4, .int z.1)]) (fun z => z.2) (fun K2 hb2 hr2 z => ?_) FU (a4, m)
  refine t_k_sheet_66b (K := K2) E hn a1 a3 z.1 z.2 hb2 (fun r => s_out (hr2 r) ?_)
  · refine s_iconst (v := (1 : Int32)) E dX11_sheet_88 (by decide) ?_
    exact s_iret E rfl dX11_sheet_89
def k_sheet (a1 : Int32) (a2 : Int32) (a3 : Int32) (m : M) : Option (Int32 × M) :=
  Option.bind (k_within a1 (0 : Int32) (3 : Int32) m) (fun v1 => (if v1 = 0 then some ((-1 : Int32), m) else Option.bind (k_within a2 (-1 : Int32) (4 : Int32) m) (fun v2 => (if v2 = 0 then some ((-1 : Int32), m) else (if a2 = (-1 : Int32) then Option.bind (wrI m 60 a1 (-1 : Int32)) (fun m5 => some ((1 : Int32), m5)) else (if a3 ≤ (40 : Int32) then (if 0 ≤ a3 then Option.bind (wrI m 60 a1 a2) (fun m3 => Option.bind (wrI m3 61 a1 a3) (fun m4 => k_sheet_66 a1 a3 (0 : Int32) m4)) else some ((-14 : Int32), m)) else some ((-1 : Int32), m)))))))
set_option maxRecDepth 20000 in
theorem t_k_sheet {G : GG} {x : Cx} (E : En G x cX11_sheet "WreckBoard" 2 (some .int)) (hn : xn x = 5) (a1 : Int32) (a2 : Int32) (a3 : Int32) (m : M) : Sm G x 0 [(0, .ref (G.2.1 0)), (1, .int a1), (2, .int a2), (3, .int a3)] [] m (k_sheet a1 a2 a3 m) KWi := by
  unfold k_sheet
  refine s_iload_n 1 E dX11_sheet_0 rfl rfl ?_
  refine s_iconst (v := (0 : Int32)) E dX11_sheet_1 (by decide) ?_
  refine s_iconst (v := (3 : Int32)) E dX11_sheet_2 (by decide) ?_
  refine s_bd (fun v1 hz => ?_)
  refine s_cS (rest := []) E (C_k_within (xl x) G a1 (0 : Int32) (3 : Int32) m hz) mdX11_within W404 W405 W91 W406 rfl rfl (Nat.le_of_ble_eq_true rfl) ⟨by decide, by decide⟩ dX11_sheet_3 ?_
  refine s_if_eq 18 E dX11_sheet_6 (by decide) ?_ ?_
  · refine s_iconst (v := (-1 : Int32)) E dX11_sheet_18 (by decide) ?_
    exact s_iret E rfl dX11_sheet_19
  · refine s_iload_n 2 E dX11_sheet_9 rfl rfl ?_
    refine s_iconst (v := (-1 : Int32)) E dX11_sheet_10 (by decide) ?_
    refine s_iconst (v := (4 : Int32)) E dX11_sheet_11 (by decide) ?_
    refine s_bd (fun v2 hz => ?_)
    refine s_cS (rest := []) E (C_k_within (xl x) G a2 (-1 : Int32) (4 : Int32) m hz) mdX11_within W404 W405 W91 W406 rfl rfl (Nat.le_of_ble_eq_true rfl) ⟨by decide, by decide⟩ dX11_sheet_12 ?_
    refine s_if_ne 20 E dX11_sheet_15 (by decide) ?_ ?_
    · refine s_iload_n 2 E dX11_sheet_20 rfl rfl ?_
      refine s_iconst (v := (-1 : Int32)) E dX11_sheet_21 (by decide) ?_
      refine s_icmp_ne 34 E dX11_sheet_22 (by decide) ?_ ?_
      · refine s_iload_n 3 E dX11_sheet_34 rfl rfl ?_
        refine s_bipush (v := (40 : Int32)) E dX11_sheet_35 (by decide) ?_
        refine s_icmp_le 42 E dX11_sheet_37 (by decide) ?_ ?_
        · refine s_iload_n 3 E dX11_sheet_42 rfl rfl ?_
          refine s_if_ge 49 E dX11_sheet_43 (by decide) ?_ ?_
          · refine s_aload_n 0 E dX11_sheet_49 rfl rfl ?_
            refine s_getr (k := 7) (T := TX11) 0 E rfl rfl rfl inX11 (by decide) W367 dX11_sheet_50 ?_
            refine s_iload_n 1 E dX11_sheet_53 rfl rfl ?_
            refine s_iload_n 2 E dX11_sheet_54 rfl rfl ?_
            refine s_iast E dX11_sheet_55 (fun m3 => ?_)
            refine s_aload_n 0 E dX11_sheet_56 rfl rfl ?_
            refine s_getr (k := 8) (T := TX11) 0 E rfl rfl rfl inX11 (by decide) W368 dX11_sheet_57 ?_
            refine s_iload_n 1 E dX11_sheet_60 rfl rfl ?_
            refine s_iload_n 3 E dX11_sheet_61 rfl rfl ?_
            refine s_iast E dX11_sheet_62 (fun m4 => ?_)
            refine s_iconst (v := (0 : Int32)) E dX11_sheet_63 (by decide) ?_
            refine s_istore (lv' := [(0, .ref (G.2.1 0)), (1, .int a1), (3, .int a3), (4, .int (0 : Int32))]) [1, 2, 4, 0] E dX11_sheet_64 (by rw [hn]; decide) rfl ?_
            exact t_k_sheet_66 E hn a1 a3 (0 : Int32) m4
          · refine s_bipush (v := (-14 : Int32)) E dX11_sheet_46 (by decide) ?_
            exact s_iret E rfl dX11_sheet_48
        · refine s_iconst (v := (-1 : Int32)) E dX11_sheet_40 (by decide) ?_
          exact s_iret E rfl dX11_sheet_41
      · refine s_aload_n 0 E dX11_sheet_25 rfl rfl ?_
        refine s_getr (k := 7) (T := TX11) 0 E rfl rfl rfl inX11 (by decide) W367 dX11_sheet_26 ?_
        refine s_iload_n 1 E dX11_sheet_29 rfl rfl ?_
        refine s_iconst (v := (-1 : Int32)) E dX11_sheet_30 (by decide) ?_
        refine s_iast E dX11_sheet_31 (fun m5 => ?_)
        refine s_iconst (v := (1 : Int32)) E dX11_sheet_32 (by decide) ?_
        exact s_iret E rfl dX11_sheet_33
    · refine s_iconst (v := (-1 : Int32)) E dX11_sheet_18 (by decide) ?_
      exact s_iret E rfl dX11_sheet_19
set_option maxRecDepth 20000 in
theorem C_k_sheet (l : Launch) (G : GG) (a1 : Int32) (a2 : Int32) (a3 : Int32) (m : M) {z : Int32 × M} (hz : k_sheet a1 a2 a3 m = some z) : Ct l G yX11_sheet cX11_sheet 5 (some .int) 2 [.ref (G.2.1 0), .int a1, .int a2, .int a3] m (some (.int z.1)) z.2 :=
  ct_of (K := KWi) (by decide) (Nat.le_of_ble_eq_true rfl) (congrArg (fun q => Option.bind q _) hz) (fun x hl hn E => (t_k_sheet E hn a1 a2 a3 m))
theorem dX11_isPlace_0 : decode cX11_isPlace 0 = .ok (.iload_n 2, 1) := by decide +kernel
theorem dX11_isPlace_1 : decode cX11_isPlace 1 = .ok (.iconst 0, 1) := by decide +kernel
theorem dX11_isPlace_2 : decode cX11_isPlace 2 = .ok (.aload_n 0, 1) := by decide +kernel
theorem dX11_isPlace_3 : decode cX11_isPlace 3 = .ok (.getfield 42, 3) := by decide +kernel
theorem dX11_isPlace_6 : decode cX11_isPlace 6 = .ok (.iload_n 1, 1) := by decide +kernel
theorem dX11_isPlace_7 : decode cX11_isPlace 7 = .ok (.iaload, 1) := by decide +kernel
theorem dX11_isPlace_8 : decode cX11_isPlace 8 = .ok (.iconst 1, 1) := by decide +kernel
theorem dX11_isPlace_9 : decode cX11_isPlace 9 = .ok (.isub, 1) := by decide +kernel
theorem dX11_isPlace_10 : decode cX11_isPlace 10 = .ok (.invokestatic 61, 3) := by decide +kernel
theorem dX11_isPlace_13 : decode cX11_isPlace 13 = .ok (.ireturn, 1) := by decide +kernel
def k_isPlace (a1 : Int32) (a2 : Int32) (m : M) : Option (Int32) :=
  Option.bind (rdI m 61 a1) (fun v1 => Option.bind (k_within a2 (0 : Int32) (v1 - (1 : Int32)) m) (fun v2 => some (v2 &&& 1)))
set_option maxRecDepth 20000 in
theorem t_k_isPlace {G : GG} {x : Cx} (E : En G x cX11_isPlace "WreckBoard" 2 (some .boolean)) (hn : xn x = 3) (a1 : Int32) (a2 : Int32) (m : M) : Sm G x 0 [(0, .ref (G.2.1 0)), (1, .int a1), (2, .int a2)] [] m (k_isPlace a1 a2 m) (KRi m) := by
  unfold k_isPlace
  refine s_iload_n 2 E dX11_isPlace_0 rfl rfl ?_
  refine s_iconst (v := (0 : Int32)) E dX11_isPlace_1 (by decide) ?_
  refine s_aload_n 0 E dX11_isPlace_2 rfl rfl ?_
  refine s_getr (k := 8) (T := TX11) 0 E rfl rfl rfl inX11 (by decide) W368 dX11_isPlace_3 ?_
  refine s_iload_n 1 E dX11_isPlace_6 rfl rfl ?_
  refine s_iald E dX11_isPlace_7 (fun v1 => ?_)
  refine s_iconst (v := (1 : Int32)) E dX11_isPlace_8 (by decide) ?_
  refine s_isub E dX11_isPlace_9 ?_
  refine s_bd (fun v2 hz => ?_)
  refine s_cS (rest := []) E (C_k_within (xl x) G a2 (0 : Int32) (v1 - (1 : Int32)) m hz) mdX11_within W404 W405 W91 W406 rfl rfl (Nat.le_of_ble_eq_true rfl) ⟨by decide, by decide⟩ dX11_isPlace_10 ?_
  exact s_zretN E rfl dX11_isPlace_13
set_option maxRecDepth 20000 in
theorem C_k_isPlace (l : Launch) (G : GG) (a1 : Int32) (a2 : Int32) (m : M) {z : Int32} (hz : k_isPlace a1 a2 m = some z) : Ct l G yX11_isPlace cX11_isPlace 3 (some .boolean) 2 [.ref (G.2.1 0), .int a1, .int a2] m (some (.int z)) m :=
  ct_of (K := (KRi m)) (by decide) (Nat.le_of_ble_eq_true rfl) (congrArg (fun q => Option.bind q _) hz) (fun x hl hn E => (t_k_isPlace E hn a1 a2 m))
theorem mdX11_isPlace : mdq yX11_isPlace 2 := ⟨by decide, by decide, by decide +kernel⟩
theorem dX11_narrowed_0 : decode cX11_narrowed 0 = .ok (.iload_n 1, 1) := by decide +kernel
theorem dX11_narrowed_1 : decode cX11_narrowed 1 = .ok (.tableswitch 51 0 4 #[35, 38, 51, 51, 41], 35) := by decide +kernel
theorem dX11_narrowed_36 : decode cX11_narrowed 36 = .ok (.iload_n 0, 1) := by decide +kernel
theorem dX11_narrowed_37 : decode cX11_narrowed 37 = .ok (.i2b, 1) := by decide +kernel
theorem dX11_narrowed_38 : decode cX11_narrowed 38 = .ok (.ireturn, 1) := by decide +kernel
theorem dX11_narrowed_39 : decode cX11_narrowed 39 = .ok (.iload_n 0, 1) := by decide +kernel
theorem dX11_narrowed_40 : decode cX11_narrowed 40 = .ok (.i2s, 1) := by decide +kernel
theorem dX11_narrowed_41 : decode cX11_narrowed 41 = .ok (.ireturn, 1) := by decide +kernel
theorem dX11_narrowed_42 : decode cX11_narrowed 42 = .ok (.iload_n 0, 1) := by decide +kernel
theorem dX11_narrowed_43 : decode cX11_narrowed 43 = .ok (.ifCond .eq 7, 3) := by decide +kernel
theorem dX11_narrowed_46 : decode cX11_narrowed 46 = .ok (.iconst 1, 1) := by decide +kernel
theorem dX11_narrowed_47 : decode cX11_narrowed 47 = .ok (.goto 4, 3) := by decide +kernel
theorem dX11_narrowed_50 : decode cX11_narrowed 50 = .ok (.iconst 0, 1) := by decide +kernel
theorem dX11_narrowed_51 : decode cX11_narrowed 51 = .ok (.ireturn, 1) := by decide +kernel
theorem dX11_narrowed_52 : decode cX11_narrowed 52 = .ok (.iload_n 0, 1) := by decide +kernel
theorem dX11_narrowed_53 : decode cX11_narrowed 53 = .ok (.ireturn, 1) := by decide +kernel
def k_narrowed (a0 : Int32) (a1 : Int32) (m : M) : Option (Int32) :=
  (if a1 = (0 : Int32) then some (Int8.toInt32 (Int32.toInt8 a0)) else (if a1 = (1 : Int32) then some (Int16.toInt32 (Int32.toInt16 a0)) else (if a1 = (2 : Int32) then some a0 else (if a1 = (3 : Int32) then some a0 else (if a1 = (4 : Int32) then (if a0 = 0 then some (0 : Int32) else some (1 : Int32)) else some a0)))))
set_option maxRecDepth 20000 in
theorem t_k_narrowed {G : GG} {x : Cx} (E : En G x cX11_narrowed "WreckBoard" 1 (some .int)) (hn : xn x = 2) (a0 : Int32) (a1 : Int32) (m : M) : Sm G x 0 [(0, .int a0), (1, .int a1)] [] m (k_narrowed a0 a1 m) (KRi m) := by
  unfold k_narrowed
  refine s_iload_n 1 E dX11_narrowed_0 rfl rfl ?_
  refine s_case (fun h1_0 => ?_) (fun h1_0 => ?_)
  · refine s_tabIn 36 E dX11_narrowed_1 h1_0 (by decide) (by decide) rfl (by decide) ?_
    refine s_iload_n 0 E dX11_narrowed_36 rfl rfl ?_
    refine s_i2b E dX11_narrowed_37 ?_
    exact s_iret E rfl dX11_narrowed_38
  · refine s_case (fun h1_1 => ?_) (fun h1_1 => ?_)
    · refine s_tabIn 39 E dX11_narrowed_1 h1_1 (by decide) (by decide) rfl (by decide) ?_
      refine s_iload_n 0 E dX11_narrowed_39 rfl rfl ?_
      refine s_i2s E dX11_narrowed_40 ?_
      exact s_iret E rfl dX11_narrowed_41
    · refine s_case (fun h1_2 => ?_) (fun h1_2 => ?_)
      · refine s_tabIn 52 E dX11_narrowed_1 h1_2 (by decide) (by decide) rfl (by decide) ?_
        refine s_iload_n 0 E dX11_narrowed_52 rfl rfl ?_
        exact s_iret E rfl dX11_narrowed_53
      · refine s_case (fun h1_3 => ?_) (fun h1_3 => ?_)
        · refine s_tabIn 52 E dX11_narrowed_1 h1_3 (by decide) (by decide) rfl (by decide) ?_
          refine s_iload_n 0 E dX11_narrowed_52 rfl rfl ?_
          exact s_iret E rfl dX11_narrowed_53
        · refine s_case (fun h1_4 => ?_) (fun h1_4 => ?_)
          · refine s_tabIn 42 E dX11_narrowed_1 h1_4 (by decide) (by decide) rfl (by decide) ?_
            refine s_iload_n 0 E dX11_narrowed_42 rfl rfl ?_
            refine s_if_eq 50 E dX11_narrowed_43 (by decide) ?_ ?_
            · refine s_iconst (v := (0 : Int32)) E dX11_narrowed_50 (by decide) ?_
              exact s_iret E rfl dX11_narrowed_51
            · refine s_iconst (v := (1 : Int32)) E dX11_narrowed_46 (by decide) ?_
              refine s_goto 51 E dX11_narrowed_47 (by decide) ?_
              exact s_iret E rfl dX11_narrowed_51
          · refine s_tabOut 52 E dX11_narrowed_1 (by have e0 := ne_toIntK h1_0 (k := 0) (by decide); have e1 := ne_toIntK h1_1 (k := 1) (by decide); have e2 := ne_toIntK h1_2 (k := 2) (by decide); have e3 := ne_toIntK h1_3 (k := 3) (by decide); have e4 := ne_toIntK h1_4 (k := 4) (by decide); omega) (by decide) ?_
            refine s_iload_n 0 E dX11_narrowed_52 rfl rfl ?_
            exact s_iret E rfl dX11_narrowed_53
set_option maxRecDepth 20000 in
theorem C_k_narrowed (l : Launch) (G : GG) (a0 : Int32) (a1 : Int32) (m : M) {z : Int32} (hz : k_narrowed a0 a1 m = some z) : Ct l G yX11_narrowed cX11_narrowed 2 (some .int) 1 [.int a0, .int a1] m (some (.int z)) m :=
  ct_of (K := (KRi m)) (by decide) (Nat.le_of_ble_eq_true rfl) (congrArg (fun q => Option.bind q _) hz) (fun x hl hn E => (t_k_narrowed E hn a0 a1 m))
theorem mdX11_narrowed : mdq yX11_narrowed 2 := ⟨by decide, by decide, by decide +kernel⟩
theorem dX11_write_0 : decode cX11_write 0 = .ok (.iload_n 1, 1) := by decide +kernel
theorem dX11_write_1 : decode cX11_write 1 = .ok (.iconst 0, 1) := by decide +kernel
theorem dX11_write_2 : decode cX11_write 2 = .ok (.iconst 3, 1) := by decide +kernel
theorem dX11_write_3 : decode cX11_write 3 = .ok (.invokestatic 61, 3) := by decide +kernel
theorem dX11_write_6 : decode cX11_write 6 = .ok (.ifCond .ne 5, 3) := by decide +kernel
theorem dX11_write_9 : decode cX11_write 9 = .ok (.iconst (-1), 1) := by decide +kernel
theorem dX11_write_10 : decode cX11_write 10 = .ok (.ireturn, 1) := by decide +kernel
theorem dX11_write_11 : decode cX11_write 11 = .ok (.aload_n 0, 1) := by decide +kernel
theorem dX11_write_12 : decode cX11_write 12 = .ok (.getfield 38, 3) := by decide +kernel
theorem dX11_write_15 : decode cX11_write 15 = .ok (.iload_n 1, 1) := by decide +kernel
theorem dX11_write_16 : decode cX11_write 16 = .ok (.iaload, 1) := by decide +kernel
theorem dX11_write_17 : decode cX11_write 17 = .ok (.iconst (-1), 1) := by decide +kernel
theorem dX11_write_18 : decode cX11_write 18 = .ok (.if_icmp .ne 6, 3) := by decide +kernel
theorem dX11_write_21 : decode cX11_write 21 = .ok (.bipush (-11), 2) := by decide +kernel
theorem dX11_write_23 : decode cX11_write 23 = .ok (.ireturn, 1) := by decide +kernel
theorem dX11_write_24 : decode cX11_write 24 = .ok (.aload_n 0, 1) := by decide +kernel
theorem dX11_write_25 : decode cX11_write 25 = .ok (.iload_n 1, 1) := by decide +kernel
theorem dX11_write_26 : decode cX11_write 26 = .ok (.iload_n 2, 1) := by decide +kernel
theorem dX11_write_27 : decode cX11_write 27 = .ok (.invokevirtual 323, 3) := by decide +kernel
theorem dX11_write_30 : decode cX11_write 30 = .ok (.ifCond .ne 6, 3) := by decide +kernel
theorem dX11_write_33 : decode cX11_write 33 = .ok (.bipush (-12), 2) := by decide +kernel
theorem dX11_write_35 : decode cX11_write 35 = .ok (.ireturn, 1) := by decide +kernel
theorem dX11_write_36 : decode cX11_write 36 = .ok (.aload_n 0, 1) := by decide +kernel
theorem dX11_write_37 : decode cX11_write 37 = .ok (.getfield 45, 3) := by decide +kernel
theorem dX11_write_40 : decode cX11_write 40 = .ok (.iload_n 1, 1) := by decide +kernel
theorem dX11_write_41 : decode cX11_write 41 = .ok (.aaload, 1) := by decide +kernel
theorem dX11_write_42 : decode cX11_write 42 = .ok (.iload_n 2, 1) := by decide +kernel
theorem dX11_write_43 : decode cX11_write 43 = .ok (.iload_n 3, 1) := by decide +kernel
theorem dX11_write_44 : decode cX11_write 44 = .ok (.aload_n 0, 1) := by decide +kernel
theorem dX11_write_45 : decode cX11_write 45 = .ok (.getfield 38, 3) := by decide +kernel
theorem dX11_write_48 : decode cX11_write 48 = .ok (.iload_n 1, 1) := by decide +kernel
theorem dX11_write_49 : decode cX11_write 49 = .ok (.iaload, 1) := by decide +kernel
theorem dX11_write_50 : decode cX11_write 50 = .ok (.invokestatic 326, 3) := by decide +kernel
theorem dX11_write_53 : decode cX11_write 53 = .ok (.iastore, 1) := by decide +kernel
theorem dX11_write_54 : decode cX11_write 54 = .ok (.iconst 1, 1) := by decide +kernel
theorem dX11_write_55 : decode cX11_write 55 = .ok (.ireturn, 1) := by decide +kernel
def k_write (a1 : Int32) (a2 : Int32) (a3 : Int32) (m : M) : Option (Int32 × M) :=
  Option.bind (k_within a1 (0 : Int32) (3 : Int32) m) (fun v1 => (if v1 = 0 then some ((-1 : Int32), m) else Option.bind (rdI m 60 a1) (fun v2 => (if v2 = (-1 : Int32) then some ((-11 : Int32), m) else Option.bind (k_isPlace a1 a2 m) (fun v3 => (if v3 = 0 then some ((-12 : Int32), m) else Option.bind (rdR 55 a1) (fun p4 => Option.bind (rdI m 60 a1) (fun v5 => Option.bind (k_narrowed a3 v5 m) (fun v6 => Option.bind (wrI m p4 a2 v6) (fun m7 => some ((1 : Int32), m7)))))))))))
set_option maxRecDepth 20000 in
theorem t_k_write {G : GG} {x : Cx} (E : En G x cX11_write "WreckBoard" 3 (some .int)) (hn : xn x = 4) (a1 : Int32) (a2 : Int32) (a3 : Int32) (m : M) : Sm G x 0 [(0, .ref (G.2.1 0)), (1, .int a1), (2, .int a2), (3, .int a3)] [] m (k_write a1 a2 a3 m) KWi := by
  unfold k_write
  refine s_iload_n 1 E dX11_write_0 rfl rfl ?_
  refine s_iconst (v := (0 : Int32)) E dX11_write_1 (by decide) ?_
  refine s_iconst (v := (3 : Int32)) E dX11_write_2 (by decide) ?_
  refine s_bd (fun v1 hz => ?_)
  refine s_cS (rest := []) E (C_k_within (xl x) G a1 (0 : Int32) (3 : Int32) m hz) mdX11_within W404 W405 W91 W406 rfl rfl (Nat.le_of_ble_eq_true rfl) ⟨by decide, by decide⟩ dX11_write_3 ?_
  refine s_if_ne 11 E dX11_write_6 (by decide) ?_ ?_
  · refine s_aload_n 0 E dX11_write_11 rfl rfl ?_
    refine s_getr (k := 7) (T := TX11) 0 E rfl rfl rfl inX11 (by decide) W367 dX11_write_12 ?_
    refine s_iload_n 1 E dX11_write_15 rfl rfl ?_
    refine s_iald E dX11_write_16 (fun v2 => ?_)
    refine s_iconst (v := (-1 : Int32)) E dX11_write_17 (by decide) ?_
    refine s_icmp_ne 24 E dX11_write_18 (by decide) ?_ ?_
    · refine s_aload_n 0 E dX11_write_24 rfl rfl ?_
      refine s_iload_n 1 E dX11_write_25 rfl rfl ?_
      refine s_iload_n 2 E dX11_write_26 rfl rfl ?_
      refine s_bd (fun v3 hz => ?_)
      refine s_cV (rest := []) E (C_k_isPlace (xl x) G a1 a2 m hz) mdX11_isPlace W1072 W1074 W24 W91 W1075 rfl rfl rfl rfl (Nat.le_of_ble_eq_true rfl) ⟨by decide, by decide⟩ dX11_write_27 ?_
      refine s_if_ne 36 E dX11_write_30 (by decide) ?_ ?_
      · refine s_aload_n 0 E dX11_write_36 rfl rfl ?_
        refine s_getr (k := 9) (T := TX11) 0 E rfl rfl rfl inX11 (by decide) W369 dX11_write_37 ?_
        refine s_iload_n 1 E dX11_write_40 rfl rfl ?_
        refine s_aald E dX11_write_41 (fun p4 => ?_)
        refine s_iload_n 2 E dX11_write_42 rfl rfl ?_
        refine s_iload_n 3 E dX11_write_43 rfl rfl ?_
        refine s_aload_n 0 E dX11_write_44 rfl rfl ?_
        refine s_getr (k := 7) (T := TX11) 0 E rfl rfl rfl inX11 (by decide) W367 dX11_write_45 ?_
        refine s_iload_n 1 E dX11_write_48 rfl rfl ?_
        refine s_iald E dX11_write_49 (fun v5 => ?_)
        refine s_bd (fun v6 hz => ?_)
        refine s_cS (rest := [.int a2, .ref (G.2.1 p4)]) E (C_k_narrowed (xl x) G a3 v5 m hz) mdX11_narrowed W1076 W1077 W91 W1078 rfl rfl (Nat.le_of_ble_eq_true rfl) ⟨by decide, by decide⟩ dX11_write_50 ?_
        refine s_iast E dX11_write_53 (fun m7 => ?_)
        refine s_iconst (v := (1 : Int32)) E dX11_write_54 (by decide) ?_
        exact s_iret E rfl dX11_write_55
      · refine s_bipush (v := (-12 : Int32)) E dX11_write_33 (by decide) ?_
        exact s_iret E rfl dX11_write_35
    · refine s_bipush (v := (-11 : Int32)) E dX11_write_21 (by decide) ?_
      exact s_iret E rfl dX11_write_23
  · refine s_iconst (v := (-1 : Int32)) E dX11_write_9 (by decide) ?_
    exact s_iret E rfl dX11_write_10
