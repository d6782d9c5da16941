set_option maxRecDepth 20000 in
theorem C_m0_bows_66_9 (l : Launch) (G : GG) (a2 : Int32) (m : M) {z : Int32 × M} (hz : m0_bows_66_9 a2 m = some z) : Ct l G yX5_bows cX5_bows 3 (some .int) 5 [.ref (G.2.1 66), .ref (G.2.1 9), .int a2] m (some (.int z.1)) z.2 :=
  ct_of (K := KWi) (by decide) (Nat.le_of_ble_eq_true rfl) (congrArg (fun q => Option.bind q _) hz) (fun x hl hn E => (t_m0_bows_66_9 E hn a2 m))
def m0_bows_67_9 (a2 : Int32) (m : M) : Option (Int32 × M) :=
  Option.bind (d_begins (13 : Int32) m) (fun m1 => Option.bind (m2_seconds_67_9 a2 m1) (fun z2 => Option.bind (m0_counts_67_9 a2 z2.2) (fun z3 => some ((z2.1 - z3.1), z3.2))))
set_option maxRecDepth 20000 in
theorem t_m0_bows_67_9 {G : GG} {x : Cx} (E : En G x cX5_bows "WreckBoard$Member" 6 (some .int)) (hn : xn x = 3) (a2 : Int32) (m : M) : Sm G x 0 [(0, .ref (G.2.1 67)), (1, .ref (G.2.1 9)), (2, .int a2)] [] m (m0_bows_67_9 a2 m) KWi := by
  unfold m0_bows_67_9
  refine s_aload_n 1 E dX5_bows_0 rfl rfl ?_
  refine s_bipush (v := (13 : Int32)) E dX5_bows_1 (by decide) ?_
  refine s_bd (fun m1 hz => ?_)
  refine s_cV (rest := []) E (C_d_begins (xl x) G (13 : Int32) m hz) mdX2_begins W1143 W1128 W1129 W102 W1130 rfl rfl rfl rfl (Nat.le_of_ble_eq_true rfl) ⟨by decide, by decide⟩ dX5_bows_3 ?_
  refine s_aload_n 0 E dX5_bows_6 rfl rfl ?_
  refine s_aload_n 1 E dX5_bows_7 rfl rfl ?_
  refine s_iload_n 2 E dX5_bows_8 rfl rfl ?_
  refine s_bd (fun z2 hz => ?_)
  refine s_cU (n := 2) (rest := []) (z := ⟨"WreckBoard$Member", "seconds", "(LWreckBoard$Deed;I)I"⟩) (owner := "WreckBoard$Member") E (C_m2_seconds_67_9 (xl x) G a2 m1 hz) ⟨by decide, by decide, by decide +kernel⟩ W1204 W1147 W1145 W1163 W1148 W1149 W97 W1150 rfl rfl rfl rfl (Nat.le_of_ble_eq_true rfl) ⟨by decide, by decide⟩ dX5_bows_9 ?_
  refine s_aload_n 0 E dX5_bows_12 rfl rfl ?_
  refine s_aload_n 1 E dX5_bows_13 rfl rfl ?_
  refine s_iload_n 2 E dX5_bows_14 rfl rfl ?_
  refine s_bd (fun z3 hz => ?_)
  refine s_cU (n := 2) (rest := [.int z2.1]) (z := ⟨"WreckBoard$Member", "counts", "(LWreckBoard$Deed;I)I"⟩) (owner := "WreckBoard$Member") E (C_m0_counts_67_9 (xl x) G a2 z2.2 hz) ⟨by decide, by decide, by decide +kernel⟩ W1205 W1168 W1166 W1184 W1169 W1166 W95 W1184 rfl rfl rfl rfl (Nat.le_of_ble_eq_true rfl) ⟨by decide, by decide⟩ dX5_bows_15 ?_
  refine s_isub E dX5_bows_18 ?_
  exact s_iret E rfl dX5_bows_19
set_option maxRecDepth 20000 in
theorem C_m0_bows_67_9 (l : Launch) (G : GG) (a2 : Int32) (m : M) {z : Int32 × M} (hz : m0_bows_67_9 a2 m = some z) : Ct l G yX5_bows cX5_bows 3 (some .int) 6 [.ref (G.2.1 67), .ref (G.2.1 9), .int a2] m (some (.int z.1)) z.2 :=
  ct_of (K := KWi) (by decide) (Nat.le_of_ble_eq_true rfl) (congrArg (fun q => Option.bind q _) hz) (fun x hl hn E => (t_m0_bows_67_9 E hn a2 m))
theorem mdX5_bows : mdq yX5_bows 2 := ⟨by decide, by decide, by decide +kernel⟩
theorem dX1_bows_0 : decode cX1_bows 0 = .ok (.aload_n 1, 1) := by decide +kernel
theorem dX1_bows_1 : decode cX1_bows 1 = .ok (.bipush 51, 2) := by decide +kernel
theorem dX1_bows_3 : decode cX1_bows 3 = .ok (.invokevirtual 15, 3) := by decide +kernel
theorem dX1_bows_6 : decode cX1_bows 6 = .ok (.aload_n 0, 1) := by decide +kernel
theorem dX1_bows_7 : decode cX1_bows 7 = .ok (.aload_n 1, 1) := by decide +kernel
theorem dX1_bows_8 : decode cX1_bows 8 = .ok (.iload_n 2, 1) := by decide +kernel
theorem dX1_bows_9 : decode cX1_bows 9 = .ok (.invokespecial 25, 3) := by decide +kernel
theorem dX1_bows_12 : decode cX1_bows 12 = .ok (.aload_n 0, 1) := by decide +kernel
theorem dX1_bows_13 : decode cX1_bows 13 = .ok (.aload_n 1, 1) := by decide +kernel
theorem dX1_bows_14 : decode cX1_bows 14 = .ok (.aload_n 1, 1) := by decide +kernel
theorem dX1_bows_15 : decode cX1_bows 15 = .ok (.getfield 28, 3) := by decide +kernel
theorem dX1_bows_18 : decode cX1_bows 18 = .ok (.invokevirtual 32, 3) := by decide +kernel
theorem dX1_bows_21 : decode cX1_bows 21 = .ok (.iadd, 1) := by decide +kernel
theorem dX1_bows_22 : decode cX1_bows 22 = .ok (.ireturn, 1) := by decide +kernel
def m3_bows (a2 : Int32) (m : M) : Option (Int32 × M) :=
  Option.bind (d_begins (51 : Int32) m) (fun m1 => Option.bind (m0_bows_67_9 a2 m1) (fun z2 => Option.bind (m2_seconds_67_9 (z2.2 9 1) z2.2) (fun z3 => some ((z2.1 + z3.1), z3.2))))
set_option maxRecDepth 20000 in
theorem t_m3_bows {G : GG} {x : Cx} (E : En G x cX1_bows "WreckBoard$Chair" 7 (some .int)) (hn : xn x = 3) (a2 : Int32) (m : M) : Sm G x 0 [(0, .ref (G.2.1 67)), (1, .ref (G.2.1 9)), (2, .int a2)] [] m (m3_bows a2 m) KWi := by
  unfold m3_bows
  refine s_aload_n 1 E dX1_bows_0 rfl rfl ?_
  refine s_bipush (v := (51 : Int32)) E dX1_bows_1 (by decide) ?_
  refine s_bd (fun m1 hz => ?_)
  refine s_cV (rest := []) E (C_d_begins (xl x) G (51 : Int32) m hz) mdX2_begins W1127 W1128 W1129 W102 W1130 rfl rfl rfl rfl (Nat.le_of_ble_eq_true rfl) ⟨by decide, by decide⟩ dX1_bows_3 ?_
  refine s_aload_n 0 E dX1_bows_6 rfl rfl ?_
  refine s_aload_n 1 E dX1_bows_7 rfl rfl ?_
  refine s_iload_n 2 E dX1_bows_8 rfl rfl ?_
  refine s_bd (fun z2 hz => ?_)
  refine s_cSU2 (n := 2) (rest := []) (z := ⟨"WreckBoard$Saver", "bows", "(LWreckBoard$Deed;I)I"⟩) (owner := "WreckBoard$Member") E (C_m0_bows_67_9 (xl x) G a2 m1 hz) rfl ⟨by decide, by decide +kernel⟩ W1192 W1193 W207 W200 W1186 W95 W1203 rfl rfl rfl rfl (Nat.le_of_ble_eq_true rfl) ⟨by decide, by decide⟩ dX1_bows_9 ?_
  refine s_aload_n 0 E dX1_bows_12 rfl rfl ?_
  refine s_aload_n 1 E dX1_bows_13 rfl rfl ?_
  refine s_aload_n 1 E dX1_bows_14 rfl rfl ?_
  refine s_geti (k := 1) (T := TX2) 9 E rfl rfl rfl inX2 (by decide) W340 dX1_bows_15 ?_
  refine s_bd (fun z3 hz => ?_)
  refine s_cU (n := 2) (rest := [.int z2.1]) (z := ⟨"WreckBoard$Chair", "seconds", "(LWreckBoard$Deed;I)I"⟩) (owner := "WreckBoard$Saver") E (C_m2_seconds_67_9 (xl x) G (z2.2 9 1) z2.2 hz) ⟨by decide, by decide, by decide +kernel⟩ W1195 W1196 W1149 W1150 W1198 W1149 W97 W1150 rfl rfl rfl rfl (Nat.le_of_ble_eq_true rfl) ⟨by decide, by decide⟩ dX1_bows_18 ?_
  refine s_iadd E dX1_bows_21 ?_
  exact s_iret E rfl dX1_bows_22
set_option maxRecDepth 20000 in
theorem C_m3_bows (l : Launch) (G : GG) (a2 : Int32) (m : M) {z : Int32 × M} (hz : m3_bows a2 m = some z) : Ct l G yX1_bows cX1_bows 3 (some .int) 7 [.ref (G.2.1 67), .ref (G.2.1 9), .int a2] m (some (.int z.1)) z.2 :=
  ct_of (K := KWi) (by decide) (Nat.le_of_ble_eq_true rfl) (congrArg (fun q => Option.bind q _) hz) (fun x hl hn E => (t_m3_bows E hn a2 m))
def m0_bows_68_9 (a2 : Int32) (m : M) : Option (Int32 × M) :=
  Option.bind (d_begins (13 : Int32) m) (fun m1 => Option.bind (m0_seconds_68_9 a2 m1) (fun z2 => Option.bind (m4_counts a2 z2.2) (fun z3 => some ((z2.1 - z3.1), z3.2))))
set_option maxRecDepth 20000 in
theorem t_m0_bows_68_9 {G : GG} {x : Cx} (E : En G x cX5_bows "WreckBoard$Member" 4 (some .int)) (hn : xn x = 3) (a2 : Int32) (m : M) : Sm G x 0 [(0, .ref (G.2.1 68)), (1, .ref (G.2.1 9)), (2, .int a2)] [] m (m0_bows_68_9 a2 m) KWi := by
  unfold m0_bows_68_9
  refine s_aload_n 1 E dX5_bows_0 rfl rfl ?_
  refine s_bipush (v := (13 : Int32)) E dX5_bows_1 (by decide) ?_
  refine s_bd (fun m1 hz => ?_)
  refine s_cV (rest := []) E (C_d_begins (xl x) G (13 : Int32) m hz) mdX2_begins W1143 W1128 W1129 W102 W1130 rfl rfl rfl rfl (Nat.le_of_ble_eq_true rfl) ⟨by decide, by decide⟩ dX5_bows_3 ?_
  refine s_aload_n 0 E dX5_bows_6 rfl rfl ?_
  refine s_aload_n 1 E dX5_bows_7 rfl rfl ?_
  refine s_iload_n 2 E dX5_bows_8 rfl rfl ?_
  refine s_bd (fun z2 hz => ?_)
  refine s_cU (n := 2) (rest := []) (z := ⟨"WreckBoard$Member", "seconds", "(LWreckBoard$Deed;I)I"⟩) (owner := "WreckBoard$Member") E (C_m0_seconds_68_9 (xl x) G a2 m1 hz) ⟨by decide, by decide, by decide +kernel⟩ W1204 W1147 W1145 W1163 W1153 W1145 W95 W1163 rfl rfl rfl rfl (Nat.le_of_ble_eq_true rfl) ⟨by decide, by decide⟩ dX5_bows_9 ?_
  refine s_aload_n 0 E dX5_bows_12 rfl rfl ?_
  refine s_aload_n 1 E dX5_bows_13 rfl rfl ?_
  refine s_iload_n 2 E dX5_bows_14 rfl rfl ?_
  refine s_bd (fun z3 hz => ?_)
  refine s_cU (n := 2) (rest := [.int z2.1]) (z := ⟨"WreckBoard$Member", "counts", "(LWreckBoard$Deed;I)I"⟩) (owner := "WreckBoard$Member") E (C_m4_counts (xl x) G a2 z2.2 hz) ⟨by decide, by decide, by decide +kernel⟩ W1205 W1168 W1166 W1184 W1170 W1171 W99 W1172 rfl rfl rfl rfl (Nat.le_of_ble_eq_true rfl) ⟨by decide, by decide⟩ dX5_bows_15 ?_
  refine s_isub E dX5_bows_18 ?_
  exact s_iret E rfl dX5_bows_19
set_option maxRecDepth 20000 in
theorem C_m0_bows_68_9 (l : Launch) (G : GG) (a2 : Int32) (m : M) {z : Int32 × M} (hz : m0_bows_68_9 a2 m = some z) : Ct l G yX5_bows cX5_bows 3 (some .int) 4 [.ref (G.2.1 68), .ref (G.2.1 9), .int a2] m (some (.int z.1)) z.2 :=
  ct_of (K := KWi) (by decide) (Nat.le_of_ble_eq_true rfl) (congrArg (fun q => Option.bind q _) hz) (fun x hl hn E => (t_m0_bows_68_9 E hn a2 m))
theorem mdX4_seconds : mdq yX4_seconds 2 := ⟨by decide, by decide, by decide +kernel⟩
theorem mdX4_counts : mdq yX4_counts 2 := ⟨by decide, by decide, by decide +kernel⟩
def m0_bows_69_9 (a2 : Int32) (m : M) : Option (Int32 × M) :=
  Option.bind (d_begins (13 : Int32) m) (fun m1 => Option.bind (m5_seconds a2 m1) (fun z2 => Option.bind (m5_counts a2 z2.2) (fun z3 => some ((z2.1 - z3.1), z3.2))))
set_option maxRecDepth 20000 in
theorem t_m0_bows_69_9 {G : GG} {x : Cx} (E : En G x cX5_bows "WreckBoard$Member" 5 (some .int)) (hn : xn x = 3) (a2 : Int32) (m : M) : Sm G x 0 [(0, .ref (G.2.1 69)), (1, .ref (G.2.1 9)), (2, .int a2)] [] m (m0_bows_69_9 a2 m) KWi := by
  unfold m0_bows_69_9
  refine s_aload_n 1 E dX5_bows_0 rfl rfl ?_
  refine s_bipush (v := (13 : Int32)) E dX5_bows_1 (by decide) ?_
  refine s_bd (fun m1 hz => ?_)
  refine s_cV (rest := []) E (C_d_begins (xl x) G (13 : Int32) m hz) mdX2_begins W1143 W1128 W1129 W102 W1130 rfl rfl rfl rfl (Nat.le_of_ble_eq_true rfl) ⟨by decide, by decide⟩ dX5_bows_3 ?_
  refine s_aload_n 0 E dX5_bows_6 rfl rfl ?_
  refine s_aload_n 1 E dX5_bows_7 rfl rfl ?_
  refine s_iload_n 2 E dX5_bows_8 rfl rfl ?_
  refine s_bd (fun z2 hz => ?_)
  refine s_cU (n := 2) (rest := []) (z := ⟨"WreckBoard$Member", "seconds", "(LWreckBoard$Deed;I)I"⟩) (owner := "WreckBoard$Member") E (C_m5_seconds (xl x) G a2 m1 hz) ⟨by decide, by decide, by decide +kernel⟩ W1204 W1147 W1145 W1163 W1154 W1155 W100 W1156 rfl rfl rfl rfl (Nat.le_of_ble_eq_true rfl) ⟨by decide, by decide⟩ dX5_bows_9 ?_
  refine s_aload_n 0 E dX5_bows_12 rfl rfl ?_
  refine s_aload_n 1 E dX5_bows_13 rfl rfl ?_
  refine s_iload_n 2 E dX5_bows_14 rfl rfl ?_
  refine s_bd (fun z3 hz => ?_)
  refine s_cU (n := 2) (rest := [.int z2.1]) (z := ⟨"WreckBoard$Member", "counts", "(LWreckBoard$Deed;I)I"⟩) (owner := "WreckBoard$Member") E (C_m5_counts (xl x) G a2 z2.2 hz) ⟨by decide, by decide, by decide +kernel⟩ W1205 W1168 W1166 W1184 W1175 W1176 W100 W1177 rfl rfl rfl rfl (Nat.le_of_ble_eq_true rfl) ⟨by decide, by decide⟩ dX5_bows_15 ?_
  refine s_isub E dX5_bows_18 ?_
  exact s_iret E rfl dX5_bows_19
set_option maxRecDepth 20000 in
theorem C_m0_bows_69_9 (l : Launch) (G : GG) (a2 : Int32) (m : M) {z : Int32 × M} (hz : m0_bows_69_9 a2 m = some z) : Ct l G yX5_bows cX5_bows 3 (some .int) 5 [.ref (G.2.1 69), .ref (G.2.1 9), .int a2] m (some (.int z.1)) z.2 :=
  ct_of (K := KWi) (by decide) (Nat.le_of_ble_eq_true rfl) (congrArg (fun q => Option.bind q _) hz) (fun x hl hn E => (t_m0_bows_69_9 E hn a2 m))
def vd_bows (p : Nat) (a2 : Int32) (m : M) : Option (Int32 × M) :=
  if p = 64 then m0_bows a2 m else if p = 65 then m0_bows_65_9 a2 m else if p = 66 then m0_bows_66_9 a2 m else if p = 67 then m3_bows a2 m else if p = 68 then m0_bows_68_9 a2 m else if p = 69 then m0_bows_69_9 a2 m else none
theorem D_vd_bows {α : Type} {G : GG} {x : Cx} {cc : ByteArray} {own : String} {lev : Nat} {ret : Option FieldType} {pc : Nat} {lv : List (Nat × Value)} {m : M} {o : Option α} {K : α → Option (Option Value × M)} {index : Nat} (rest : List Value) (E : En G x cc own lev ret) (p : Nat) (a2 : Int32) {z : Int32 × M} (hz : vd_bows p a2 m = some z) (hl : Cond.methodLink own index ({ cls := "WreckBoard$Member", name := "bows", desc := "(LWreckBoard$Deed;I)I" } : MethodName) ∈ gw) (hroom : (rest.map fun v => v.category).sum ≤ 8) (hlev : 7 + 1 ≤ lev) (d : decode cc pc = .ok (.invokevirtual index, 3)) (k : Sm G x (pc + 3) lv ((.int z.1) :: rest) z.2 o K) : Sm G x pc lv (.int a2 :: .ref (G.2.1 9) :: .ref (G.2.1 p) :: rest) m o K := by
  unfold vd_bows at hz
  by_cases h : p = 64
  · rw [if_pos h] at hz
    subst h
    exact s_cU (n := 2) (rest := rest) (z := ⟨"WreckBoard$Member", "bows", "(LWreckBoard$Deed;I)I"⟩) (owner := "WreckBoard$Member") E (C_m0_bows (xl x) G a2 m hz) ⟨by decide, by decide, by decide +kernel⟩ hl W1188 W1186 W1203 W1187 W1186 W95 W1203 rfl rfl rfl rfl hroom ⟨by omega, by omega⟩ d k
  rw [if_neg h] at hz
  clear h
  by_cases h : p = 65
  · rw [if_pos h] at hz
    subst h
    exact s_cU (n := 2) (rest := rest) (z := ⟨"WreckBoard$Member", "bows", "(LWreckBoard$Deed;I)I"⟩) (owner := "WreckBoard$Member") E (C_m0_bows_65_9 (xl x) G a2 m hz) ⟨by decide, by decide, by decide +kernel⟩ hl W1188 W1186 W1203 W1202 W1186 W95 W1203 rfl rfl rfl rfl hroom ⟨by omega, by omega⟩ d k
  rw [if_neg h] at hz
  clear h
  by_cases h : p = 66
  · rw [if_pos h] at hz
    subst h
    exact s_cU (n := 2) (rest := rest) (z := ⟨"WreckBoard$Member", "bows", "(LWreckBoard$Deed;I)I"⟩) (owner := "WreckBoard$Member") E (C_m0_bows_66_9 (xl x) G a2 m hz) ⟨by decide, by decide, by decide +kernel⟩ hl W1188 W1186 W1203 W1201 W1186 W95 W1203 rfl rfl rfl rfl hroom ⟨by omega, by omega⟩ d k
  rw [if_neg h] at hz
  clear h
  by_cases h : p = 67
  · rw [if_pos h] at hz
    subst h
    exact s_cU (n := 2) (rest := rest) (z := ⟨"WreckBoard$Member", "bows", "(LWreckBoard$Deed;I)I"⟩) (owner := "WreckBoard$Member") E (C_m3_bows (xl x) G a2 m hz) ⟨by decide, by decide, by decide +kernel⟩ hl W1188 W1186 W1203 W1189 W1190 W98 W1191 rfl rfl rfl rfl hroom ⟨by omega, by omega⟩ d k
  rw [if_neg h] at hz
  clear h
  by_cases h : p = 68
  · rw [if_pos h] at hz
    subst h
    exact s_cU (n := 2) (rest := rest) (z := ⟨"WreckBoard$Member", "bows", "(LWreckBoard$Deed;I)I"⟩) (owner := "WreckBoard$Member") E (C_m0_bows_68_9 (xl x) G a2 m hz) ⟨by decide, by decide, by decide +kernel⟩ hl W1188 W1186 W1203 W1199 W1186 W95 W1203 rfl rfl rfl rfl hroom ⟨by omega, by omega⟩ d k
  rw [if_neg h] at hz
  clear h
  by_cases h : p = 69
  · rw [if_pos h] at hz
    subst h
    exact s_cU (n := 2) (rest := rest) (z := ⟨"WreckBoard$Member", "bows", "(LWreckBoard$Deed;I)I"⟩) (owner := "WreckBoard$Member") E (C_m0_bows_69_9 (xl x) G a2 m hz) ⟨by decide, by decide, by decide +kernel⟩ hl W1188 W1186 W1203 W1200 W1186 W95 W1203 rfl rfl rfl rfl hroom ⟨by omega, by omega⟩ d k
  rw [if_neg h] at hz
  clear h
  cases hz
theorem dX11_act_0 : decode cX11_act 0 = .ok (.aload_n 0, 1) := by decide +kernel
theorem dX11_act_1 : decode cX11_act 1 = .ok (.getfield 57, 3) := by decide +kernel
theorem dX11_act_4 : decode cX11_act 4 = .ok (.invokevirtual 342, 3) := by decide +kernel
theorem dX11_act_7 : decode cX11_act 7 = .ok (.iload_n 1, 1) := by decide +kernel
theorem dX11_act_8 : decode cX11_act 8 = .ok (.iconst 0, 1) := by decide +kernel
theorem dX11_act_9 : decode cX11_act 9 = .ok (.iconst 3, 1) := by decide +kernel
theorem dX11_act_10 : decode cX11_act 10 = .ok (.invokestatic 61, 3) := by decide +kernel
theorem dX11_act_13 : decode cX11_act 13 = .ok (.ifCond .eq 29, 3) := by decide +kernel
theorem dX11_act_16 : decode cX11_act 16 = .ok (.aload_n 0, 1) := by decide +kernel
theorem dX11_act_17 : decode cX11_act 17 = .ok (.getfield 48, 3) := by decide +kernel
theorem dX11_act_20 : decode cX11_act 20 = .ok (.iload_n 1, 1) := by decide +kernel
theorem dX11_act_21 : decode cX11_act 21 = .ok (.iaload, 1) := by decide +kernel
theorem dX11_act_22 : decode cX11_act 22 = .ok (.iconst 5, 1) := by decide +kernel
theorem dX11_act_23 : decode cX11_act 23 = .ok (.if_icmp .ne 19, 3) := by decide +kernel
theorem dX11_act_26 : decode cX11_act 26 = .ok (.aload_n 0, 1) := by decide +kernel
theorem dX11_act_27 : decode cX11_act 27 = .ok (.getfield 12, 3) := by decide +kernel
theorem dX11_act_30 : decode cX11_act 30 = .ok (.aload_n 0, 1) := by decide +kernel
theorem dX11_act_31 : decode cX11_act 31 = .ok (.getfield 51, 3) := by decide +kernel
theorem dX11_act_34 : decode cX11_act 34 = .ok (.iload_n 1, 1) := by decide +kernel
theorem dX11_act_35 : decode cX11_act 35 = .ok (.iaload, 1) := by decide +kernel
theorem dX11_act_36 : decode cX11_act 36 = .ok (.invokevirtual 73, 3) := by decide +kernel
theorem dX11_act_39 : decode cX11_act 39 = .ok (.ifCond .ne 5, 3) := by decide +kernel
theorem dX11_act_42 : decode cX11_act 42 = .ok (.iconst 0, 1) := by decide +kernel
theorem dX11_act_43 : decode cX11_act 43 = .ok (.ireturn, 1) := by decide +kernel
theorem dX11_act_44 : decode cX11_act 44 = .ok (.aload_n 0, 1) := by decide +kernel
theorem dX11_act_45 : decode cX11_act 45 = .ok (.getfield 51, 3) := by decide +kernel
theorem dX11_act_48 : decode cX11_act 48 = .ok (.iload_n 1, 1) := by decide +kernel
theorem dX11_act_49 : decode cX11_act 49 = .ok (.iaload, 1) := by decide +kernel
theorem dX11_act_50 : decode cX11_act 50 = .ok (.istore 4, 2) := by decide +kernel
theorem dX11_act_52 : decode cX11_act 52 = .ok (.aload_n 0, 1) := by decide +kernel
theorem dX11_act_53 : decode cX11_act 53 = .ok (.getfield 57, 3) := by decide +kernel
theorem dX11_act_56 : decode cX11_act 56 = .ok (.iload 4, 2) := by decide +kernel
theorem dX11_act_58 : decode cX11_act 58 = .ok (.putfield 345, 3) := by decide +kernel
theorem dX11_act_61 : decode cX11_act 61 = .ok (.aload_n 0, 1) := by decide +kernel
theorem dX11_act_62 : decode cX11_act 62 = .ok (.getfield 57, 3) := by decide +kernel
theorem dX11_act_65 : decode cX11_act 65 = .ok (.aload_n 0, 1) := by decide +kernel
theorem dX11_act_66 : decode cX11_act 66 = .ok (.getfield 12, 3) := by decide +kernel
theorem dX11_act_69 : decode cX11_act 69 = .ok (.getfield 86, 3) := by decide +kernel
theorem dX11_act_72 : decode cX11_act 72 = .ok (.iload 4, 2) := by decide +kernel
theorem dX11_act_74 : decode cX11_act 74 = .ok (.iaload, 1) := by decide +kernel
theorem dX11_act_75 : decode cX11_act 75 = .ok (.putfield 348, 3) := by decide +kernel
theorem dX11_act_78 : decode cX11_act 78 = .ok (.aload_n 0, 1) := by decide +kernel
theorem dX11_act_79 : decode cX11_act 79 = .ok (.getfield 12, 3) := by decide +kernel
theorem dX11_act_82 : decode cX11_act 82 = .ok (.getfield 297, 3) := by decide +kernel
theorem dX11_act_85 : decode cX11_act 85 = .ok (.aload_n 0, 1) := by decide +kernel
theorem dX11_act_86 : decode cX11_act 86 = .ok (.getfield 12, 3) := by decide +kernel
theorem dX11_act_89 : decode cX11_act 89 = .ok (.getfield 77, 3) := by decide +kernel
theorem dX11_act_92 : decode cX11_act 92 = .ok (.iload 4, 2) := by decide +kernel
theorem dX11_act_94 : decode cX11_act 94 = .ok (.iaload, 1) := by decide +kernel
theorem dX11_act_95 : decode cX11_act 95 = .ok (.aaload, 1) := by decide +kernel
theorem dX11_act_96 : decode cX11_act 96 = .ok (.astore 5, 2) := by decide +kernel
theorem dX11_act_98 : decode cX11_act 98 = .ok (.iload_n 2, 1) := by decide +kernel
theorem dX11_act_99 : decode cX11_act 99 = .ok (.tableswitch 89 0 3 #[29, 44, 59, 74], 29) := by decide +kernel
theorem dX11_act_128 : decode cX11_act 128 = .ok (.aload 5, 2) := by decide +kernel
theorem dX11_act_130 : decode cX11_act 130 = .ok (.aload_n 0, 1) := by decide +kernel
theorem dX11_act_131 : decode cX11_act 131 = .ok (.getfield 57, 3) := by decide +kernel
theorem dX11_act_134 : decode cX11_act 134 = .ok (.iload_n 3, 1) := by decide +kernel
theorem dX11_act_135 : decode cX11_act 135 = .ok (.invokevirtual 350, 3) := by decide +kernel
theorem dX11_act_138 : decode cX11_act 138 = .ok (.istore 6, 2) := by decide +kernel
theorem dX11_act_140 : decode cX11_act 140 = .ok (.goto 51, 3) := by decide +kernel
theorem dX11_act_143 : decode cX11_act 143 = .ok (.aload 5, 2) := by decide +kernel
theorem dX11_act_145 : decode cX11_act 145 = .ok (.aload_n 0, 1) := by decide +kernel
theorem dX11_act_146 : decode cX11_act 146 = .ok (.getfield 57, 3) := by decide +kernel
theorem dX11_act_149 : decode cX11_act 149 = .ok (.iload_n 3, 1) := by decide +kernel
theorem dX11_act_150 : decode cX11_act 150 = .ok (.invokevirtual 356, 3) := by decide +kernel
theorem dX11_act_153 : decode cX11_act 153 = .ok (.istore 6, 2) := by decide +kernel
theorem dX11_act_155 : decode cX11_act 155 = .ok (.goto 36, 3) := by decide +kernel
theorem dX11_act_158 : decode cX11_act 158 = .ok (.aload 5, 2) := by decide +kernel
theorem dX11_act_160 : decode cX11_act 160 = .ok (.aload_n 0, 1) := by decide +kernel
theorem dX11_act_161 : decode cX11_act 161 = .ok (.getfield 57, 3) := by decide +kernel
theorem dX11_act_164 : decode cX11_act 164 = .ok (.iload_n 3, 1) := by decide +kernel
theorem dX11_act_165 : decode cX11_act 165 = .ok (.invokevirtual 359, 3) := by decide +kernel
theorem dX11_act_168 : decode cX11_act 168 = .ok (.istore 6, 2) := by decide +kernel
theorem dX11_act_170 : decode cX11_act 170 = .ok (.goto 21, 3) := by decide +kernel
theorem dX11_act_173 : decode cX11_act 173 = .ok (.aload 5, 2) := by decide +kernel
theorem dX11_act_175 : decode cX11_act 175 = .ok (.aload_n 0, 1) := by decide +kernel
theorem dX11_act_176 : decode cX11_act 176 = .ok (.getfield 57, 3) := by decide +kernel
theorem dX11_act_179 : decode cX11_act 179 = .ok (.iload_n 3, 1) := by decide +kernel
theorem dX11_act_180 : decode cX11_act 180 = .ok (.invokevirtual 362, 3) := by decide +kernel
theorem dX11_act_183 : decode cX11_act 183 = .ok (.istore 6, 2) := by decide +kernel
theorem dX11_act_185 : decode cX11_act 185 = .ok (.goto 6, 3) := by decide +kernel
theorem dX11_act_188 : decode cX11_act 188 = .ok (.iconst 0, 1) := by decide +kernel
theorem dX11_act_189 : decode cX11_act 189 = .ok (.istore 6, 2) := by decide +kernel
theorem dX11_act_191 : decode cX11_act 191 = .ok (.aload_n 0, 1) := by decide +kernel
theorem dX11_act_192 : decode cX11_act 192 = .ok (.getfield 57, 3) := by decide +kernel
theorem dX11_act_195 : decode cX11_act 195 = .ok (.getfield 365, 3) := by decide +kernel
theorem dX11_act_198 : decode cX11_act 198 = .ok (.ifCond .eq 8, 3) := by decide +kernel
theorem dX11_act_201 : decode cX11_act 201 = .ok (.bipush (-15), 2) := by decide +kernel
theorem dX11_act_203 : decode cX11_act 203 = .ok (.goto 5, 3) := by decide +kernel
theorem dX11_act_206 : decode cX11_act 206 = .ok (.iload 6, 2) := by decide +kernel
theorem dX11_act_208 : decode cX11_act 208 = .ok (.ireturn, 1) := by decide +kernel
def k_act_191 (a6 : Int32) (m : M) : Option (Int32 × M) :=
  (if (m 9 2) = 0 then some (a6, m) else some ((-15 : Int32), m))
set_option maxRecDepth 20000 in
theorem t_k_act_191 {G : GG} {x : Cx} (E : En G x cX11_act "WreckBoard" 8 (some .int)) (hn : xn x = 7) (a6 : Int32) (m : M) : Sm G x 191 [(0, .ref (G.2.1 0)), (6, .int a6)] [] m (k_act_191 a6 m) KWi := by
  unfold k_act_191
  refine s_aload_n 0 E dX11_act_191 rfl rfl ?_
  refine s_getr (k := 12) (T := TX11) 0 E rfl rfl rfl inX11 (by decide) W372 dX11_act_192 ?_
  refine s_geti (k := 2) (T := TX2) 9 E rfl rfl rfl inX2 (by decide) W344 dX11_act_195 ?_
  refine s_if_eq 206 E dX11_act_198 (by decide) ?_ ?_
  · refine s_iload 1 E dX11_act_206 rfl ?_
    exact s_iret E rfl dX11_act_208
  · refine s_bipush (v := (-15 : Int32)) E dX11_act_201 (by decide) ?_
    refine s_goto 208 E dX11_act_203 (by decide) ?_
    exact s_iret E rfl dX11_act_208
def k_act (a1 : Int32) (a2 : Int32) (a3 : Int32) (m : M) : Option (Int32 × M) :=
  Option.bind (d_clear m) (fun m1 => Option.bind (k_within a1 (0 : Int32) (3 : Int32) m1) (fun v2 => (if v2 = 0 then some ((0 : Int32), m1) else Option.bind (rdI m1 62 a1) (fun v3 => (if v3 = (5 : Int32) then Option.bind (rdI m1 63 a1) (fun v4 => Option.bind (b_isMember v4 m1) (fun v5 => (if v5 = 0 then some ((0 : Int32), m1) else Option.bind (rdI m1 63 a1) (fun v6 => lt (wrF m1 9 0 v6) (fun m7 => Option.bind (rdI m7 13 v6) (fun v8 => lt (wrF m7 9 1 v8) (fun m9 => Option.bind (rdI m9 10 v6) (fun v10 => Option.bind (rdR 17 v10) (fun p11 => (if a2 = (0 : Int32) then Option.bind (vd_moves p11 a3 m9) (fun z12 => k_act_191 z12.1 z12.2) else (if a2 = (1 : Int32) then Option.bind (vd_seconds p11 a3 m9) (fun z13 => k_act_191 z13.1 z13.2) else (if a2 = (2 : Int32) then Option.bind (vd_counts p11 a3 m9) (fun z14 => k_act_191 z14.1 z14.2) else (if a2 = (3 : Int32) then Option.bind (vd_bows p11 a3 m9) (fun z15 => k_act_191 z15.1 z15.2) else k_act_191 (0 : Int32) m9))))))))))))) else some ((0 : Int32), m1))))))
set_option maxRecDepth 20000 in
theorem t_k_act {G : GG} {x : Cx} (E : En G x cX11_act "WreckBoard" 8 (some .int)) (hn : xn x = 7) (a1 : Int32) (a2 : Int32) (a3 : Int32) (m : M) : Sm G x 0 [(0, .ref (G.2.1 0)), (1, .int a1), (2, .int a2), (3, .int a3)] [] m (k_act a1 a2 a3 m) KWi := by
  unfold k_act
  refine s_aload_n 0 E dX11_act_0 rfl rfl ?_
  refine s_getr (k := 12) (T := TX11) 0 E rfl rfl rfl inX11 (by decide) W372 dX11_act_1 ?_
  refine s_bd (fun m1 hz => ?_)
  refine s_cV (rest := []) E (C_d_clear (xl x) G  m hz) mdX2_clear W1116 W1117 W1118 W102 W1119 rfl rfl rfl rfl (Nat.le_of_ble_eq_true rfl) ⟨by decide, by decide⟩ dX11_act_4 ?_
  refine s_iload_n 1 E dX11_act_7 rfl rfl ?_
  refine s_iconst (v := (0 : Int32)) E dX11_act_8 (by decide) ?_
  refine s_iconst (v := (3 : Int32)) E dX11_act_9 (by decide) ?_
  refine s_bd (fun v2 hz => ?_)
  refine s_cS (rest := []) E (C_k_within (xl x) G a1 (0 : Int32) (3 : Int32) m1 hz) mdX11_within W404 W405 W91 W406 rfl rfl (Nat.le_of_ble_eq_true rfl) ⟨by decide, by decide⟩ dX11_act_10 ?_
  refine s_if_eq 42 E dX11_act_13 (by decide) ?_ ?_
  · refine s_iconst (v := (0 : Int32)) E dX11_act_42 (by decide) ?_
    exact s_iret E rfl dX11_act_43
  · refine s_aload_n 0 E dX11_act_16 rfl rfl ?_
    refine s_getr (k := 10) (T := TX11) 0 E rfl rfl rfl inX11 (by decide) W370 dX11_act_17 ?_
    refine s_iload_n 1 E dX11_act_20 rfl rfl ?_
    refine s_iald E dX11_act_21 (fun v3 => ?_)
    refine s_iconst (v := (5 : Int32)) E dX11_act_22 (by decide) ?_
    refine s_icmp_ne 42 E dX11_act_23 (by decide) ?_ ?_
    · refine s_iconst (v := (0 : Int32)) E dX11_act_42 (by decide) ?_
      exact s_iret E rfl dX11_act_43
    · refine s_aload_n 0 E dX11_act_26 rfl rfl ?_
      refine s_getr (k := 0) (T := TX11) 0 E rfl rfl rfl inX11 (by decide) W360 dX11_act_27 ?_
      refine s_aload_n 0 E dX11_act_30 rfl rfl ?_
      refine s_getr (k := 11) (T := TX11) 0 E rfl rfl rfl inX11 (by decide) W371 dX11_act_31 ?_
      refine s_iload_n 1 E dX11_act_34 rfl rfl ?_
      refine s_iald E dX11_act_35 (fun v4 => ?_)
      refine s_bd (fun v5 hz => ?_)
      refine s_cV (rest := []) E (C_b_isMember (xl x) G v4 m1 hz) mdX0_isMember W415 W416 W417 W92 W418 rfl rfl rfl rfl (Nat.le_of_ble_eq_true rfl) ⟨by decide, by decide⟩ dX11_act_36 ?_
      refine s_if_ne 44 E dX11_act_39 (by decide) ?_ ?_
      · refine s_aload_n 0 E dX11_act_44 rfl rfl ?_
        refine s_getr (k := 11) (T := TX11) 0 E rfl rfl rfl inX11 (by decide) W371 dX11_act_45 ?_
        refine s_iload_n 1 E dX11_act_48 rfl rfl ?_
        refine s_iald E dX11_act_49 (fun v6 => ?_)
        refine s_istore (lv' := [(0, .ref (G.2.1 0)), (2, .int a2), (3, .int a3), (4, .int v6)]) [1, 3, 4, 0] E dX11_act_50 (by rw [hn]; decide) rfl ?_
        refine s_aload_n 0 E dX11_act_52 rfl rfl ?_
        refine s_getr (k := 12) (T := TX11) 0 E rfl rfl rfl inX11 (by decide) W372 dX11_act_53 ?_
        refine s_iload 3 E dX11_act_56 rfl ?_
        refine s_put (k := 0) (T := TX2) (ty := .int) 9 E rfl rfl rfl inX2 tyX2 tyX2_ok nmX2 (by decide) W338 rfl (by decide +kernel) rfl rfl dX11_act_58 ?_
        refine s_ltm rfl (fun m7 => ?_)
        refine s_aload_n 0 E dX11_act_61 rfl rfl ?_
        refine s_getr (k := 12) (T := TX11) 0 E rfl rfl rfl inX11 (by decide) W372 dX11_act_62 ?_
        refine s_aload_n 0 E dX11_act_65 rfl rfl ?_
        refine s_getr (k := 0) (T := TX11) 0 E rfl rfl rfl inX11 (by decide) W360 dX11_act_66 ?_
        refine s_getr (k := 12) (T := TX0) 1 E rfl rfl rfl inX0 (by decide) W251 dX11_act_69 ?_
        refine s_iload 3 E dX11_act_72 rfl ?_
        refine s_iald E dX11_act_74 (fun v8 => ?_)
        refine s_put (k := 1) (T := TX2) (ty := .int) 9 E rfl rfl rfl inX2 tyX2 tyX2_ok nmX2 (by decide) W341 rfl (by decide +kernel) rfl rfl dX11_act_75 ?_
        refine s_ltm rfl (fun m9 => ?_)
        refine s_aload_n 0 E dX11_act_78 rfl rfl ?_
        refine s_getr (k := 0) (T := TX11) 0 E rfl rfl rfl inX11 (by decide) W360 dX11_act_79 ?_
        refine s_getr (k := 18) (T := TX0) 1 E rfl rfl rfl inX0 (by decide) W263 dX11_act_82 ?_
        refine s_aload_n 0 E dX11_act_85 rfl rfl ?_
        refine s_getr (k := 0) (T := TX11) 0 E rfl rfl rfl inX11 (by decide) W360 dX11_act_86 ?_
        refine s_getr (k := 9) (T := TX0) 1 E rfl rfl rfl inX0 (by decide) W243 dX11_act_89 ?_
        refine s_iload 3 E dX11_act_92 rfl ?_
        refine s_iald E dX11_act_94 (fun v10 => ?_)
        refine s_aald E dX11_act_95 (fun p11 => ?_)
        refine s_astore (lv' := [(0, .ref (G.2.1 0)), (2, .int a2), (3, .int a3), (5, .ref (G.2.1 p11))]) [1, 2, 3, 0] E dX11_act_96 (by rw [hn]; decide) rfl ?_
        refine s_iload_n 1 E dX11_act_98 rfl rfl ?_
        refine s_case (fun h99_0 => ?_) (fun h99_0 => ?_)
        · refine s_tabIn 128 E dX11_act_99 h99_0 (by decide) (by decide) rfl (by decide) ?_
          refine s_aload 3 E dX11_act_128 rfl ?_
          refine s_aload_n 0 E dX11_act_130 rfl rfl ?_
          refine s_getr (k := 12) (T := TX11) 0 E rfl rfl rfl inX11 (by decide) W372 dX11_act_131 ?_
          refine s_iload_n 2 E dX11_act_134 rfl rfl ?_
          refine s_bd (fun z12 hz => ?_)
          refine D_vd_moves [] E p11 a3 hz W1120 (Nat.le_of_ble_eq_true rfl) (by decide) dX11_act_135 ?_
          refine s_istore (lv' := [(0, .ref (G.2.1 0)), (6, .int z12.1)]) [1, 0] E dX11_act_138 (by rw [hn]; decide) rfl ?_
          refine s_goto 191 E dX11_act_140 (by decide) ?_
          exact t_k_act_191 E hn z12.1 z12.2
        · refine s_case (fun h99_1 => ?_) (fun h99_1 => ?_)
          · refine s_tabIn 143 E dX11_act_99 h99_1 (by decide) (by decide) rfl (by decide) ?_
            refine s_aload 3 E dX11_act_143 rfl ?_
            refine s_aload_n 0 E dX11_act_145 rfl rfl ?_
            refine s_getr (k := 12) (T := TX11) 0 E rfl rfl rfl inX11 (by decide) W372 dX11_act_146 ?_
            refine s_iload_n 2 E dX11_act_149 rfl rfl ?_
            refine s_bd (fun z13 hz => ?_)
            refine D_vd_seconds [] E p11 a3 hz W1144 (Nat.le_of_ble_eq_true rfl) (by decide) dX11_act_150 ?_
            refine s_istore (lv' := [(0, .ref (G.2.1 0)), (6, .int z13.1)]) [1, 0] E dX11_act_153 (by rw [hn]; decide) rfl ?_
            refine s_goto 191 E dX11_act_155 (by decide) ?_
            exact t_k_act_191 E hn z13.1 z13.2
          · refine s_case (fun h99_2 => ?_) (fun h99_2 => ?_)
            · refine s_tabIn 158 E dX11_act_99 h99_2 (by decide) (by decide) rfl (by decide) ?_
              refine s_aload 3 E dX11_act_158 rfl ?_
              refine s_aload_n 0 E dX11_act_160 rfl rfl ?_
              refine s_getr (k := 12) (T := TX11) 0 E rfl rfl rfl inX11 (by decide) W372 dX11_act_161 ?_
              refine s_iload_n 2 E dX11_act_164 rfl rfl ?_
              refine s_bd (fun z14 hz => ?_)
              refine D_vd_counts [] E p11 a3 hz W1165 (Nat.le_of_ble_eq_true rfl) (by decide) dX11_act_165 ?_
              refine s_istore (lv' := [(0, .ref (G.2.1 0)), (6, .int z14.1)]) [1, 0] E dX11_act_168 (by rw [hn]; decide) rfl ?_
              refine s_goto 191 E dX11_act_170 (by decide) ?_
              exact t_k_act_191 E hn z14.1 z14.2
            · refine s_case (fun h99_3 => ?_) (fun h99_3 => ?_)
              · refine s_tabIn 173 E dX11_act_99 h99_3 (by decide) (by decide) rfl (by decide) ?_
                refine s_aload 3 E dX11_act_173 rfl ?_
                refine s_aload_n 0 E dX11_act_175 rfl rfl ?_
                refine s_getr (k := 12) (T := TX11) 0 E rfl rfl rfl inX11 (by decide) W372 dX11_act_176 ?_
                refine s_iload_n 2 E dX11_act_179 rfl rfl ?_
                refine s_bd (fun z15 hz => ?_)
                refine D_vd_bows [] E p11 a3 hz W1185 (Nat.le_of_ble_eq_true rfl) (by decide) dX11_act_180 ?_
                refine s_istore (lv' := [(0, .ref (G.2.1 0)), (6, .int z15.1)]) [1, 0] E dX11_act_183 (by rw [hn]; decide) rfl ?_
                refine s_goto 191 E dX11_act_185 (by decide) ?_
                exact t_k_act_191 E hn z15.1 z15.2
              · refine s_tabOut 188 E dX11_act_99 (by have e0 := ne_toIntK h99_0 (k := 0) (by decide); have e1 := ne_toIntK h99_1 (k := 1) (by decide); have e2 := ne_toIntK h99_2 (k := 2) (by decide); have e3 := ne_toIntK h99_3 (k := 3) (by decide); omega) (by decide) ?_
                refine s_iconst (v := (0 : Int32)) E dX11_act_188 (by decide) ?_
                refine s_istore (lv' := [(0, .ref (G.2.1 0)), (6, .int (0 : Int32))]) [1, 0] E dX11_act_189 (by rw [hn]; decide) rfl ?_
                exact t_k_act_191 E hn (0 : Int32) m9
      · refine s_iconst (v := (0 : Int32)) E dX11_act_42 (by decide) ?_
        exact s_iret E rfl dX11_act_43
set_option maxRecDepth 20000 in
theorem C_k_act (l : Launch) (G : GG) (a1 : Int32) (a2 : Int32) (a3 : Int32) (m : M) {z : Int32 × M} (hz : k_act a1 a2 a3 m = some z) : Ct l G yX11_act cX11_act 7 (some .int) 8 [.ref (G.2.1 0), .int a1, .int a2, .int a3] m (some (.int z.1)) z.2 :=
  ct_of (K := KWi) (by decide) (Nat.le_of_ble_eq_true rfl) (congrArg (fun q => Option.bind q _) hz) (fun x hl hn E => (t_k_act E hn a1 a2 a3 m))
theorem dX11_trace_0 : decode cX11_trace 0 = .ok (.iload_n 1, 1) := by decide +kernel
theorem dX11_trace_1 : decode cX11_trace 1 = .ok (.iconst 0, 1) := by decide +kernel
theorem dX11_trace_2 : decode cX11_trace 2 = .ok (.aload_n 0, 1) := by decide +kernel
theorem dX11_trace_3 : decode cX11_trace 3 = .ok (.getfield 57, 3) := by decide +kernel
theorem dX11_trace_6 : decode cX11_trace 6 = .ok (.getfield 369, 3) := by decide +kernel
theorem dX11_trace_9 : decode cX11_trace 9 = .ok (.iconst 1, 1) := by decide +kernel
theorem dX11_trace_10 : decode cX11_trace 10 = .ok (.isub, 1) := by decide +kernel
theorem dX11_trace_11 : decode cX11_trace 11 = .ok (.invokestatic 61, 3) := by decide +kernel
theorem dX11_trace_14 : decode cX11_trace 14 = .ok (.ifCond .eq 15, 3) := by decide +kernel
theorem dX11_trace_17 : decode cX11_trace 17 = .ok (.aload_n 0, 1) := by decide +kernel
theorem dX11_trace_18 : decode cX11_trace 18 = .ok (.getfield 57, 3) := by decide +kernel
theorem dX11_trace_21 : decode cX11_trace 21 = .ok (.getfield 370, 3) := by decide +kernel
theorem dX11_trace_24 : decode cX11_trace 24 = .ok (.iload_n 1, 1) := by decide +kernel
theorem dX11_trace_25 : decode cX11_trace 25 = .ok (.iaload, 1) := by decide +kernel
theorem dX11_trace_26 : decode cX11_trace 26 = .ok (.goto 5, 3) := by decide +kernel
theorem dX11_trace_29 : decode cX11_trace 29 = .ok (.bipush (-3), 2) := by decide +kernel
theorem dX11_trace_31 : decode cX11_trace 31 = .ok (.ireturn, 1) := by decide +kernel
def k_trace (a1 : Int32) (m : M) : Option (Int32) :=
  Option.bind (k_within a1 (0 : Int32) ((m 9 4) - (1 : Int32)) m) (fun v1 => (if v1 = 0 then some (-3 : Int32) else Option.bind (rdI m 49 a1) (fun v2 => some v2)))
set_option maxRecDepth 20000 in
theorem t_k_trace {G : GG} {x : Cx} (E : En G x cX11_trace "WreckBoard" 2 (some .int)) (hn : xn x = 2) (a1 : Int32) (m : M) : Sm G x 0 [(0, .ref (G.2.1 0)), (1, .int a1)] [] m (k_trace a1 m) (KRi m) := by
  unfold k_trace
  refine s_iload_n 1 E dX11_trace_0 rfl rfl ?_
  refine s_iconst (v := (0 : Int32)) E dX11_trace_1 (by decide) ?_
  refine s_aload_n 0 E dX11_trace_2 rfl rfl ?_
  refine s_getr (k := 12) (T := TX11) 0 E rfl rfl rfl inX11 (by decide) W372 dX11_trace_3 ?_
  refine s_geti (k := 4) (T := TX2) 9 E rfl rfl rfl inX2 (by decide) W348 dX11_trace_6 ?_
  refine s_iconst (v := (1 : Int32)) E dX11_trace_9 (by decide) ?_
  refine s_isub E dX11_trace_10 ?_
  refine s_bd (fun v1 hz => ?_)
  refine s_cS (rest := []) E (C_k_within (xl x) G a1 (0 : Int32) ((m 9 4) - (1 : Int32)) m hz) mdX11_within W404 W405 W91 W406 rfl rfl (Nat.le_of_ble_eq_true rfl) ⟨by decide, by decide⟩ dX11_trace_11 ?_
  refine s_if_eq 29 E dX11_trace_14 (by decide) ?_ ?_
  · refine s_bipush (v := (-3 : Int32)) E dX11_trace_29 (by decide) ?_
    exact s_iret E rfl dX11_trace_31
  · refine s_aload_n 0 E dX11_trace_17 rfl rfl ?_
    refine s_getr (k := 12) (T := TX11) 0 E rfl rfl rfl inX11 (by decide) W372 dX11_trace_18 ?_
    refine s_getr (k := 3) (T := TX2) 9 E rfl rfl rfl inX2 (by decide) W346 dX11_trace_21 ?_
    refine s_iload_n 1 E dX11_trace_24 rfl rfl ?_
    refine s_iald E dX11_trace_25 (fun v2 => ?_)
    refine s_goto 31 E dX11_trace_26 (by decide) ?_
    exact s_iret E rfl dX11_trace_31
set_option maxRecDepth 20000 in
theorem C_k_trace (l : Launch) (G : GG) (a1 : Int32) (m : M) {z : Int32} (hz : k_trace a1 m = some z) : Ct l G yX11_trace cX11_trace 2 (some .int) 2 [.ref (G.2.1 0), .int a1] m (some (.int z)) m :=
  ct_of (K := (KRi m)) (by decide) (Nat.le_of_ble_eq_true rfl) (congrArg (fun q => Option.bind q _) hz) (fun x hl hn E => (t_k_trace E hn a1 m))
theorem dX11_many_0 : decode cX11_many 0 = .ok (.iload_n 1, 1) := by decide +kernel
theorem dX11_many_1 : decode cX11_many 1 = .ok (.tableswitch 105 0 6 #[43, 51, 62, 73, 84, 89, 97], 43) := by decide +kernel
theorem dX11_many_44 : decode cX11_many 44 = .ok (.aload_n 0, 1) := by decide +kernel
theorem dX11_many_45 : decode cX11_many 45 = .ok (.getfield 12, 3) := by decide +kernel
theorem dX11_many_48 : decode cX11_many 48 = .ok (.getfield 65, 3) := by decide +kernel
theorem dX11_many_51 : decode cX11_many 51 = .ok (.ireturn, 1) := by decide +kernel
theorem dX11_many_52 : decode cX11_many 52 = .ok (.aload_n 0, 1) := by decide +kernel
theorem dX11_many_53 : decode cX11_many 53 = .ok (.getfield 12, 3) := by decide +kernel
theorem dX11_many_56 : decode cX11_many 56 = .ok (.getfield 167, 3) := by decide +kernel
theorem dX11_many_59 : decode cX11_many 59 = .ok (.getfield 174, 3) := by decide +kernel
theorem dX11_many_62 : decode cX11_many 62 = .ok (.ireturn, 1) := by decide +kernel
theorem dX11_many_63 : decode cX11_many 63 = .ok (.aload_n 0, 1) := by decide +kernel
theorem dX11_many_64 : decode cX11_many 64 = .ok (.getfield 12, 3) := by decide +kernel
theorem dX11_many_67 : decode cX11_many 67 = .ok (.getfield 145, 3) := by decide +kernel
theorem dX11_many_70 : decode cX11_many 70 = .ok (.invokestatic 217, 3) := by decide +kernel
theorem dX11_many_73 : decode cX11_many 73 = .ok (.ireturn, 1) := by decide +kernel
theorem dX11_many_74 : decode cX11_many 74 = .ok (.aload_n 0, 1) := by decide +kernel
theorem dX11_many_75 : decode cX11_many 75 = .ok (.getfield 12, 3) := by decide +kernel
theorem dX11_many_78 : decode cX11_many 78 = .ok (.getfield 275, 3) := by decide +kernel
theorem dX11_many_81 : decode cX11_many 81 = .ok (.getfield 279, 3) := by decide +kernel
theorem dX11_many_84 : decode cX11_many 84 = .ok (.ireturn, 1) := by decide +kernel
theorem dX11_many_85 : decode cX11_many 85 = .ok (.aload_n 0, 1) := by decide +kernel
theorem dX11_many_86 : decode cX11_many 86 = .ok (.getfield 311, 3) := by decide +kernel
theorem dX11_many_89 : decode cX11_many 89 = .ok (.ireturn, 1) := by decide +kernel
theorem dX11_many_90 : decode cX11_many 90 = .ok (.aload_n 0, 1) := by decide +kernel
theorem dX11_many_91 : decode cX11_many 91 = .ok (.getfield 22, 3) := by decide +kernel
theorem dX11_many_94 : decode cX11_many 94 = .ok (.getfield 166, 3) := by decide +kernel
theorem dX11_many_97 : decode cX11_many 97 = .ok (.ireturn, 1) := by decide +kernel
theorem dX11_many_98 : decode cX11_many 98 = .ok (.aload_n 0, 1) := by decide +kernel
theorem dX11_many_99 : decode cX11_many 99 = .ok (.getfield 57, 3) := by decide +kernel
theorem dX11_many_102 : decode cX11_many 102 = .ok (.getfield 369, 3) := by decide +kernel
theorem dX11_many_105 : decode cX11_many 105 = .ok (.ireturn, 1) := by decide +kernel
theorem dX11_many_106 : decode cX11_many 106 = .ok (.iconst (-1), 1) := by decide +kernel
theorem dX11_many_107 : decode cX11_many 107 = .ok (.ireturn, 1) := by decide +kernel
def k_many (a1 : Int32) (m : M) : Option (Int32) :=
  (if a1 = (0 : Int32) then some (m 1 6) else (if a1 = (1 : Int32) then some (m 3 0) else (if a1 = (2 : Int32) then Option.bind (i_bitCount (m 1 7) m) (fun v1 => some v1) else (if a1 = (3 : Int32) then some (m 4 0) else (if a1 = (4 : Int32) then some (m 0 6) else (if a1 = (5 : Int32) then some (m 7 0) else (if a1 = (6 : Int32) then some (m 9 4) else some (-1 : Int32))))))))
set_option maxRecDepth 20000 in
theorem t_k_many {G : GG} {x : Cx} (E : En G x cX11_many "WreckBoard" 2 (some .int)) (hn : xn x = 2) (a1 : Int32) (m : M) : Sm G x 0 [(0, .ref (G.2.1 0)), (1, .int a1)] [] m (k_many a1 m) (KRi m) := by
  unfold k_many
  refine s_iload_n 1 E dX11_many_0 rfl rfl ?_
  refine s_case (fun h1_0 => ?_) (fun h1_0 => ?_)
  · refine s_tabIn 44 E dX11_many_1 h1_0 (by decide) (by decide) rfl (by decide) ?_
    refine s_aload_n 0 E dX11_many_44 rfl rfl ?_
    refine s_getr (k := 0) (T := TX11) 0 E rfl rfl rfl inX11 (by decide) W360 dX11_many_45 ?_
    refine s_geti (k := 6) (T := TX0) 1 E rfl rfl rfl inX0 (by decide) W237 dX11_many_48 ?_
    exact s_iret E rfl dX11_many_51
  · refine s_case (fun h1_1 => ?_) (fun h1_1 => ?_)
    · refine s_tabIn 52 E dX11_many_1 h1_1 (by decide) (by decide) rfl (by decide) ?_
      refine s_aload_n 0 E dX11_many_52 rfl rfl ?_
      refine s_getr (k := 0) (T := TX11) 0 E rfl rfl rfl inX11 (by decide) W360 dX11_many_53 ?_
      refine s_getr (k := 16) (T := TX0) 1 E rfl rfl rfl inX0 (by decide) W259 dX11_many_56 ?_
      refine s_geti (k := 0) (T := TX7) 3 E rfl rfl rfl inX7 (by decide) W134 dX11_many_59 ?_
      exact s_iret E rfl dX11_many_62
    · refine s_case (fun h1_2 => ?_) (fun h1_2 => ?_)
      · refine s_tabIn 63 E dX11_many_1 h1_2 (by decide) (by decide) rfl (by decide) ?_
        refine s_aload_n 0 E dX11_many_63 rfl rfl ?_
        refine s_getr (k := 0) (T := TX11) 0 E rfl rfl rfl inX11 (by decide) W360 dX11_many_64 ?_
        refine s_geti (k := 7) (T := TX0) 1 E rfl rfl rfl inX0 (by decide) W239 dX11_many_67 ?_
        refine s_bd (fun v1 hz => ?_)
        refine s_cS (rest := []) E (C_i_bitCount (xl x) G (m 1 7) m hz) mdJ6_bitCount_0f7a4 W891 W892 W111 W893 rfl rfl (Nat.le_of_ble_eq_true rfl) ⟨by decide, by decide⟩ dX11_many_70 ?_
        exact s_iret E rfl dX11_many_73
      · refine s_case (fun h1_3 => ?_) (fun h1_3 => ?_)
        · refine s_tabIn 74 E dX11_many_1 h1_3 (by decide) (by decide) rfl (by decide) ?_
          refine s_aload_n 0 E dX11_many_74 rfl rfl ?_
          refine s_getr (k := 0) (T := TX11) 0 E rfl rfl rfl inX11 (by decide) W360 dX11_many_75 ?_
          refine s_getr (k := 17) (T := TX0) 1 E rfl rfl rfl inX0 (by decide) W261 dX11_many_78 ?_
          refine s_geti (k := 0) (T := TX6) 4 E rfl rfl rfl inX6 (by decide) W163 dX11_many_81 ?_
          exact s_iret E rfl dX11_many_84
        · refine s_case (fun h1_4 => ?_) (fun h1_4 => ?_)
          · refine s_tabIn 85 E dX11_many_1 h1_4 (by decide) (by decide) rfl (by decide) ?_
            refine s_aload_n 0 E dX11_many_85 rfl rfl ?_
            refine s_geti (k := 6) (T := TX11) 0 E rfl rfl rfl inX11 (by decide) W366 dX11_many_86 ?_
            exact s_iret E rfl dX11_many_89
          · refine s_case (fun h1_5 => ?_) (fun h1_5 => ?_)
            · refine s_tabIn 90 E dX11_many_1 h1_5 (by decide) (by decide) rfl (by decide) ?_
              refine s_aload_n 0 E dX11_many_90 rfl rfl ?_
              refine s_getr (k := 3) (T := TX11) 0 E rfl rfl rfl inX11 (by decide) W363 dX11_many_91 ?_
              refine s_geti (k := 0) (T := TX9) 7 E rfl rfl rfl inX9 (by decide) W310 dX11_many_94 ?_
              exact s_iret E rfl dX11_many_97
            · refine s_case (fun h1_6 => ?_) (fun h1_6 => ?_)
              · refine s_tabIn 98 E dX11_many_1 h1_6 (by decide) (by decide) rfl (by decide) ?_
                refine s_aload_n 0 E dX11_many_98 rfl rfl ?_
                refine s_getr (k := 12) (T := TX11) 0 E rfl rfl rfl inX11 (by decide) W372 dX11_many_99 ?_
                refine s_geti (k := 4) (T := TX2) 9 E rfl rfl rfl inX2 (by decide) W348 dX11_many_102 ?_
                exact s_iret E rfl dX11_many_105
              · refine s_tabOut 106 E dX11_many_1 (by have e0 := ne_toIntK h1_0 (k := 0) (by decide); have e1 := ne_toIntK h1_1 (k := 1) (by decide); have e2 := ne_toIntK h1_2 (k := 2) (by decide); have e3 := ne_toIntK h1_3 (k := 3) (by decide); have e4 := ne_toIntK h1_4 (k := 4) (by decide); have e5 := ne_toIntK h1_5 (k := 5) (by decide); have e6 := ne_toIntK h1_6 (k := 6) (by decide); omega) (by decide) ?_
                refine s_iconst (v := (-1 : Int32)) E dX11_many_106 (by decide) ?_
                exact s_iret E rfl dX11_many_107
set_option maxRecDepth 20000 in
theorem C_k_many (l : Launch) (G : GG) (a1 : Int32) (m : M) {z : Int32} (hz : k_many a1 m = some z) : Ct l G yX11_many cX11_many 2 (some .int) 2 [.ref (G.2.1 0), .int a1] m (some (.int z)) m :=
  ct_of (K := (KRi m)) (by decide) (Nat.le_of_ble_eq_true rfl) (congrArg (fun q => Option.bind q _) hz) (fun x hl hn E => (t_k_many E hn a1 m))
def u_copyFrom_5_3  (m : M) : Option (M) :=
  lt (wrF m 5 0 (m 3 0)) (fun m1 => lt (wrF m1 5 5 (m1 3 5)) (fun m2 => Option.bind (b_copy 26 34 m2) (fun m3 => Option.bind (b_copy 27 35 m3) (fun m4 => Option.bind (b_copy 28 36 m4) (fun m5 => Option.bind (b_copy 29 37 m5) (fun m6 => some m6))))))
set_option maxRecDepth 20000 in
theorem t_u_copyFrom_5_3 {G : GG} {x : Cx} (E : En G x cX7_copyFrom "WreckBoard$Rules" 3 none) (hn : xn x = 2)  (m : M) : Sm G x 0 [(0, .ref (G.2.1 5)), (1, .ref (G.2.1 3))] [] m (u_copyFrom_5_3 m) KWv := by
  unfold u_copyFrom_5_3
  refine s_aload_n 0 E dX7_copyFrom_0 rfl rfl ?_
  refine s_aload_n 1 E dX7_copyFrom_1 rfl rfl ?_
  refine s_geti (k := 0) (T := TX7) 3 E rfl rfl rfl inX7 (by decide) W132 dX7_copyFrom_2 ?_
  refine s_put (k := 0) (T := TX7) (ty := .int) 5 E rfl rfl rfl inX7 tyX7 tyX7_ok nmX7 (by decide) W132 rfl (by decide +kernel) rfl rfl dX7_copyFrom_5 ?_
  refine s_ltm rfl (fun m1 => ?_)
  refine s_aload_n 0 E dX7_copyFrom_8 rfl rfl ?_
  refine s_aload_n 1 E dX7_copyFrom_9 rfl rfl ?_
  refine s_geti (k := 5) (T := TX7) 3 E rfl rfl rfl inX7 (by decide) W141 dX7_copyFrom_10 ?_
  refine s_put (k := 5) (T := TX7) (ty := .int) 5 E rfl rfl rfl inX7 tyX7 tyX7_ok nmX7 (by decide) W141 rfl (by decide +kernel) rfl rfl dX7_copyFrom_13 ?_
  refine s_ltm rfl (fun m2 => ?_)
  refine s_aload_n 1 E dX7_copyFrom_16 rfl rfl ?_
  refine s_getr (k := 1) (T := TX7) 3 E rfl rfl rfl inX7 (by decide) W135 dX7_copyFrom_17 ?_
  refine s_aload_n 0 E dX7_copyFrom_20 rfl rfl ?_
  refine s_getr (k := 1) (T := TX7) 5 E rfl rfl rfl inX7 (by decide) W135 dX7_copyFrom_21 ?_
  refine s_bd (fun m3 hz => ?_)
  refine s_cS (rest := []) E (C_b_copy (xl x) G 26 34 m2 hz) mdX0_copy W780 W781 W92 W782 rfl rfl (Nat.le_of_ble_eq_true rfl) ⟨by decide, by decide⟩ dX7_copyFrom_24 ?_
  refine s_aload_n 1 E dX7_copyFrom_27 rfl rfl ?_
  refine s_getr (k := 2) (T := TX7) 3 E rfl rfl rfl inX7 (by decide) W137 dX7_copyFrom_28 ?_
  refine s_aload_n 0 E dX7_copyFrom_31 rfl rfl ?_
  refine s_getr (k := 2) (T := TX7) 5 E rfl rfl rfl inX7 (by decide) W137 dX7_copyFrom_32 ?_
  refine s_bd (fun m4 hz => ?_)
  refine s_cS (rest := []) E (C_b_copy (xl x) G 27 35 m3 hz) mdX0_copy W780 W781 W92 W782 rfl rfl (Nat.le_of_ble_eq_true rfl) ⟨by decide, by decide⟩ dX7_copyFrom_35 ?_
  refine s_aload_n 1 E dX7_copyFrom_38 rfl rfl ?_
  refine s_getr (k := 3) (T := TX7) 3 E rfl rfl rfl inX7 (by decide) W139 dX7_copyFrom_39 ?_
  refine s_aload_n 0 E dX7_copyFrom_42 rfl rfl ?_
  refine s_getr (k := 3) (T := TX7) 5 E rfl rfl rfl inX7 (by decide) W139 dX7_copyFrom_43 ?_
  refine s_bd (fun m5 hz => ?_)
  refine s_cS (rest := []) E (C_b_copy (xl x) G 28 36 m4 hz) mdX0_copy W780 W781 W92 W782 rfl rfl (Nat.le_of_ble_eq_true rfl) ⟨by decide, by decide⟩ dX7_copyFrom_46 ?_
  refine s_aload_n 1 E dX7_copyFrom_49 rfl rfl ?_
  refine s_getr (k := 4) (T := TX7) 3 E rfl rfl rfl inX7 (by decide) W140 dX7_copyFrom_50 ?_
  refine s_aload_n 0 E dX7_copyFrom_53 rfl rfl ?_
  refine s_getr (k := 4) (T := TX7) 5 E rfl rfl rfl inX7 (by decide) W140 dX7_copyFrom_54 ?_
  refine s_bd (fun m6 hz => ?_)
  refine s_cS (rest := []) E (C_b_copy (xl x) G 29 37 m5 hz) mdX0_copy W780 W781 W92 W782 rfl rfl (Nat.le_of_ble_eq_true rfl) ⟨by decide, by decide⟩ dX7_copyFrom_57 ?_
  exact s_vret E rfl dX7_copyFrom_60
set_option maxRecDepth 20000 in
theorem C_u_copyFrom_5_3 (l : Launch) (G : GG)  (m : M) {z : M} (hz : u_copyFrom_5_3 m = some z) : Ct l G yX7_copyFrom cX7_copyFrom 2 none 3 [.ref (G.2.1 5), .ref (G.2.1 3)] m none z :=
  ct_of (K := KWv) (by decide) (Nat.le_of_ble_eq_true rfl) (congrArg (fun q => Option.bind q _) hz) (fun x hl hn E => (t_u_copyFrom_5_3 E hn  m))
theorem dX6_copyFrom_0 : decode cX6_copyFrom 0 = .ok (.aload_n 0, 1) := by decide +kernel
theorem dX6_copyFrom_1 : decode cX6_copyFrom 1 = .ok (.aload_n 1, 1) := by decide +kernel
theorem dX6_copyFrom_2 : decode cX6_copyFrom 2 = .ok (.getfield 24, 3) := by decide +kernel
theorem dX6_copyFrom_5 : decode cX6_copyFrom 5 = .ok (.putfield 24, 3) := by decide +kernel
theorem dX6_copyFrom_8 : decode cX6_copyFrom 8 = .ok (.aload_n 1, 1) := by decide +kernel
theorem dX6_copyFrom_9 : decode cX6_copyFrom 9 = .ok (.getfield 9, 3) := by decide +kernel
theorem dX6_copyFrom_12 : decode cX6_copyFrom 12 = .ok (.aload_n 0, 1) := by decide +kernel
theorem dX6_copyFrom_13 : decode cX6_copyFrom 13 = .ok (.getfield 9, 3) := by decide +kernel
theorem dX6_copyFrom_16 : decode cX6_copyFrom 16 = .ok (.invokestatic 77, 3) := by decide +kernel
theorem dX6_copyFrom_19 : decode cX6_copyFrom 19 = .ok (.aload_n 1, 1) := by decide +kernel
theorem dX6_copyFrom_20 : decode cX6_copyFrom 20 = .ok (.getfield 15, 3) := by decide +kernel
theorem dX6_copyFrom_23 : decode cX6_copyFrom 23 = .ok (.aload_n 0, 1) := by decide +kernel
theorem dX6_copyFrom_24 : decode cX6_copyFrom 24 = .ok (.getfield 15, 3) := by decide +kernel
theorem dX6_copyFrom_27 : decode cX6_copyFrom 27 = .ok (.invokestatic 77, 3) := by decide +kernel
theorem dX6_copyFrom_30 : decode cX6_copyFrom 30 = .ok (.aload_n 1, 1) := by decide +kernel
theorem dX6_copyFrom_31 : decode cX6_copyFrom 31 = .ok (.getfield 18, 3) := by decide +kernel
theorem dX6_copyFrom_34 : decode cX6_copyFrom 34 = .ok (.aload_n 0, 1) := by decide +kernel
theorem dX6_copyFrom_35 : decode cX6_copyFrom 35 = .ok (.getfield 18, 3) := by decide +kernel
theorem dX6_copyFrom_38 : decode cX6_copyFrom 38 = .ok (.invokestatic 77, 3) := by decide +kernel
theorem dX6_copyFrom_41 : decode cX6_copyFrom 41 = .ok (.aload_n 1, 1) := by decide +kernel
theorem dX6_copyFrom_42 : decode cX6_copyFrom 42 = .ok (.getfield 21, 3) := by decide +kernel
theorem dX6_copyFrom_45 : decode cX6_copyFrom 45 = .ok (.aload_n 0, 1) := by decide +kernel
theorem dX6_copyFrom_46 : decode cX6_copyFrom 46 = .ok (.getfield 21, 3) := by decide +kernel
theorem dX6_copyFrom_49 : decode cX6_copyFrom 49 = .ok (.invokestatic 77, 3) := by decide +kernel
theorem dX6_copyFrom_52 : decode cX6_copyFrom 52 = .ok (.return_, 1) := by decide +kernel
def p_copyFrom  (m : M) : Option (M) :=
  lt (wrF m 6 0 (m 4 0)) (fun m1 => Option.bind (b_copy 30 38 m1) (fun m2 => Option.bind (b_copy 31 39 m2) (fun m3 => Option.bind (b_copy 32 40 m3) (fun m4 => Option.bind (b_copy 33 41 m4) (fun m5 => some m5)))))
set_option maxRecDepth 20000 in
theorem t_p_copyFrom {G : GG} {x : Cx} (E : En G x cX6_copyFrom "WreckBoard$Reports" 3 none) (hn : xn x = 2)  (m : M) : Sm G x 0 [(0, .ref (G.2.1 6)), (1, .ref (G.2.1 4))] [] m (p_copyFrom m) KWv := by
  unfold p_copyFrom
  refine s_aload_n 0 E dX6_copyFrom_0 rfl rfl ?_
  refine s_aload_n 1 E dX6_copyFrom_1 rfl rfl ?_
  refine s_geti (k := 0) (T := TX6) 4 E rfl rfl rfl inX6 (by decide) W162 dX6_copyFrom_2 ?_
  refine s_put (k := 0) (T := TX6) (ty := .int) 6 E rfl rfl rfl inX6 tyX6 tyX6_ok nmX6 (by decide) W162 rfl (by decide +kernel) rfl rfl dX6_copyFrom_5 ?_
  refine s_ltm rfl (fun m1 => ?_)
  refine s_aload_n 1 E dX6_copyFrom_8 rfl rfl ?_
  refine s_getr (k := 1) (T := TX6) 4 E rfl rfl rfl inX6 (by decide) W164 dX6_copyFrom_9 ?_
  refine s_aload_n 0 E dX6_copyFrom_12 rfl rfl ?_
  refine s_getr (k := 1) (T := TX6) 6 E rfl rfl rfl inX6 (by decide) W164 dX6_copyFrom_13 ?_
  refine s_bd (fun m2 hz => ?_)
  refine s_cS (rest := []) E (C_b_copy (xl x) G 30 38 m1 hz) mdX0_copy W1228 W781 W92 W782 rfl rfl (Nat.le_of_ble_eq_true rfl) ⟨by decide, by decide⟩ dX6_copyFrom_16 ?_
  refine s_aload_n 1 E dX6_copyFrom_19 rfl rfl ?_
  refine s_getr (k := 2) (T := TX6) 4 E rfl rfl rfl inX6 (by decide) W165 dX6_copyFrom_20 ?_
  refine s_aload_n 0 E dX6_copyFrom_23 rfl rfl ?_
  refine s_getr (k := 2) (T := TX6) 6 E rfl rfl rfl inX6 (by decide) W165 dX6_copyFrom_24 ?_
  refine s_bd (fun m3 hz => ?_)
  refine s_cS (rest := []) E (C_b_copy (xl x) G 31 39 m2 hz) mdX0_copy W1228 W781 W92 W782 rfl rfl (Nat.le_of_ble_eq_true rfl) ⟨by decide, by decide⟩ dX6_copyFrom_27 ?_
  refine s_aload_n 1 E dX6_copyFrom_30 rfl rfl ?_
  refine s_getr (k := 3) (T := TX6) 4 E rfl rfl rfl inX6 (by decide) W166 dX6_copyFrom_31 ?_
  refine s_aload_n 0 E dX6_copyFrom_34 rfl rfl ?_
  refine s_getr (k := 3) (T := TX6) 6 E rfl rfl rfl inX6 (by decide) W166 dX6_copyFrom_35 ?_
  refine s_bd (fun m4 hz => ?_)
  refine s_cS (rest := []) E (C_b_copy (xl x) G 32 40 m3 hz) mdX0_copy W1228 W781 W92 W782 rfl rfl (Nat.le_of_ble_eq_true rfl) ⟨by decide, by decide⟩ dX6_copyFrom_38 ?_
  refine s_aload_n 1 E dX6_copyFrom_41 rfl rfl ?_
  refine s_getr (k := 4) (T := TX6) 4 E rfl rfl rfl inX6 (by decide) W167 dX6_copyFrom_42 ?_
  refine s_aload_n 0 E dX6_copyFrom_45 rfl rfl ?_
  refine s_getr (k := 4) (T := TX6) 6 E rfl rfl rfl inX6 (by decide) W167 dX6_copyFrom_46 ?_
  refine s_bd (fun m5 hz => ?_)
  refine s_cS (rest := []) E (C_b_copy (xl x) G 33 41 m4 hz) mdX0_copy W1228 W781 W92 W782 rfl rfl (Nat.le_of_ble_eq_true rfl) ⟨by decide, by decide⟩ dX6_copyFrom_49 ?_
  exact s_vret E rfl dX6_copyFrom_52
set_option maxRecDepth 20000 in
theorem C_p_copyFrom (l : Launch) (G : GG)  (m : M) {z : M} (hz : p_copyFrom m = some z) : Ct l G yX6_copyFrom cX6_copyFrom 2 none 3 [.ref (G.2.1 6), .ref (G.2.1 4)] m none z :=
  ct_of (K := KWv) (by decide) (Nat.le_of_ble_eq_true rfl) (congrArg (fun q => Option.bind q _) hz) (fun x hl hn E => (t_p_copyFrom E hn  m))
theorem mdX6_copyFrom : mdq yX6_copyFrom 1 := ⟨by decide, by decide, by decide +kernel⟩
theorem dX0_copyFrom_0 : decode cX0_copyFrom 0 = .ok (.aload_n 0, 1) := by decide +kernel
theorem dX0_copyFrom_1 : decode cX0_copyFrom 1 = .ok (.aload_n 1, 1) := by decide +kernel
theorem dX0_copyFrom_2 : decode cX0_copyFrom 2 = .ok (.getfield 93, 3) := by decide +kernel
theorem dX0_copyFrom_5 : decode cX0_copyFrom 5 = .ok (.putfield 93, 3) := by decide +kernel
theorem dX0_copyFrom_8 : decode cX0_copyFrom 8 = .ok (.aload_n 0, 1) := by decide +kernel
theorem dX0_copyFrom_9 : decode cX0_copyFrom 9 = .ok (.aload_n 1, 1) := by decide +kernel
theorem dX0_copyFrom_10 : decode cX0_copyFrom 10 = .ok (.getfield 9, 3) := by decide +kernel
theorem dX0_copyFrom_13 : decode cX0_copyFrom 13 = .ok (.putfield 9, 3) := by decide +kernel
theorem dX0_copyFrom_16 : decode cX0_copyFrom 16 = .ok (.aload_n 0, 1) := by decide +kernel
theorem dX0_copyFrom_17 : decode cX0_copyFrom 17 = .ok (.aload_n 1, 1) := by decide +kernel
theorem dX0_copyFrom_18 : decode cX0_copyFrom 18 = .ok (.getfield 15, 3) := by decide +kernel
theorem dX0_copyFrom_21 : decode cX0_copyFrom 21 = .ok (.putfield 15, 3) := by decide +kernel
theorem dX0_copyFrom_24 : decode cX0_copyFrom 24 = .ok (.aload_n 0, 1) := by decide +kernel
theorem dX0_copyFrom_25 : decode cX0_copyFrom 25 = .ok (.aload_n 1, 1) := by decide +kernel
theorem dX0_copyFrom_26 : decode cX0_copyFrom 26 = .ok (.getfield 160, 3) := by decide +kernel
theorem dX0_copyFrom_29 : decode cX0_copyFrom 29 = .ok (.putfield 160, 3) := by decide +kernel
theorem dX0_copyFrom_32 : decode cX0_copyFrom 32 = .ok (.aload_n 0, 1) := by decide +kernel
theorem dX0_copyFrom_33 : decode cX0_copyFrom 33 = .ok (.aload_n 1, 1) := by decide +kernel
theorem dX0_copyFrom_34 : decode cX0_copyFrom 34 = .ok (.getfield 188, 3) := by decide +kernel
theorem dX0_copyFrom_37 : decode cX0_copyFrom 37 = .ok (.putfield 188, 3) := by decide +kernel
theorem dX0_copyFrom_40 : decode cX0_copyFrom 40 = .ok (.aload_n 0, 1) := by decide +kernel
theorem dX0_copyFrom_41 : decode cX0_copyFrom 41 = .ok (.aload_n 1, 1) := by decide +kernel
theorem dX0_copyFrom_42 : decode cX0_copyFrom 42 = .ok (.getfield 18, 3) := by decide +kernel
theorem dX0_copyFrom_45 : decode cX0_copyFrom 45 = .ok (.putfield 18, 3) := by decide +kernel
theorem dX0_copyFrom_48 : decode cX0_copyFrom 48 = .ok (.aload_n 0, 1) := by decide +kernel
theorem dX0_copyFrom_49 : decode cX0_copyFrom 49 = .ok (.aload_n 1, 1) := by decide +kernel
theorem dX0_copyFrom_50 : decode cX0_copyFrom 50 = .ok (.getfield 79, 3) := by decide +kernel
theorem dX0_copyFrom_53 : decode cX0_copyFrom 53 = .ok (.putfield 79, 3) := by decide +kernel
theorem dX0_copyFrom_56 : decode cX0_copyFrom 56 = .ok (.aload_n 0, 1) := by decide +kernel
theorem dX0_copyFrom_57 : decode cX0_copyFrom 57 = .ok (.aload_n 1, 1) := by decide +kernel
theorem dX0_copyFrom_58 : decode cX0_copyFrom 58 = .ok (.getfield 86, 3) := by decide +kernel
theorem dX0_copyFrom_61 : decode cX0_copyFrom 61 = .ok (.putfield 86, 3) := by decide +kernel
theorem dX0_copyFrom_64 : decode cX0_copyFrom 64 = .ok (.aload_n 1, 1) := by decide +kernel
theorem dX0_copyFrom_65 : decode cX0_copyFrom 65 = .ok (.getfield 21, 3) := by decide +kernel
theorem dX0_copyFrom_68 : decode cX0_copyFrom 68 = .ok (.aload_n 0, 1) := by decide +kernel
theorem dX0_copyFrom_69 : decode cX0_copyFrom 69 = .ok (.getfield 21, 3) := by decide +kernel
theorem dX0_copyFrom_72 : decode cX0_copyFrom 72 = .ok (.invokestatic 191, 3) := by decide +kernel
theorem dX0_copyFrom_75 : decode cX0_copyFrom 75 = .ok (.aload_n 1, 1) := by decide +kernel
theorem dX0_copyFrom_76 : decode cX0_copyFrom 76 = .ok (.getfield 25, 3) := by decide +kernel
theorem dX0_copyFrom_79 : decode cX0_copyFrom 79 = .ok (.aload_n 0, 1) := by decide +kernel
theorem dX0_copyFrom_80 : decode cX0_copyFrom 80 = .ok (.getfield 25, 3) := by decide +kernel
theorem dX0_copyFrom_83 : decode cX0_copyFrom 83 = .ok (.invokestatic 191, 3) := by decide +kernel
theorem dX0_copyFrom_86 : decode cX0_copyFrom 86 = .ok (.aload_n 1, 1) := by decide +kernel
theorem dX0_copyFrom_87 : decode cX0_copyFrom 87 = .ok (.getfield 28, 3) := by decide +kernel
theorem dX0_copyFrom_90 : decode cX0_copyFrom 90 = .ok (.aload_n 0, 1) := by decide +kernel
theorem dX0_copyFrom_91 : decode cX0_copyFrom 91 = .ok (.getfield 28, 3) := by decide +kernel
theorem dX0_copyFrom_94 : decode cX0_copyFrom 94 = .ok (.invokestatic 191, 3) := by decide +kernel
theorem dX0_copyFrom_97 : decode cX0_copyFrom 97 = .ok (.aload_n 1, 1) := by decide +kernel
theorem dX0_copyFrom_98 : decode cX0_copyFrom 98 = .ok (.getfield 31, 3) := by decide +kernel
theorem dX0_copyFrom_101 : decode cX0_copyFrom 101 = .ok (.aload_n 0, 1) := by decide +kernel
theorem dX0_copyFrom_102 : decode cX0_copyFrom 102 = .ok (.getfield 31, 3) := by decide +kernel
theorem dX0_copyFrom_105 : decode cX0_copyFrom 105 = .ok (.invokestatic 191, 3) := by decide +kernel
theorem dX0_copyFrom_108 : decode cX0_copyFrom 108 = .ok (.aload_n 1, 1) := by decide +kernel
theorem dX0_copyFrom_109 : decode cX0_copyFrom 109 = .ok (.getfield 34, 3) := by decide +kernel
theorem dX0_copyFrom_112 : decode cX0_copyFrom 112 = .ok (.aload_n 0, 1) := by decide +kernel
theorem dX0_copyFrom_113 : decode cX0_copyFrom 113 = .ok (.getfield 34, 3) := by decide +kernel
theorem dX0_copyFrom_116 : decode cX0_copyFrom 116 = .ok (.invokestatic 191, 3) := by decide +kernel
theorem dX0_copyFrom_119 : decode cX0_copyFrom 119 = .ok (.aload_n 1, 1) := by decide +kernel
theorem dX0_copyFrom_120 : decode cX0_copyFrom 120 = .ok (.getfield 37, 3) := by decide +kernel
theorem dX0_copyFrom_123 : decode cX0_copyFrom 123 = .ok (.aload_n 0, 1) := by decide +kernel
theorem dX0_copyFrom_124 : decode cX0_copyFrom 124 = .ok (.getfield 37, 3) := by decide +kernel
theorem dX0_copyFrom_127 : decode cX0_copyFrom 127 = .ok (.invokestatic 191, 3) := by decide +kernel
theorem dX0_copyFrom_130 : decode cX0_copyFrom 130 = .ok (.aload_n 1, 1) := by decide +kernel
theorem dX0_copyFrom_131 : decode cX0_copyFrom 131 = .ok (.getfield 40, 3) := by decide +kernel
theorem dX0_copyFrom_134 : decode cX0_copyFrom 134 = .ok (.aload_n 0, 1) := by decide +kernel
theorem dX0_copyFrom_135 : decode cX0_copyFrom 135 = .ok (.getfield 40, 3) := by decide +kernel
theorem dX0_copyFrom_138 : decode cX0_copyFrom 138 = .ok (.invokestatic 191, 3) := by decide +kernel
theorem dX0_copyFrom_141 : decode cX0_copyFrom 141 = .ok (.aload_n 0, 1) := by decide +kernel
theorem dX0_copyFrom_142 : decode cX0_copyFrom 142 = .ok (.getfield 46, 3) := by decide +kernel
theorem dX0_copyFrom_145 : decode cX0_copyFrom 145 = .ok (.aload_n 1, 1) := by decide +kernel
theorem dX0_copyFrom_146 : decode cX0_copyFrom 146 = .ok (.getfield 46, 3) := by decide +kernel
theorem dX0_copyFrom_149 : decode cX0_copyFrom 149 = .ok (.invokevirtual 195, 3) := by decide +kernel
theorem dX0_copyFrom_152 : decode cX0_copyFrom 152 = .ok (.aload_n 0, 1) := by decide +kernel
theorem dX0_copyFrom_153 : decode cX0_copyFrom 153 = .ok (.getfield 53, 3) := by decide +kernel
theorem dX0_copyFrom_156 : decode cX0_copyFrom 156 = .ok (.aload_n 1, 1) := by decide +kernel
theorem dX0_copyFrom_157 : decode cX0_copyFrom 157 = .ok (.getfield 53, 3) := by decide +kernel
theorem dX0_copyFrom_160 : decode cX0_copyFrom 160 = .ok (.invokevirtual 199, 3) := by decide +kernel
theorem dX0_copyFrom_163 : decode cX0_copyFrom 163 = .ok (.return_, 1) := by decide +kernel
def b_copyFrom  (m : M) : Option (M) :=
  lt (wrF m 2 0 (m 1 0)) (fun m1 => lt (wrF m1 2 1 (m1 1 1)) (fun m2 => lt (wrF m2 2 2 (m2 1 2)) (fun m3 => lt (wrF m3 2 3 (m3 1 3)) (fun m4 => lt (wrF m4 2 4 (m4 1 4)) (fun m5 => lt (wrF m5 2 5 (m5 1 5)) (fun m6 => lt (wrF m6 2 6 (m6 1 6)) (fun m7 => lt (wrF m7 2 7 (m7 1 7)) (fun m8 => Option.bind (b_copy 10 18 m8) (fun m9 => Option.bind (b_copy 11 19 m9) (fun m10 => Option.bind (b_copy 12 20 m10) (fun m11 => Option.bind (b_copy 13 21 m11) (fun m12 => Option.bind (b_copy 14 22 m12) (fun m13 => Option.bind (b_copy 15 23 m13) (fun m14 => Option.bind (b_copy 16 24 m14) (fun m15 => Option.bind (u_copyFrom_5_3 m15) (fun m16 => Option.bind (p_copyFrom m16) (fun m17 => some m17)))))))))))))))))
set_option maxRecDepth 20000 in
theorem t_b_copyFrom {G : GG} {x : Cx} (E : En G x cX0_copyFrom "WreckBoard$Board" 4 none) (hn : xn x = 2)  (m : M) : Sm G x 0 [(0, .ref (G.2.1 2)), (1, .ref (G.2.1 1))] [] m (b_copyFrom m) KWv := by
  unfold b_copyFrom
  refine s_aload_n 0 E dX0_copyFrom_0 rfl rfl ?_
  refine s_aload_n 1 E dX0_copyFrom_1 rfl rfl ?_
  refine s_geti (k := 0) (T := TX0) 1 E rfl rfl rfl inX0 (by decide) W222 dX0_copyFrom_2 ?_
  refine s_put (k := 0) (T := TX0) (ty := .int) 2 E rfl rfl rfl inX0 tyX0 tyX0_ok nmX0 (by decide) W222 rfl (by decide +kernel) rfl rfl dX0_copyFrom_5 ?_
  refine s_ltm rfl (fun m1 => ?_)
  refine s_aload_n 0 E dX0_copyFrom_8 rfl rfl ?_
  refine s_aload_n 1 E dX0_copyFrom_9 rfl rfl ?_
  refine s_geti (k := 1) (T := TX0) 1 E rfl rfl rfl inX0 (by decide) W225 dX0_copyFrom_10 ?_
  refine s_put (k := 1) (T := TX0) (ty := .int) 2 E rfl rfl rfl inX0 tyX0 tyX0_ok nmX0 (by decide) W225 rfl (by decide +kernel) rfl rfl dX0_copyFrom_13 ?_
  refine s_ltm rfl (fun m2 => ?_)
  refine s_aload_n 0 E dX0_copyFrom_16 rfl rfl ?_
  refine s_aload_n 1 E dX0_copyFrom_17 rfl rfl ?_
  refine s_geti (k := 2) (T := TX0) 1 E rfl rfl rfl inX0 (by decide) W227 dX0_copyFrom_18 ?_
  refine s_put (k := 2) (T := TX0) (ty := .int) 2 E rfl rfl rfl inX0 tyX0 tyX0_ok nmX0 (by decide) W227 rfl (by decide +kernel) rfl rfl dX0_copyFrom_21 ?_
  refine s_ltm rfl (fun m3 => ?_)
  refine s_aload_n 0 E dX0_copyFrom_24 rfl rfl ?_
  refine s_aload_n 1 E dX0_copyFrom_25 rfl rfl ?_
  refine s_geti (k := 3) (T := TX0) 1 E rfl rfl rfl inX0 (by decide) W231 dX0_copyFrom_26 ?_
  refine s_put (k := 3) (T := TX0) (ty := .int) 2 E rfl rfl rfl inX0 tyX0 tyX0_ok nmX0 (by decide) W231 rfl (by decide +kernel) rfl rfl dX0_copyFrom_29 ?_
  refine s_ltm rfl (fun m4 => ?_)
  refine s_aload_n 0 E dX0_copyFrom_32 rfl rfl ?_
  refine s_aload_n 1 E dX0_copyFrom_33 rfl rfl ?_
  refine s_geti (k := 4) (T := TX0) 1 E rfl rfl rfl inX0 (by decide) W233 dX0_copyFrom_34 ?_
  refine s_put (k := 4) (T := TX0) (ty := .int) 2 E rfl rfl rfl inX0 tyX0 tyX0_ok nmX0 (by decide) W233 rfl (by decide +kernel) rfl rfl dX0_copyFrom_37 ?_
  refine s_ltm rfl (fun m5 => ?_)
  refine s_aload_n 0 E dX0_copyFrom_40 rfl rfl ?_
  refine s_aload_n 1 E dX0_copyFrom_41 rfl rfl ?_
  refine s_geti (k := 5) (T := TX0) 1 E rfl rfl rfl inX0 (by decide) W234 dX0_copyFrom_42 ?_
  refine s_put (k := 5) (T := TX0) (ty := .int) 2 E rfl rfl rfl inX0 tyX0 tyX0_ok nmX0 (by decide) W234 rfl (by decide +kernel) rfl rfl dX0_copyFrom_45 ?_
  refine s_ltm rfl (fun m6 => ?_)
  refine s_aload_n 0 E dX0_copyFrom_48 rfl rfl ?_
  refine s_aload_n 1 E dX0_copyFrom_49 rfl rfl ?_
  refine s_geti (k := 6) (T := TX0) 1 E rfl rfl rfl inX0 (by decide) W236 dX0_copyFrom_50 ?_
  refine s_put (k := 6) (T := TX0) (ty := .int) 2 E rfl rfl rfl inX0 tyX0 tyX0_ok nmX0 (by decide) W236 rfl (by decide +kernel) rfl rfl dX0_copyFrom_53 ?_
  refine s_ltm rfl (fun m7 => ?_)
  refine s_aload_n 0 E dX0_copyFrom_56 rfl rfl ?_
  refine s_aload_n 1 E dX0_copyFrom_57 rfl rfl ?_
  refine s_geti (k := 7) (T := TX0) 1 E rfl rfl rfl inX0 (by decide) W238 dX0_copyFrom_58 ?_
  refine s_put (k := 7) (T := TX0) (ty := .int) 2 E rfl rfl rfl inX0 tyX0 tyX0_ok nmX0 (by decide) W238 rfl (by decide +kernel) rfl rfl dX0_copyFrom_61 ?_
  refine s_ltm rfl (fun m8 => ?_)
  refine s_aload_n 1 E dX0_copyFrom_64 rfl rfl ?_
  refine s_getr (k := 9) (T := TX0) 1 E rfl rfl rfl inX0 (by decide) W242 dX0_copyFrom_65 ?_
  refine s_aload_n 0 E dX0_copyFrom_68 rfl rfl ?_
  refine s_getr (k := 9) (T := TX0) 2 E rfl rfl rfl inX0 (by decide) W242 dX0_copyFrom_69 ?_
  refine s_bd (fun m9 hz => ?_)
  refine s_cS (rest := []) E (C_b_copy (xl x) G 10 18 m8 hz) mdX0_copy W1222 W781 W92 W782 rfl rfl (Nat.le_of_ble_eq_true rfl) ⟨by decide, by decide⟩ dX0_copyFrom_72 ?_
  refine s_aload_n 1 E dX0_copyFrom_75 rfl rfl ?_
  refine s_getr (k := 10) (T := TX0) 1 E rfl rfl rfl inX0 (by decide) W244 dX0_copyFrom_76 ?_
  refine s_aload_n 0 E dX0_copyFrom_79 rfl rfl ?_
  refine s_getr (k := 10) (T := TX0) 2 E rfl rfl rfl inX0 (by decide) W244 dX0_copyFrom_80 ?_
  refine s_bd (fun m10 hz => ?_)
  refine s_cS (rest := []) E (C_b_copy (xl x) G 11 19 m9 hz) mdX0_copy W1222 W781 W92 W782 rfl rfl (Nat.le_of_ble_eq_true rfl) ⟨by decide, by decide⟩ dX0_copyFrom_83 ?_
  refine s_aload_n 1 E dX0_copyFrom_86 rfl rfl ?_
  refine s_getr (k := 11) (T := TX0) 1 E rfl rfl rfl inX0 (by decide) W247 dX0_copyFrom_87 ?_
  refine s_aload_n 0 E dX0_copyFrom_90 rfl rfl ?_
  refine s_getr (k := 11) (T := TX0) 2 E rfl rfl rfl inX0 (by decide) W247 dX0_copyFrom_91 ?_
  refine s_bd (fun m11 hz => ?_)
  refine s_cS (rest := []) E (C_b_copy (xl x) G 12 20 m10 hz) mdX0_copy W1222 W781 W92 W782 rfl rfl (Nat.le_of_ble_eq_true rfl) ⟨by decide, by decide⟩ dX0_copyFrom_94 ?_
  refine s_aload_n 1 E dX0_copyFrom_97 rfl rfl ?_
  refine s_getr (k := 12) (T := TX0) 1 E rfl rfl rfl inX0 (by decide) W250 dX0_copyFrom_98 ?_
  refine s_aload_n 0 E dX0_copyFrom_101 rfl rfl ?_
  refine s_getr (k := 12) (T := TX0) 2 E rfl rfl rfl inX0 (by decide) W250 dX0_copyFrom_102 ?_
  refine s_bd (fun m12 hz => ?_)
  refine s_cS (rest := []) E (C_b_copy (xl x) G 13 21 m11 hz) mdX0_copy W1222 W781 W92 W782 rfl rfl (Nat.le_of_ble_eq_true rfl) ⟨by decide, by decide⟩ dX0_copyFrom_105 ?_
  refine s_aload_n 1 E dX0_copyFrom_108 rfl rfl ?_
  refine s_getr (k := 13) (T := TX0) 1 E rfl rfl rfl inX0 (by decide) W252 dX0_copyFrom_109 ?_
  refine s_aload_n 0 E dX0_copyFrom_112 rfl rfl ?_
  refine s_getr (k := 13) (T := TX0) 2 E rfl rfl rfl inX0 (by decide) W252 dX0_copyFrom_113 ?_
  refine s_bd (fun m13 hz => ?_)
  refine s_cS (rest := []) E (C_b_copy (xl x) G 14 22 m12 hz) mdX0_copy W1222 W781 W92 W782 rfl rfl (Nat.le_of_ble_eq_true rfl) ⟨by decide, by decide⟩ dX0_copyFrom_116 ?_
  refine s_aload_n 1 E dX0_copyFrom_119 rfl rfl ?_
  refine s_getr (k := 14) (T := TX0) 1 E rfl rfl rfl inX0 (by decide) W254 dX0_copyFrom_120 ?_
  refine s_aload_n 0 E dX0_copyFrom_123 rfl rfl ?_
  refine s_getr (k := 14) (T := TX0) 2 E rfl rfl rfl inX0 (by decide) W254 dX0_copyFrom_124 ?_
  refine s_bd (fun m14 hz => ?_)
  refine s_cS (rest := []) E (C_b_copy (xl x) G 15 23 m13 hz) mdX0_copy W1222 W781 W92 W782 rfl rfl (Nat.le_of_ble_eq_true rfl) ⟨by decide, by decide⟩ dX0_copyFrom_127 ?_
  refine s_aload_n 1 E dX0_copyFrom_130 rfl rfl ?_
  refine s_getr (k := 15) (T := TX0) 1 E rfl rfl rfl inX0 (by decide) W256 dX0_copyFrom_131 ?_
  refine s_aload_n 0 E dX0_copyFrom_134 rfl rfl ?_
  refine s_getr (k := 15) (T := TX0) 2 E rfl rfl rfl inX0 (by decide) W256 dX0_copyFrom_135 ?_
  refine s_bd (fun m15 hz => ?_)
  refine s_cS (rest := []) E (C_b_copy (xl x) G 16 24 m14 hz) mdX0_copy W1222 W781 W92 W782 rfl rfl (Nat.le_of_ble_eq_true rfl) ⟨by decide, by decide⟩ dX0_copyFrom_138 ?_
  refine s_aload_n 0 E dX0_copyFrom_141 rfl rfl ?_
  refine s_getr (k := 16) (T := TX0) 2 E rfl rfl rfl inX0 (by decide) W258 dX0_copyFrom_142 ?_
  refine s_aload_n 1 E dX0_copyFrom_145 rfl rfl ?_
  refine s_getr (k := 16) (T := TX0) 1 E rfl rfl rfl inX0 (by decide) W258 dX0_copyFrom_146 ?_
  refine s_bd (fun m16 hz => ?_)
  refine s_cV (rest := []) E (C_u_copyFrom_5_3 (xl x) G  m15 hz) mdX7_copyFrom W1223 W777 W778 W93 W779 rfl rfl rfl rfl (Nat.le_of_ble_eq_true rfl) ⟨by decide, by decide⟩ dX0_copyFrom_149 ?_
  refine s_aload_n 0 E dX0_copyFrom_152 rfl rfl ?_
  refine s_getr (k := 17) (T := TX0) 2 E rfl rfl rfl inX0 (by decide) W260 dX0_copyFrom_153 ?_
  refine s_aload_n 1 E dX0_copyFrom_156 rfl rfl ?_
  refine s_getr (k := 17) (T := TX0) 1 E rfl rfl rfl inX0 (by decide) W260 dX0_copyFrom_157 ?_
  refine s_bd (fun m17 hz => ?_)
  refine s_cV (rest := []) E (C_p_copyFrom (xl x) G  m16 hz) mdX6_copyFrom W1224 W1225 W1226 W94 W1227 rfl rfl rfl rfl (Nat.le_of_ble_eq_true rfl) ⟨by decide, by decide⟩ dX0_copyFrom_160 ?_
  exact s_vret E rfl dX0_copyFrom_163
set_option maxRecDepth 20000 in
theorem C_b_copyFrom (l : Launch) (G : GG)  (m : M) {z : M} (hz : b_copyFrom m = some z) : Ct l G yX0_copyFrom cX0_copyFrom 2 none 4 [.ref (G.2.1 2), .ref (G.2.1 1)] m none z :=
  ct_of (K := KWv) (by decide) (Nat.le_of_ble_eq_true rfl) (congrArg (fun q => Option.bind q _) hz) (fun x hl hn E => (t_b_copyFrom E hn  m))
theorem mdX0_copyFrom : mdq yX0_copyFrom 1 := ⟨by decide, by decide, by decide +kernel⟩
theorem dX11_keep_0 : decode cX11_keep 0 = .ok (.aload_n 0, 1) := by decide +kernel
theorem dX11_keep_1 : decode cX11_keep 1 = .ok (.getfield 16, 3) := by decide +kernel
theorem dX11_keep_4 : decode cX11_keep 4 = .ok (.aload_n 0, 1) := by decide +kernel
theorem dX11_keep_5 : decode cX11_keep 5 = .ok (.getfield 12, 3) := by decide +kernel
theorem dX11_keep_8 : decode cX11_keep 8 = .ok (.invokevirtual 373, 3) := by decide +kernel
theorem dX11_keep_11 : decode cX11_keep 11 = .ok (.aload_n 0, 1) := by decide +kernel
theorem dX11_keep_12 : decode cX11_keep 12 = .ok (.iconst 1, 1) := by decide +kernel
theorem dX11_keep_13 : decode cX11_keep 13 = .ok (.putfield 376, 3) := by decide +kernel
theorem dX11_keep_16 : decode cX11_keep 16 = .ok (.iconst 1, 1) := by decide +kernel
theorem dX11_keep_17 : decode cX11_keep 17 = .ok (.ireturn, 1) := by decide +kernel
def k_keep  (m : M) : Option (Int32 × M) :=
  Option.bind (b_copyFrom m) (fun m1 => lt (wrF m1 0 2 (1 : Int32)) (fun m2 => some ((1 : Int32), m2)))
set_option maxRecDepth 20000 in
theorem t_k_keep {G : GG} {x : Cx} (E : En G x cX11_keep "WreckBoard" 5 (some .int)) (hn : xn x = 1)  (m : M) : Sm G x 0 [(0, .ref (G.2.1 0))] [] m (k_keep m) KWi := by
  unfold k_keep
  refine s_aload_n 0 E dX11_keep_0 rfl rfl ?_
  refine s_getr (k := 1) (T := TX11) 0 E rfl rfl rfl inX11 (by decide) W361 dX11_keep_1 ?_
  refine s_aload_n 0 E dX11_keep_4 rfl rfl ?_
  refine s_getr (k := 0) (T := TX11) 0 E rfl rfl rfl inX11 (by decide) W360 dX11_keep_5 ?_
  refine s_bd (fun m1 hz => ?_)
  refine s_cV (rest := []) E (C_b_copyFrom (xl x) G  m hz) mdX0_copyFrom W1218 W1219 W1220 W92 W1221 rfl rfl rfl rfl (Nat.le_of_ble_eq_true rfl) ⟨by decide, by decide⟩ dX11_keep_8 ?_
  refine s_aload_n 0 E dX11_keep_11 rfl rfl ?_
  refine s_iconst (v := (1 : Int32)) E dX11_keep_12 (by decide) ?_
  refine s_put (k := 2) (T := TX11) (ty := .boolean) 0 E rfl rfl rfl inX11 tyX11 tyX11_ok nmX11 (by decide) W362 rfl (by decide +kernel) (by decide) (by decide) dX11_keep_13 ?_
  refine s_ltm rfl (fun m2 => ?_)
  refine s_iconst (v := (1 : Int32)) E dX11_keep_16 (by decide) ?_
  exact s_iret E rfl dX11_keep_17
set_option maxRecDepth 20000 in
theorem C_k_keep (l : Launch) (G : GG)  (m : M) {z : Int32 × M} (hz : k_keep m = some z) : Ct l G yX11_keep cX11_keep 1 (some .int) 5 [.ref (G.2.1 0)] m (some (.int z.1)) z.2 :=
  ct_of (K := KWi) (by decide) (Nat.le_of_ble_eq_true rfl) (congrArg (fun q => Option.bind q _) hz) (fun x hl hn E => (t_k_keep E hn  m))
def u_copyFrom_3_5  (m : M) : Option (M) :=
  lt (wrF m 3 0 (m 5 0)) (fun m1 => lt (wrF m1 3 5 (m1 5 5)) (fun m2 => Option.bind (b_copy 34 26 m2) (fun m3 => Option.bind (b_copy 35 27 m3) (fun m4 => Option.bind (b_copy 36 28 m4) (fun m5 => Option.bind (b_copy 37 29 m5) (fun m6 => some m6))))))
set_option maxRecDepth 20000 in
theorem t_u_copyFrom_3_5 {G : GG} {x : Cx} (E : En G x cX7_copyFrom "WreckBoard$Rules" 3 none) (hn : xn x = 2)  (m : M) : Sm G x 0 [(0, .ref (G.2.1 3)), (1, .ref (G.2.1 5))] [] m (u_copyFrom_3_5 m) KWv := by
  unfold u_copyFrom_3_5
  refine s_aload_n 0 E dX7_copyFrom_0 rfl rfl ?_
  refine s_aload_n 1 E dX7_copyFrom_1 rfl rfl ?_
  refine s_geti (k := 0) (T := TX7) 5 E rfl rfl rfl inX7 (by decide) W132 dX7_copyFrom_2 ?_
  refine s_put (k := 0) (T := TX7) (ty := .int) 3 E rfl rfl rfl inX7 tyX7 tyX7_ok nmX7 (by decide) W132 rfl (by decide +kernel) rfl rfl dX7_copyFrom_5 ?_
  refine s_ltm rfl (fun m1 => ?_)
  refine s_aload_n 0 E dX7_copyFrom_8 rfl rfl ?_
  refine s_aload_n 1 E dX7_copyFrom_9 rfl rfl ?_
  refine s_geti (k := 5) (T := TX7) 5 E rfl rfl rfl inX7 (by decide) W141 dX7_copyFrom_10 ?_
  refine s_put (k := 5) (T := TX7) (ty := .int) 3 E rfl rfl rfl inX7 tyX7 tyX7_ok nmX7 (by decide) W141 rfl (by decide +kernel) rfl rfl dX7_copyFrom_13 ?_
  refine s_ltm rfl (fun m2 => ?_)
  refine s_aload_n 1 E dX7_copyFrom_16 rfl rfl ?_
  refine s_getr (k := 1) (T := TX7) 5 E rfl rfl rfl inX7 (by decide) W135 dX7_copyFrom_17 ?_
  refine s_aload_n 0 E dX7_copyFrom_20 rfl rfl ?_
  refine s_getr (k := 1) (T := TX7) 3 E rfl rfl rfl inX7 (by decide) W135 dX7_copyFrom_21 ?_
  refine s_bd (fun m3 hz => ?_)
  refine s_cS (rest := []) E (C_b_copy (xl x) G 34 26 m2 hz) mdX0_copy W780 W781 W92 W782 rfl rfl (Nat.le_of_ble_eq_true rfl) ⟨by decide, by decide⟩ dX7_copyFrom_24 ?_
  refine s_aload_n 1 E dX7_copyFrom_27 rfl rfl ?_
  refine s_getr (k := 2) (T := TX7) 5 E rfl rfl rfl inX7 (by decide) W137 dX7_copyFrom_28 ?_
  refine s_aload_n 0 E dX7_copyFrom_31 rfl rfl ?_
  refine s_getr (k := 2) (T := TX7) 3 E rfl rfl rfl inX7 (by decide) W137 dX7_copyFrom_32 ?_
  refine s_bd (fun m4 hz => ?_)
  refine s_cS (rest := []) E (C_b_copy (xl x) G 35 27 m3 hz) mdX0_copy W780 W781 W92 W782 rfl rfl (Nat.le_of_ble_eq_true rfl) ⟨by decide, by decide⟩ dX7_copyFrom_35 ?_
  refine s_aload_n 1 E dX7_copyFrom_38 rfl rfl ?_
  refine s_getr (k := 3) (T := TX7) 5 E rfl rfl rfl inX7 (by decide) W139 dX7_copyFrom_39 ?_
  refine s_aload_n 0 E dX7_copyFrom_42 rfl rfl ?_
  refine s_getr (k := 3) (T := TX7) 3 E rfl rfl rfl inX7 (by decide) W139 dX7_copyFrom_43 ?_
  refine s_bd (fun m5 hz => ?_)
  refine s_cS (rest := []) E (C_b_copy (xl x) G 36 28 m4 hz) mdX0_copy W780 W781 W92 W782 rfl rfl (Nat.le_of_ble_eq_true rfl) ⟨by decide, by decide⟩ dX7_copyFrom_46 ?_
  refine s_aload_n 1 E dX7_copyFrom_49 rfl rfl ?_
  refine s_getr (k := 4) (T := TX7) 5 E rfl rfl rfl inX7 (by decide) W140 dX7_copyFrom_50 ?_
  refine s_aload_n 0 E dX7_copyFrom_53 rfl rfl ?_
  refine s_getr (k := 4) (T := TX7) 3 E rfl rfl rfl inX7 (by decide) W140 dX7_copyFrom_54 ?_
  refine s_bd (fun m6 hz => ?_)
  refine s_cS (rest := []) E (C_b_copy (xl x) G 37 29 m5 hz) mdX0_copy W780 W781 W92 W782 rfl rfl (Nat.le_of_ble_eq_true rfl) ⟨by decide, by decide⟩ dX7_copyFrom_57 ?_
  exact s_vret E rfl dX7_copyFrom_60
set_option maxRecDepth 20000 in
theorem C_u_copyFrom_3_5 (l : Launch) (G : GG)  (m : M) {z : M} (hz : u_copyFrom_3_5 m = some z) : Ct l G yX7_copyFrom cX7_copyFrom 2 none 3 [.ref (G.2.1 3), .ref (G.2.1 5)] m none z :=
  ct_of (K := KWv) (by decide) (Nat.le_of_ble_eq_true rfl) (congrArg (fun q => Option.bind q _) hz) (fun x hl hn E => (t_u_copyFrom_3_5 E hn  m))
def p_copyFrom_4_6  (m : M) : Option (M) :=
  lt (wrF m 4 0 (m 6 0)) (fun m1 => Option.bind (b_copy 38 30 m1) (fun m2 => Option.bind (b_copy 39 31 m2) (fun m3 => Option.bind (b_copy 40 32 m3) (fun m4 => Option.bind (b_copy 41 33 m4) (fun m5 => some m5)))))
set_option maxRecDepth 20000 in
theorem t_p_copyFrom_4_6 {G : GG} {x : Cx} (E : En G x cX6_copyFrom "WreckBoard$Reports" 3 none) (hn : xn x = 2)  (m : M) : Sm G x 0 [(0, .ref (G.2.1 4)), (1, .ref (G.2.1 6))] [] m (p_copyFrom_4_6 m) KWv := by
  unfold p_copyFrom_4_6
  refine s_aload_n 0 E dX6_copyFrom_0 rfl rfl ?_
  refine s_aload_n 1 E dX6_copyFrom_1 rfl rfl ?_
  refine s_geti (k := 0) (T := TX6) 6 E rfl rfl rfl inX6 (by decide) W162 dX6_copyFrom_2 ?_
  refine s_put (k := 0) (T := TX6) (ty := .int) 4 E rfl rfl rfl inX6 tyX6 tyX6_ok nmX6 (by decide) W162 rfl (by decide +kernel) rfl rfl dX6_copyFrom_5 ?_
  refine s_ltm rfl (fun m1 => ?_)
  refine s_aload_n 1 E dX6_copyFrom_8 rfl rfl ?_
  refine s_getr (k := 1) (T := TX6) 6 E rfl rfl rfl inX6 (by decide) W164 dX6_copyFrom_9 ?_
  refine s_aload_n 0 E dX6_copyFrom_12 rfl rfl ?_
  refine s_getr (k := 1) (T := TX6) 4 E rfl rfl rfl inX6 (by decide) W164 dX6_copyFrom_13 ?_
  refine s_bd (fun m2 hz => ?_)
  refine s_cS (rest := []) E (C_b_copy (xl x) G 38 30 m1 hz) mdX0_copy W1228 W781 W92 W782 rfl rfl (Nat.le_of_ble_eq_true rfl) ⟨by decide, by decide⟩ dX6_copyFrom_16 ?_
  refine s_aload_n 1 E dX6_copyFrom_19 rfl rfl ?_
  refine s_getr (k := 2) (T := TX6) 6 E rfl rfl rfl inX6 (by decide) W165 dX6_copyFrom_20 ?_
  refine s_aload_n 0 E dX6_copyFrom_23 rfl rfl ?_
  refine s_getr (k := 2) (T := TX6) 4 E rfl rfl rfl inX6 (by decide) W165 dX6_copyFrom_24 ?_
  refine s_bd (fun m3 hz => ?_)
  refine s_cS (rest := []) E (C_b_copy (xl x) G 39 31 m2 hz) mdX0_copy W1228 W781 W92 W782 rfl rfl (Nat.le_of_ble_eq_true rfl) ⟨by decide, by decide⟩ dX6_copyFrom_27 ?_
  refine s_aload_n 1 E dX6_copyFrom_30 rfl rfl ?_
  refine s_getr (k := 3) (T := TX6) 6 E rfl rfl rfl inX6 (by decide) W166 dX6_copyFrom_31 ?_
  refine s_aload_n 0 E dX6_copyFrom_34 rfl rfl ?_
  refine s_getr (k := 3) (T := TX6) 4 E rfl rfl rfl inX6 (by decide) W166 dX6_copyFrom_35 ?_
  refine s_bd (fun m4 hz => ?_)
  refine s_cS (rest := []) E (C_b_copy (xl x) G 40 32 m3 hz) mdX0_copy W1228 W781 W92 W782 rfl rfl (Nat.le_of_ble_eq_true rfl) ⟨by decide, by decide⟩ dX6_copyFrom_38 ?_
  refine s_aload_n 1 E dX6_copyFrom_41 rfl rfl ?_
  refine s_getr (k := 4) (T := TX6) 6 E rfl rfl rfl inX6 (by decide) W167 dX6_copyFrom_42 ?_
  refine s_aload_n 0 E dX6_copyFrom_45 rfl rfl ?_
  refine s_getr (k := 4) (T := TX6) 4 E rfl rfl rfl inX6 (by decide) W167 dX6_copyFrom_46 ?_
  refine s_bd (fun m5 hz => ?_)
  refine s_cS (rest := []) E (C_b_copy (xl x) G 41 33 m4 hz) mdX0_copy W1228 W781 W92 W782 rfl rfl (Nat.le_of_ble_eq_true rfl) ⟨by decide, by decide⟩ dX6_copyFrom_49 ?_
  exact s_vret E rfl dX6_copyFrom_52
set_option maxRecDepth 20000 in
theorem C_p_copyFrom_4_6 (l : Launch) (G : GG)  (m : M) {z : M} (hz : p_copyFrom_4_6 m = some z) : Ct l G yX6_copyFrom cX6_copyFrom 2 none 3 [.ref (G.2.1 4), .ref (G.2.1 6)] m none z :=
  ct_of (K := KWv) (by decide) (Nat.le_of_ble_eq_true rfl) (congrArg (fun q => Option.bind q _) hz) (fun x hl hn E => (t_p_copyFrom_4_6 E hn  m))
def b_copyFrom_1_2  (m : M) : Option (M) :=
  lt (wrF m 1 0 (m 2 0)) (fun m1 => lt (wrF m1 1 1 (m1 2 1)) (fun m2 => lt (wrF m2 1 2 (m2 2 2)) (fun m3 => lt (wrF m3 1 3 (m3 2 3)) (fun m4 => lt (wrF m4 1 4 (m4 2 4)) (fun m5 => lt (wrF m5 1 5 (m5 2 5)) (fun m6 => lt (wrF m6 1 6 (m6 2 6)) (fun m7 => lt (wrF m7 1 7 (m7 2 7)) (fun m8 => Option.bind (b_copy 18 10 m8) (fun m9 => Option.bind (b_copy 19 11 m9) (fun m10 => Option.bind (b_copy 20 12 m10) (fun m11 => Option.bind (b_copy 21 13 m11) (fun m12 => Option.bind (b_copy 22 14 m12) (fun m13 => Option.bind (b_copy 23 15 m13) (fun m14 => Option.bind (b_copy 24 16 m14) (fun m15 => Option.bind (u_copyFrom_3_5 m15) (fun m16 => Option.bind (p_copyFrom_4_6 m16) (fun m17 => some m17)))))))))))))))))
set_option maxRecDepth 20000 in
theorem t_b_copyFrom_1_2 {G : GG} {x : Cx} (E : En G x cX0_copyFrom "WreckBoard$Board" 4 none) (hn : xn x = 2)  (m : M) : Sm G x 0 [(0, .ref (G.2.1 1)), (1, .ref (G.2.1 2))] [] m (b_copyFrom_1_2 m) KWv := by
  unfold b_copyFrom_1_2
  refine s_aload_n 0 E dX0_copyFrom_0 rfl rfl ?_
  refine s_aload_n 1 E dX0_copyFrom_1 rfl rfl ?_
  refine s_geti (k := 0) (T := TX0) 2 E rfl rfl rfl inX0 (by decide) W222 dX0_copyFrom_2 ?_
  refine s_put (k := 0) (T := TX0) (ty := .int) 1 E rfl rfl rfl inX0 tyX0 tyX0_ok nmX0 (by decide) W222 rfl (by decide +kernel) rfl rfl dX0_copyFrom_5 ?_
  refine s_ltm rfl (fun m1 => ?_)
  refine s_aload_n 0 E dX0_copyFrom_8 rfl rfl ?_
  refine s_aload_n 1 E dX0_copyFrom_9 rfl rfl ?_
  refine s_geti (k := 1) (T := TX0) 2 E rfl rfl rfl inX0 (by decide) W225 dX0_copyFrom_10 ?_
  refine s_put (k := 1) (T := TX0) (ty := .int) 1 E rfl rfl rfl inX0 tyX0 tyX0_ok nmX0 (by decide) W225 rfl (by decide +kernel) rfl rfl dX0_copyFrom_13 ?_
  refine s_ltm rfl (fun m2 => ?_)
  refine s_aload_n 0 E dX0_copyFrom_16 rfl rfl ?_
  refine s_aload_n 1 E dX0_copyFrom_17 rfl rfl ?_
  refine s_geti (k := 2) (T := TX0) 2 E rfl rfl rfl inX0 (by decide) W227 dX0_copyFrom_18 ?_
  refine s_put (k := 2) (T := TX0) (ty := .int) 1 E rfl rfl rfl inX0 tyX0 tyX0_ok nmX0 (by decide) W227 rfl (by decide +kernel) rfl rfl dX0_copyFrom_21 ?_
  refine s_ltm rfl (fun m3 => ?_)
  refine s_aload_n 0 E dX0_copyFrom_24 rfl rfl ?_
  refine s_aload_n 1 E dX0_copyFrom_25 rfl rfl ?_
  refine s_geti (k := 3) (T := TX0) 2 E rfl rfl rfl inX0 (by decide) W231 dX0_copyFrom_26 ?_
  refine s_put (k := 3) (T := TX0) (ty := .int) 1 E rfl rfl rfl inX0 tyX0 tyX0_ok nmX0 (by decide) W231 rfl (by decide +kernel) rfl rfl dX0_copyFrom_29 ?_
  refine s_ltm rfl (fun m4 => ?_)
  refine s_aload_n 0 E dX0_copyFrom_32 rfl rfl ?_
  refine s_aload_n 1 E dX0_copyFrom_33 rfl rfl ?_
  refine s_geti (k := 4) (T := TX0) 2 E rfl rfl rfl inX0 (by decide) W233 dX0_copyFrom_34 ?_
  refine s_put (k := 4) (T := TX0) (ty := .int) 1 E rfl rfl rfl inX0 tyX0 tyX0_ok nmX0 (by decide) W233 rfl (by decide +kernel) rfl rfl dX0_copyFrom_37 ?_
  refine s_ltm rfl (fun m5 => ?_)
  refine s_aload_n 0 E dX0_copyFrom_40 rfl rfl ?_
  refine s_aload_n 1 E dX0_copyFrom_41 rfl rfl ?_
  refine s_geti (k := 5) (T := TX0) 2 E rfl rfl rfl inX0 (by decide) W234 dX0_copyFrom_42 ?_
  refine s_put (k := 5) (T := TX0) (ty := .int) 1 E rfl rfl rfl inX0 tyX0 tyX0_ok nmX0 (by decide) W234 rfl (by decide +kernel) rfl rfl dX0_copyFrom_45 ?_
  refine s_ltm rfl (fun m6 => ?_)
  refine s_aload_n 0 E dX0_copyFrom_48 rfl rfl ?_
  refine s_aload_n 1 E dX0_copyFrom_49 rfl rfl ?_
  refine s_geti (k := 6) (T := TX0) 2 E rfl rfl rfl inX0 (by decide) W236 dX0_copyFrom_50 ?_
  refine s_put (k := 6) (T := TX0) (ty := .int) 1 E rfl rfl rfl inX0 tyX0 tyX0_ok nmX0 (by decide) W236 rfl (by decide +kernel) rfl rfl dX0_copyFrom_53 ?_
  refine s_ltm rfl (fun m7 => ?_)
  refine s_aload_n 0 E dX0_copyFrom_56 rfl rfl ?_
  refine s_aload_n 1 E dX0_copyFrom_57 rfl rfl ?_
  refine s_geti (k := 7) (T := TX0) 2 E rfl rfl rfl inX0 (by decide) W238 dX0_copyFrom_58 ?_
  refine s_put (k := 7) (T := TX0) (ty := .int) 1 E rfl rfl rfl inX0 tyX0 tyX0_ok nmX0 (by decide) W238 rfl (by decide +kernel) rfl rfl dX0_copyFrom_61 ?_
  refine s_ltm rfl (fun m8 => ?_)
  refine s_aload_n 1 E dX0_copyFrom_64 rfl rfl ?_
  refine s_getr (k := 9) (T := TX0) 2 E rfl rfl rfl inX0 (by decide) W242 dX0_copyFrom_65 ?_
  refine s_aload_n 0 E dX0_copyFrom_68 rfl rfl ?_
  refine s_getr (k := 9) (T := TX0) 1 E rfl rfl rfl inX0 (by decide) W242 dX0_copyFrom_69 ?_
  refine s_bd (fun m9 hz => ?_)
  refine s_cS (rest := []) E (C_b_copy (xl x) G 18 10 m8 hz) mdX0_copy W1222 W781 W92 W782 rfl rfl (Nat.le_of_ble_eq_true rfl) ⟨by decide, by decide⟩ dX0_copyFrom_72 ?_
  refine s_aload_n 1 E dX0_copyFrom_75 rfl rfl ?_
  refine s_getr (k := 10) (T := TX0) 2 E rfl rfl rfl inX0 (by decide) W244 dX0_copyFrom_76 ?_
  refine s_aload_n 0 E dX0_copyFrom_79 rfl rfl ?_
  refine s_getr (k := 10) (T := TX0) 1 E rfl rfl rfl inX0 (by decide) W244 dX0_copyFrom_80 ?_
  refine s_bd (fun m10 hz => ?_)
  refine s_cS (rest := []) E (C_b_copy (xl x) G 19 11 m9 hz) mdX0_copy W1222 W781 W92 W782 rfl rfl (Nat.le_of_ble_eq_true rfl) ⟨by decide, by decide⟩ dX0_copyFrom_83 ?_
  refine s_aload_n 1 E dX0_copyFrom_86 rfl rfl ?_
  refine s_getr (k := 11) (T := TX0) 2 E rfl rfl rfl inX0 (by decide) W247 dX0_copyFrom_87 ?_
  refine s_aload_n 0 E dX0_copyFrom_90 rfl rfl ?_
  refine s_getr (k := 11) (T := TX0) 1 E rfl rfl rfl inX0 (by decide) W247 dX0_copyFrom_91 ?_
  refine s_bd (fun m11 hz => ?_)
  refine s_cS (rest := []) E (C_b_copy (xl x) G 20 12 m10 hz) mdX0_copy W1222 W781 W92 W782 rfl rfl (Nat.le_of_ble_eq_true rfl) ⟨by decide, by decide⟩ dX0_copyFrom_94 ?_
  refine s_aload_n 1 E dX0_copyFrom_97 rfl rfl ?_
  refine s_getr (k := 12) (T := TX0) 2 E rfl rfl rfl inX0 (by decide) W250 dX0_copyFrom_98 ?_
  refine s_aload_n 0 E dX0_copyFrom_101 rfl rfl ?_
  refine s_getr (k := 12) (T := TX0) 1 E rfl rfl rfl inX0 (by decide) W250 dX0_copyFrom_102 ?_
  refine s_bd (fun m12 hz => ?_)
  refine s_cS (rest := []) E (C_b_copy (xl x) G 21 13 m11 hz) mdX0_copy W1222 W781 W92 W782 rfl rfl (Nat.le_of_ble_eq_true rfl) ⟨by decide, by decide⟩ dX0_copyFrom_105 ?_
  refine s_aload_n 1 E dX0_copyFrom_108 rfl rfl ?_
  refine s_getr (k := 13) (T := TX0) 2 E rfl rfl rfl inX0 (by decide) W252 dX0_copyFrom_109 ?_
  refine s_aload_n 0 E dX0_copyFrom_112 rfl rfl ?_
  refine s_getr (k := 13) (T := TX0) 1 E rfl rfl rfl inX0 (by decide) W252 dX0_copyFrom_113 ?_
  refine s_bd (fun m13 hz => ?_)
  refine s_cS (rest := []) E (C_b_copy (xl x) G 22 14 m12 hz) mdX0_copy W1222 W781 W92 W782 rfl rfl (Nat.le_of_ble_eq_true rfl) ⟨by decide, by decide⟩ dX0_copyFrom_116 ?_
  refine s_aload_n 1 E dX0_copyFrom_119 rfl rfl ?_
  refine s_getr (k := 14) (T := TX0) 2 E rfl rfl rfl inX0 (by decide) W254 dX0_copyFrom_120 ?_
  refine s_aload_n 0 E dX0_copyFrom_123 rfl rfl ?_
  refine s_getr (k := 14) (T := TX0) 1 E rfl rfl rfl inX0 (by decide) W254 dX0_copyFrom_124 ?_
  refine s_bd (fun m14 hz => ?_)
  refine s_cS (rest := []) E (C_b_copy (xl x) G 23 15 m13 hz) mdX0_copy W1222 W781 W92 W782 rfl rfl (Nat.le_of_ble_eq_true rfl) ⟨by decide, by decide⟩ dX0_copyFrom_127 ?_
  refine s_aload_n 1 E dX0_copyFrom_130 rfl rfl ?_
  refine s_getr (k := 15) (T := TX0) 2 E rfl rfl rfl inX0 (by decide) W256 dX0_copyFrom_131 ?_
  refine s_aload_n 0 E dX0_copyFrom_134 rfl rfl ?_
  refine s_getr (k := 15) (T := TX0) 1 E rfl rfl rfl inX0 (by decide) W256 dX0_copyFrom_135 ?_
  refine s_bd (fun m15 hz => ?_)
  refine s_cS (rest := []) E (C_b_copy (xl x) G 24 16 m14 hz) mdX0_copy W1222 W781 W92 W782 rfl rfl (Nat.le_of_ble_eq_true rfl) ⟨by decide, by decide⟩ dX0_copyFrom_138 ?_
  refine s_aload_n 0 E dX0_copyFrom_141 rfl rfl ?_
  refine s_getr (k := 16) (T := TX0) 1 E rfl rfl rfl inX0 (by decide) W258 dX0_copyFrom_142 ?_
  refine s_aload_n 1 E dX0_copyFrom_145 rfl rfl ?_
  refine s_getr (k := 16) (T := TX0) 2 E rfl rfl rfl inX0 (by decide) W258 dX0_copyFrom_146 ?_
  refine s_bd (fun m16 hz => ?_)
  refine s_cV (rest := []) E (C_u_copyFrom_3_5 (xl x) G  m15 hz) mdX7_copyFrom W1223 W777 W778 W93 W779 rfl rfl rfl rfl (Nat.le_of_ble_eq_true rfl) ⟨by decide, by decide⟩ dX0_copyFrom_149 ?_
  refine s_aload_n 0 E dX0_copyFrom_152 rfl rfl ?_
  refine s_getr (k := 17) (T := TX0) 1 E rfl rfl rfl inX0 (by decide) W260 dX0_copyFrom_153 ?_
  refine s_aload_n 1 E dX0_copyFrom_156 rfl rfl ?_
  refine s_getr (k := 17) (T := TX0) 2 E rfl rfl rfl inX0 (by decide) W260 dX0_copyFrom_157 ?_
  refine s_bd (fun m17 hz => ?_)
  refine s_cV (rest := []) E (C_p_copyFrom_4_6 (xl x) G  m16 hz) mdX6_copyFrom W1224 W1225 W1226 W94 W1227 rfl rfl rfl rfl (Nat.le_of_ble_eq_true rfl) ⟨by decide, by decide⟩ dX0_copyFrom_160 ?_
  exact s_vret E rfl dX0_copyFrom_163
set_option maxRecDepth 20000 in
theorem C_b_copyFrom_1_2 (l : Launch) (G : GG)  (m : M) {z : M} (hz : b_copyFrom_1_2 m = some z) : Ct l G yX0_copyFrom cX0_copyFrom 2 none 4 [.ref (G.2.1 1), .ref (G.2.1 2)] m none z :=
  ct_of (K := KWv) (by decide) (Nat.le_of_ble_eq_true rfl) (congrArg (fun q => Option.bind q _) hz) (fun x hl hn E => (t_b_copyFrom_1_2 E hn  m))
theorem dX11_again_0 : decode cX11_again 0 = .ok (.aload_n 0, 1) := by decide +kernel
theorem dX11_again_1 : decode cX11_again 1 = .ok (.getfield 376, 3) := by decide +kernel
theorem dX11_again_4 : decode cX11_again 4 = .ok (.ifCond .ne 6, 3) := by decide +kernel
theorem dX11_again_7 : decode cX11_again 7 = .ok (.bipush (-3), 2) := by decide +kernel
theorem dX11_again_9 : decode cX11_again 9 = .ok (.ireturn, 1) := by decide +kernel
theorem dX11_again_10 : decode cX11_again 10 = .ok (.aload_n 0, 1) := by decide +kernel
theorem dX11_again_11 : decode cX11_again 11 = .ok (.getfield 12, 3) := by decide +kernel
theorem dX11_again_14 : decode cX11_again 14 = .ok (.aload_n 0, 1) := by decide +kernel
theorem dX11_again_15 : decode cX11_again 15 = .ok (.getfield 16, 3) := by decide +kernel
theorem dX11_again_18 : decode cX11_again 18 = .ok (.invokevirtual 373, 3) := by decide +kernel
theorem dX11_again_21 : decode cX11_again 21 = .ok (.aload_n 0, 1) := by decide +kernel
theorem dX11_again_22 : decode cX11_again 22 = .ok (.getfield 12, 3) := by decide +kernel
theorem dX11_again_25 : decode cX11_again 25 = .ok (.getfield 65, 3) := by decide +kernel
theorem dX11_again_28 : decode cX11_again 28 = .ok (.ireturn, 1) := by decide +kernel
def k_again  (m : M) : Option (Int32 × M) :=
  (if (m 0 2) = 0 then some ((-3 : Int32), m) else Option.bind (b_copyFrom_1_2 m) (fun m1 => some ((m1 1 6), m1)))
set_option maxRecDepth 20000 in
theorem t_k_again {G : GG} {x : Cx} (E : En G x cX11_again "WreckBoard" 5 (some .int)) (hn : xn x = 1)  (m : M) : Sm G x 0 [(0, .ref (G.2.1 0))] [] m (k_again m) KWi := by
  unfold k_again
  refine s_aload_n 0 E dX11_again_0 rfl rfl ?_
  refine s_geti (k := 2) (T := TX11) 0 E rfl rfl rfl inX11 (by decide) W362 dX11_again_1 ?_
  refine s_if_ne 10 E dX11_again_4 (by decide) ?_ ?_
  · refine s_aload_n 0 E dX11_again_10 rfl rfl ?_
    refine s_getr (k := 0) (T := TX11) 0 E rfl rfl rfl inX11 (by decide) W360 dX11_again_11 ?_
    refine s_aload_n 0 E dX11_again_14 rfl rfl ?_
    refine s_getr (k := 1) (T := TX11) 0 E rfl rfl rfl inX11 (by decide) W361 dX11_again_15 ?_
    refine s_bd (fun m1 hz => ?_)
    refine s_cV (rest := []) E (C_b_copyFrom_1_2 (xl x) G  m hz) mdX0_copyFrom W1218 W1219 W1220 W92 W1221 rfl rfl rfl rfl (Nat.le_of_ble_eq_true rfl) ⟨by decide, by decide⟩ dX11_again_18 ?_
    refine s_aload_n 0 E dX11_again_21 rfl rfl ?_
    refine s_getr (k := 0) (T := TX11) 0 E rfl rfl rfl inX11 (by decide) W360 dX11_again_22 ?_
    refine s_geti (k := 6) (T := TX0) 1 E rfl rfl rfl inX0 (by decide) W237 dX11_again_25 ?_
    exact s_iret E rfl dX11_again_28
  · refine s_bipush (v := (-3 : Int32)) E dX11_again_7 (by decide) ?_
    exact s_iret E rfl dX11_again_9
set_option maxRecDepth 20000 in
theorem C_k_again (l : Launch) (G : GG)  (m : M) {z : Int32 × M} (hz : k_again m = some z) : Ct l G yX11_again cX11_again 1 (some .int) 5 [.ref (G.2.1 0)] m (some (.int z.1)) z.2 :=
  ct_of (K := KWi) (by decide) (Nat.le_of_ble_eq_true rfl) (congrArg (fun q => Option.bind q _) hz) (fun x hl hn E => (t_k_again E hn  m))
