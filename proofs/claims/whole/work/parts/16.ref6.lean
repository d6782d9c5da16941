def r_secondsAs_d : Nat → Int32 → Int32 → M → Option (Int32 × M)
  | 0 => fun _ _ _ => none
  | d + 1 => fun a1 a2 m => r_secondsAs (r_secondsAs_d d) a1 a2 m
theorem C_r_secondsAs_d (l : Launch) (G : GG) : ∀ (d : Nat) (a1 : Int32) (a2 : Int32) (m : M) {z : Int32 × M}, r_secondsAs_d d a1 a2 m = some z → Ct l G yX12_secondsAs cX12_secondsAs 3 (some .int) (7 + 1 * d) [.ref (G.2.1 76), .int a1, .int a2] m (some (.int z.1)) z.2 := by
  intro d
  induction d with
  | zero => intro a1 a2 m z hz; cases hz
  | succ d ih =>
    intro a1 a2 m z hz
    exact C_r_secondsAs l G (r_secondsAs_d d) (lv0 := 7 + 1 * d) (by omega) (fun a1 a2 m z h => ih a1 a2 m h) a1 a2 m hz
theorem mdX12_countsAs : mdq yX12_countsAs 2 := ⟨by decide, by decide, by decide +kernel⟩
theorem dX12_countsAs_0 : decode cX12_countsAs 0 = .ok (.iload_n 1, 1) := by decide +kernel
theorem dX12_countsAs_1 : decode cX12_countsAs 1 = .ok (.iconst 5, 1) := by decide +kernel
theorem dX12_countsAs_2 : decode cX12_countsAs 2 = .ok (.if_icmp .ne 39, 3) := by decide +kernel
theorem dX12_countsAs_5 : decode cX12_countsAs 5 = .ok (.aload_n 0, 1) := by decide +kernel
theorem dX12_countsAs_6 : decode cX12_countsAs 6 = .ok (.bipush 61, 2) := by decide +kernel
theorem dX12_countsAs_8 : decode cX12_countsAs 8 = .ok (.invokevirtual 347, 3) := by decide +kernel
theorem dX12_countsAs_11 : decode cX12_countsAs 11 = .ok (.aload_n 0, 1) := by decide +kernel
theorem dX12_countsAs_12 : decode cX12_countsAs 12 = .ok (.iconst 4, 1) := by decide +kernel
theorem dX12_countsAs_13 : decode cX12_countsAs 13 = .ok (.iload_n 2, 1) := by decide +kernel
theorem dX12_countsAs_14 : decode cX12_countsAs 14 = .ok (.invokevirtual 359, 3) := by decide +kernel
theorem dX12_countsAs_17 : decode cX12_countsAs 17 = .ok (.istore_n 3, 1) := by decide +kernel
theorem dX12_countsAs_18 : decode cX12_countsAs 18 = .ok (.aload_n 0, 1) := by decide +kernel
theorem dX12_countsAs_19 : decode cX12_countsAs 19 = .ok (.getfield 362, 3) := by decide +kernel
theorem dX12_countsAs_22 : decode cX12_countsAs 22 = .ok (.ifCond .eq 7, 3) := by decide +kernel
theorem dX12_countsAs_25 : decode cX12_countsAs 25 = .ok (.iconst 0, 1) := by decide +kernel
theorem dX12_countsAs_26 : decode cX12_countsAs 26 = .ok (.goto 14, 3) := by decide +kernel
theorem dX12_countsAs_29 : decode cX12_countsAs 29 = .ok (.iload_n 3, 1) := by decide +kernel
theorem dX12_countsAs_30 : decode cX12_countsAs 30 = .ok (.aload_n 0, 1) := by decide +kernel
theorem dX12_countsAs_31 : decode cX12_countsAs 31 = .ok (.iconst 5, 1) := by decide +kernel
theorem dX12_countsAs_32 : decode cX12_countsAs 32 = .ok (.aload_n 0, 1) := by decide +kernel
theorem dX12_countsAs_33 : decode cX12_countsAs 33 = .ok (.getfield 353, 3) := by decide +kernel
theorem dX12_countsAs_36 : decode cX12_countsAs 36 = .ok (.invokevirtual 350, 3) := by decide +kernel
theorem dX12_countsAs_39 : decode cX12_countsAs 39 = .ok (.ixor, 1) := by decide +kernel
theorem dX12_countsAs_40 : decode cX12_countsAs 40 = .ok (.ireturn, 1) := by decide +kernel
theorem dX12_countsAs_41 : decode cX12_countsAs 41 = .ok (.iload_n 1, 1) := by decide +kernel
theorem dX12_countsAs_42 : decode cX12_countsAs 42 = .ok (.iconst 4, 1) := by decide +kernel
theorem dX12_countsAs_43 : decode cX12_countsAs 43 = .ok (.if_icmp .ne 18, 3) := by decide +kernel
theorem dX12_countsAs_46 : decode cX12_countsAs 46 = .ok (.aload_n 0, 1) := by decide +kernel
theorem dX12_countsAs_47 : decode cX12_countsAs 47 = .ok (.bipush 40, 2) := by decide +kernel
theorem dX12_countsAs_49 : decode cX12_countsAs 49 = .ok (.invokevirtual 347, 3) := by decide +kernel
theorem dX12_countsAs_52 : decode cX12_countsAs 52 = .ok (.aload_n 0, 1) := by decide +kernel
theorem dX12_countsAs_53 : decode cX12_countsAs 53 = .ok (.iconst 0, 1) := by decide +kernel
theorem dX12_countsAs_54 : decode cX12_countsAs 54 = .ok (.iload_n 2, 1) := by decide +kernel
theorem dX12_countsAs_55 : decode cX12_countsAs 55 = .ok (.invokevirtual 359, 3) := by decide +kernel
theorem dX12_countsAs_58 : decode cX12_countsAs 58 = .ok (.iconst 1, 1) := by decide +kernel
theorem dX12_countsAs_59 : decode cX12_countsAs 59 = .ok (.iadd, 1) := by decide +kernel
theorem dX12_countsAs_60 : decode cX12_countsAs 60 = .ok (.ireturn, 1) := by decide +kernel
theorem dX12_countsAs_61 : decode cX12_countsAs 61 = .ok (.aload_n 0, 1) := by decide +kernel
theorem dX12_countsAs_62 : decode cX12_countsAs 62 = .ok (.bipush 12, 2) := by decide +kernel
theorem dX12_countsAs_64 : decode cX12_countsAs 64 = .ok (.invokevirtual 347, 3) := by decide +kernel
theorem dX12_countsAs_67 : decode cX12_countsAs 67 = .ok (.aload_n 0, 1) := by decide +kernel
theorem dX12_countsAs_68 : decode cX12_countsAs 68 = .ok (.getfield 353, 3) := by decide +kernel
theorem dX12_countsAs_71 : decode cX12_countsAs 71 = .ok (.aload_n 0, 1) := by decide +kernel
theorem dX12_countsAs_72 : decode cX12_countsAs 72 = .ok (.aload_n 0, 1) := by decide +kernel
theorem dX12_countsAs_73 : decode cX12_countsAs 73 = .ok (.getfield 353, 3) := by decide +kernel
theorem dX12_countsAs_76 : decode cX12_countsAs 76 = .ok (.iconst 3, 1) := by decide +kernel
theorem dX12_countsAs_77 : decode cX12_countsAs 77 = .ok (.invokevirtual 79, 3) := by decide +kernel
theorem dX12_countsAs_80 : decode cX12_countsAs 80 = .ok (.iadd, 1) := by decide +kernel
theorem dX12_countsAs_81 : decode cX12_countsAs 81 = .ok (.iconst 4, 1) := by decide +kernel
theorem dX12_countsAs_82 : decode cX12_countsAs 82 = .ok (.isub, 1) := by decide +kernel
theorem dX12_countsAs_83 : decode cX12_countsAs 83 = .ok (.istore_n 3, 1) := by decide +kernel
theorem dX12_countsAs_84 : decode cX12_countsAs 84 = .ok (.aload_n 0, 1) := by decide +kernel
theorem dX12_countsAs_85 : decode cX12_countsAs 85 = .ok (.aload_n 0, 1) := by decide +kernel
theorem dX12_countsAs_86 : decode cX12_countsAs 86 = .ok (.getfield 362, 3) := by decide +kernel
theorem dX12_countsAs_89 : decode cX12_countsAs 89 = .ok (.ifCond .ne 7, 3) := by decide +kernel
theorem dX12_countsAs_92 : decode cX12_countsAs 92 = .ok (.iload_n 3, 1) := by decide +kernel
theorem dX12_countsAs_93 : decode cX12_countsAs 93 = .ok (.ifCond .ne 7, 3) := by decide +kernel
theorem dX12_countsAs_96 : decode cX12_countsAs 96 = .ok (.iconst 1, 1) := by decide +kernel
theorem dX12_countsAs_97 : decode cX12_countsAs 97 = .ok (.goto 4, 3) := by decide +kernel
theorem dX12_countsAs_100 : decode cX12_countsAs 100 = .ok (.iconst 0, 1) := by decide +kernel
theorem dX12_countsAs_101 : decode cX12_countsAs 101 = .ok (.putfield 362, 3) := by decide +kernel
theorem dX12_countsAs_104 : decode cX12_countsAs 104 = .ok (.aload_n 0, 1) := by decide +kernel
theorem dX12_countsAs_105 : decode cX12_countsAs 105 = .ok (.getfield 362, 3) := by decide +kernel
theorem dX12_countsAs_108 : decode cX12_countsAs 108 = .ok (.ifCond .eq 7, 3) := by decide +kernel
theorem dX12_countsAs_111 : decode cX12_countsAs 111 = .ok (.iconst 0, 1) := by decide +kernel
theorem dX12_countsAs_112 : decode cX12_countsAs 112 = .ok (.goto 6, 3) := by decide +kernel
theorem dX12_countsAs_115 : decode cX12_countsAs 115 = .ok (.iload_n 2, 1) := by decide +kernel
theorem dX12_countsAs_116 : decode cX12_countsAs 116 = .ok (.iload_n 3, 1) := by decide +kernel
theorem dX12_countsAs_117 : decode cX12_countsAs 117 = .ok (.irem, 1) := by decide +kernel
theorem dX12_countsAs_118 : decode cX12_countsAs 118 = .ok (.ireturn, 1) := by decide +kernel
def r_countsAs_96 (rec : Int32 → Int32 → M → Option (Int32 × M)) (a2 : Int32) (a3 : Int32) (m : M) : Option (Int32 × M) :=
  lt (wrF m 76 37 (1 : Int32)) (fun m1 => (if (m1 76 37) = 0 then Option.bind (rmI a2 a3) (fun q2 => some (q2, m1)) else some ((0 : Int32), m1)))
set_option maxRecDepth 20000 in
theorem t_r_countsAs_96 {G : GG} {x : Cx} {lv0 : Nat} (E : En G x cX12_countsAs "WreckBoardModel" (lv0 + 1) (some .int)) (hn : xn x = 4) (rec : Int32 → Int32 → M → Option (Int32 × M)) (hlb : 7 ≤ lv0) (hrec : ∀ (a1 : Int32) (a2 : Int32) (m : M) (z : Int32 × M), rec a1 a2 m = some z → Ct (xl x) G yX12_countsAs cX12_countsAs 4 (some .int) lv0 [.ref (G.2.1 76), .int a1, .int a2] m (some (.int z.1)) z.2) (a2 : Int32) (a3 : Int32) (m : M) : Sm G x 96 [(0, .ref (G.2.1 76)), (2, .int a2), (3, .int a3)] [.ref (G.2.1 76)] m (r_countsAs_96 rec a2 a3 m) KWi := by
  unfold r_countsAs_96
  refine s_iconst (v := (1 : Int32)) E dX12_countsAs_96 (by decide) ?_
  refine s_goto 101 E dX12_countsAs_97 (by decide) ?_
  refine s_put (k := 37) (T := TX12) (ty := .boolean) 76 E rfl rfl rfl inX12 tyX12 tyX12_ok nmX12 (by decide) W1276 rfl (by decide +kernel) (by decide) (by decide) dX12_countsAs_101 ?_
  refine s_ltm rfl (fun m1 => ?_)
  refine s_aload_n 0 E dX12_countsAs_104 rfl rfl ?_
  refine s_geti (k := 37) (T := TX12) 76 E rfl rfl rfl inX12 (by decide) W1276 dX12_countsAs_105 ?_
  refine s_if_eq 115 E dX12_countsAs_108 (by decide) ?_ ?_
  · refine s_iload_n 1 E dX12_countsAs_115 rfl rfl ?_
    refine s_iload_n 2 E dX12_countsAs_116 rfl rfl ?_
    refine s_irem E dX12_countsAs_117 (fun q2 => ?_)
    exact s_iret E rfl dX12_countsAs_118
  · refine s_iconst (v := (0 : Int32)) E dX12_countsAs_111 (by decide) ?_
    refine s_goto 118 E dX12_countsAs_112 (by decide) ?_
    exact s_iret E rfl dX12_countsAs_118
def r_countsAs (rec : Int32 → Int32 → M → Option (Int32 × M)) (a1 : Int32) (a2 : Int32) (m : M) : Option (Int32 × M) :=
  (if a1 = (5 : Int32) then Option.bind (r_starts (61 : Int32) m) (fun m8 => Option.bind (rec (4 : Int32) a2 m8) (fun z9 => (if (z9.2 76 37) = 0 then Option.bind (r_movesAs_d 6 (5 : Int32) (z9.2 76 36) z9.2) (fun z10 => some ((z9.1 ^^^ z10.1), z10.2)) else some ((0 : Int32), z9.2)))) else (if a1 = (4 : Int32) then Option.bind (r_starts (40 : Int32) m) (fun m6 => Option.bind (rec (0 : Int32) a2 m6) (fun z7 => some ((z7.1 + (1 : Int32)), z7.2))) else Option.bind (r_starts (12 : Int32) m) (fun m1 => Option.bind (r_get (m1 76 36) (3 : Int32) m1) (fun v2 => lt (((m1 76 36) + v2) - (4 : Int32)) (fun w3 : Int32 => (if (m1 76 37) = 0 then (if w3 = 0 then r_countsAs_96 rec a2 w3 m1 else lt (wrF m1 76 37 (0 : Int32)) (fun m4 => (if (m4 76 37) = 0 then Option.bind (rmI a2 w3) (fun q5 => some (q5, m4)) else some ((0 : Int32), m4)))) else r_countsAs_96 rec a2 w3 m1))))))
set_option maxRecDepth 20000 in
theorem t_r_countsAs {G : GG} {x : Cx} {lv0 : Nat} (E : En G x cX12_countsAs "WreckBoardModel" (lv0 + 1) (some .int)) (hn : xn x = 4) (rec : Int32 → Int32 → M → Option (Int32 × M)) (hlb : 7 ≤ lv0) (hrec : ∀ (a1 : Int32) (a2 : Int32) (m : M) (z : Int32 × M), rec a1 a2 m = some z → Ct (xl x) G yX12_countsAs cX12_countsAs 4 (some .int) lv0 [.ref (G.2.1 76), .int a1, .int a2] m (some (.int z.1)) z.2) (a1 : Int32) (a2 : Int32) (m : M) : Sm G x 0 [(0, .ref (G.2.1 76)), (1, .int a1), (2, .int a2)] [] m (r_countsAs rec a1 a2 m) KWi := by
  unfold r_countsAs
  refine s_iload_n 1 E dX12_countsAs_0 rfl rfl ?_
  refine s_iconst (v := (5 : Int32)) E dX12_countsAs_1 (by decide) ?_
  refine s_icmp_ne 41 E dX12_countsAs_2 (by decide) ?_ ?_
  · refine s_iload_n 1 E dX12_countsAs_41 rfl rfl ?_
    refine s_iconst (v := (4 : Int32)) E dX12_countsAs_42 (by decide) ?_
    refine s_icmp_ne 61 E dX12_countsAs_43 (by decide) ?_ ?_
    · refine s_aload_n 0 E dX12_countsAs_61 rfl rfl ?_
      refine s_bipush (v := (12 : Int32)) E dX12_countsAs_62 (by decide) ?_
      refine s_bd (fun m1 hz => ?_)
      refine s_cV (rest := []) E (C_r_starts (xl x) G (12 : Int32) m hz) mdX12_starts W1823 W1825 W86 W103 W1826 rfl rfl rfl rfl (Nat.le_of_ble_eq_true rfl) ⟨by omega, by omega⟩ dX12_countsAs_64 ?_
      refine s_aload_n 0 E dX12_countsAs_67 rfl rfl ?_
      refine s_geti (k := 36) (T := TX12) 76 E rfl rfl rfl inX12 (by decide) W1275 dX12_countsAs_68 ?_
      refine s_aload_n 0 E dX12_countsAs_71 rfl rfl ?_
      refine s_aload_n 0 E dX12_countsAs_72 rfl rfl ?_
      refine s_geti (k := 36) (T := TX12) 76 E rfl rfl rfl inX12 (by decide) W1275 dX12_countsAs_73 ?_
      refine s_iconst (v := (3 : Int32)) E dX12_countsAs_76 (by decide) ?_
      refine s_bd (fun v2 hz => ?_)
      refine s_cV (rest := [.int (m1 76 36)]) E (C_r_get (xl x) G (m1 76 36) (3 : Int32) m1 hz) mdX12_get W1453 W1455 W46 W103 W1456 rfl rfl rfl rfl (Nat.le_of_ble_eq_true rfl) ⟨by omega, by omega⟩ dX12_countsAs_77 ?_
      refine s_iadd E dX12_countsAs_80 ?_
      refine s_iconst (v := (4 : Int32)) E dX12_countsAs_81 (by decide) ?_
      refine s_isub E dX12_countsAs_82 ?_
      refine s_lt (fun w3 => [(0, .ref (G.2.1 76)), (1, .int a1), (2, .int a2)]) (fun w3 => [.int w3]) rfl rfl (fun w3 => ?_)
      refine s_istore_n (lv' := [(0, .ref (G.2.1 76)), (2, .int a2), (3, .int w3)]) [1, 3, 0] E dX12_countsAs_83 rfl (by rw [hn]; decide) rfl ?_
      refine s_aload_n 0 E dX12_countsAs_84 rfl rfl ?_
      refine s_aload_n 0 E dX12_countsAs_85 rfl rfl ?_
      refine s_geti (k := 37) (T := TX12) 76 E rfl rfl rfl inX12 (by decide) W1276 dX12_countsAs_86 ?_
      refine s_if_ne 96 E dX12_countsAs_89 (by decide) ?_ ?_
      · exact t_r_countsAs_96 E hn rec hlb hrec a2 w3 m1
      · refine s_iload_n 2 E dX12_countsAs_92 rfl rfl ?_
        refine s_if_ne 100 E dX12_countsAs_93 (by decide) ?_ ?_
        · refine s_iconst (v := (0 : Int32)) E dX12_countsAs_100 (by decide) ?_
          refine s_put (k := 37) (T := TX12) (ty := .boolean) 76 E rfl rfl rfl inX12 tyX12 tyX12_ok nmX12 (by decide) W1276 rfl (by decide +kernel) (by decide) (by decide) dX12_countsAs_101 ?_
          refine s_ltm rfl (fun m4 => ?_)
          refine s_aload_n 0 E dX12_countsAs_104 rfl rfl ?_
          refine s_geti (k := 37) (T := TX12) 76 E rfl rfl rfl inX12 (by decide) W1276 dX12_countsAs_105 ?_
          refine s_if_eq 115 E dX12_countsAs_108 (by decide) ?_ ?_
          · refine s_iload_n 1 E dX12_countsAs_115 rfl rfl ?_
            refine s_iload_n 2 E dX12_countsAs_116 rfl rfl ?_
            refine s_irem E dX12_countsAs_117 (fun q5 => ?_)
            exact s_iret E rfl dX12_countsAs_118
          · refine s_iconst (v := (0 : Int32)) E dX12_countsAs_111 (by decide) ?_
            refine s_goto 118 E dX12_countsAs_112 (by decide) ?_
            exact s_iret E rfl dX12_countsAs_118
        · exact t_r_countsAs_96 E hn rec hlb hrec a2 w3 m1
    · refine s_aload_n 0 E dX12_countsAs_46 rfl rfl ?_
      refine s_bipush (v := (40 : Int32)) E dX12_countsAs_47 (by decide) ?_
      refine s_bd (fun m6 hz => ?_)
      refine s_cV (rest := []) E (C_r_starts (xl x) G (40 : Int32) m hz) mdX12_starts W1823 W1825 W86 W103 W1826 rfl rfl rfl rfl (Nat.le_of_ble_eq_true rfl) ⟨by omega, by omega⟩ dX12_countsAs_49 ?_
      refine s_aload_n 0 E dX12_countsAs_52 rfl rfl ?_
      refine s_iconst (v := (0 : Int32)) E dX12_countsAs_53 (by decide) ?_
      refine s_iload_n 2 E dX12_countsAs_54 rfl rfl ?_
      refine s_bd (fun z7 hz => ?_)
      refine s_cV (rest := []) E (hrec (0 : Int32) a2 m6 z7 hz) mdX12_countsAs W1831 W1833 W88 W103 W1834 rfl rfl rfl rfl (Nat.le_of_ble_eq_true rfl) ⟨by omega, by omega⟩ dX12_countsAs_55 ?_
      refine s_iconst (v := (1 : Int32)) E dX12_countsAs_58 (by decide) ?_
      refine s_iadd E dX12_countsAs_59 ?_
      exact s_iret E rfl dX12_countsAs_60
  · refine s_aload_n 0 E dX12_countsAs_5 rfl rfl ?_
    refine s_bipush (v := (61 : Int32)) E dX12_countsAs_6 (by decide) ?_
    refine s_bd (fun m8 hz => ?_)
    refine s_cV (rest := []) E (C_r_starts (xl x) G (61 : Int32) m hz) mdX12_starts W1823 W1825 W86 W103 W1826 rfl rfl rfl rfl (Nat.le_of_ble_eq_true rfl) ⟨by omega, by omega⟩ dX12_countsAs_8 ?_
    refine s_aload_n 0 E dX12_countsAs_11 rfl rfl ?_
    refine s_iconst (v := (4 : Int32)) E dX12_countsAs_12 (by decide) ?_
    refine s_iload_n 2 E dX12_countsAs_13 rfl rfl ?_
    refine s_bd (fun z9 hz => ?_)
    refine s_cV (rest := []) E (hrec (4 : Int32) a2 m8 z9 hz) mdX12_countsAs W1831 W1833 W88 W103 W1834 rfl rfl rfl rfl (Nat.le_of_ble_eq_true rfl) ⟨by omega, by omega⟩ dX12_countsAs_14 ?_
    refine s_istore_n (lv' := [(0, .ref (G.2.1 76)), (3, .int z9.1)]) [1, 0] E dX12_countsAs_17 rfl (by rw [hn]; decide) rfl ?_
    refine s_aload_n 0 E dX12_countsAs_18 rfl rfl ?_
    refine s_geti (k := 37) (T := TX12) 76 E rfl rfl rfl inX12 (by decide) W1276 dX12_countsAs_19 ?_
    refine s_if_eq 29 E dX12_countsAs_22 (by decide) ?_ ?_
    · refine s_iload_n 1 E dX12_countsAs_29 rfl rfl ?_
      refine s_aload_n 0 E dX12_countsAs_30 rfl rfl ?_
      refine s_iconst (v := (5 : Int32)) E dX12_countsAs_31 (by decide) ?_
      refine s_aload_n 0 E dX12_countsAs_32 rfl rfl ?_
      refine s_geti (k := 36) (T := TX12) 76 E rfl rfl rfl inX12 (by decide) W1275 dX12_countsAs_33 ?_
      refine s_bd (fun z10 hz => ?_)
      refine s_cV (rest := [.int z9.1]) E (C_r_movesAs_d (xl x) G 6 (5 : Int32) (z9.2 76 36) z9.2 hz) mdX12_movesAs W1819 W1821 W85 W103 W1822 rfl rfl rfl rfl (Nat.le_of_ble_eq_true rfl) ⟨by omega, by omega⟩ dX12_countsAs_36 ?_
      refine s_ixor E dX12_countsAs_39 ?_
      exact s_iret E rfl dX12_countsAs_40
    · refine s_iconst (v := (0 : Int32)) E dX12_countsAs_25 (by decide) ?_
      refine s_goto 40 E dX12_countsAs_26 (by decide) ?_
      exact s_iret E rfl dX12_countsAs_40
set_option maxRecDepth 20000 in
theorem C_r_countsAs (l : Launch) (G : GG) (rec : Int32 → Int32 → M → Option (Int32 × M)) {lv0 : Nat} (hlb : 7 ≤ lv0) (hrec : ∀ (a1 : Int32) (a2 : Int32) (m : M) (z : Int32 × M), rec a1 a2 m = some z → Ct l G yX12_countsAs cX12_countsAs 4 (some .int) lv0 [.ref (G.2.1 76), .int a1, .int a2] m (some (.int z.1)) z.2) (a1 : Int32) (a2 : Int32) (m : M) {z : Int32 × M} (hz : r_countsAs rec a1 a2 m = some z) : Ct l G yX12_countsAs cX12_countsAs 4 (some .int) (lv0 + 1) [.ref (G.2.1 76), .int a1, .int a2] m (some (.int z.1)) z.2 :=
  ct_of (K := KWi) (by decide) (Nat.le_of_ble_eq_true rfl) (congrArg (fun q => Option.bind q _) hz) (fun x hl hn E => (t_r_countsAs E hn rec hlb (by rw [hl]; exact hrec) a1 a2 m))
def r_countsAs_d : Nat → Int32 → Int32 → M → Option (Int32 × M)
  | 0 => fun _ _ _ => none
  | d + 1 => fun a1 a2 m => r_countsAs (r_countsAs_d d) a1 a2 m
theorem C_r_countsAs_d (l : Launch) (G : GG) : ∀ (d : Nat) (a1 : Int32) (a2 : Int32) (m : M) {z : Int32 × M}, r_countsAs_d d a1 a2 m = some z → Ct l G yX12_countsAs cX12_countsAs 4 (some .int) (7 + 1 * d) [.ref (G.2.1 76), .int a1, .int a2] m (some (.int z.1)) z.2 := by
  intro d
  induction d with
  | zero => intro a1 a2 m z hz; cases hz
  | succ d ih =>
    intro a1 a2 m z hz
    exact C_r_countsAs l G (r_countsAs_d d) (lv0 := 7 + 1 * d) (by omega) (fun a1 a2 m z h => ih a1 a2 m h) a1 a2 m hz
theorem mdX12_bowsAs : mdq yX12_bowsAs 2 := ⟨by decide, by decide, by decide +kernel⟩
theorem dX12_bowsAs_0 : decode cX12_bowsAs 0 = .ok (.iload_n 1, 1) := by decide +kernel
theorem dX12_bowsAs_1 : decode cX12_bowsAs 1 = .ok (.iconst 3, 1) := by decide +kernel
theorem dX12_bowsAs_2 : decode cX12_bowsAs 2 = .ok (.if_icmp .ne 44, 3) := by decide +kernel
theorem dX12_bowsAs_5 : decode cX12_bowsAs 5 = .ok (.aload_n 0, 1) := by decide +kernel
theorem dX12_bowsAs_6 : decode cX12_bowsAs 6 = .ok (.bipush 51, 2) := by decide +kernel
theorem dX12_bowsAs_8 : decode cX12_bowsAs 8 = .ok (.invokevirtual 347, 3) := by decide +kernel
theorem dX12_bowsAs_11 : decode cX12_bowsAs 11 = .ok (.aload_n 0, 1) := by decide +kernel
theorem dX12_bowsAs_12 : decode cX12_bowsAs 12 = .ok (.iconst 2, 1) := by decide +kernel
theorem dX12_bowsAs_13 : decode cX12_bowsAs 13 = .ok (.iload_n 2, 1) := by decide +kernel
theorem dX12_bowsAs_14 : decode cX12_bowsAs 14 = .ok (.invokevirtual 366, 3) := by decide +kernel
theorem dX12_bowsAs_17 : decode cX12_bowsAs 17 = .ok (.istore_n 3, 1) := by decide +kernel
theorem dX12_bowsAs_18 : decode cX12_bowsAs 18 = .ok (.aload_n 0, 1) := by decide +kernel
theorem dX12_bowsAs_19 : decode cX12_bowsAs 19 = .ok (.getfield 362, 3) := by decide +kernel
theorem dX12_bowsAs_22 : decode cX12_bowsAs 22 = .ok (.ifCond .eq 7, 3) := by decide +kernel
theorem dX12_bowsAs_25 : decode cX12_bowsAs 25 = .ok (.iconst 0, 1) := by decide +kernel
theorem dX12_bowsAs_26 : decode cX12_bowsAs 26 = .ok (.goto 19, 3) := by decide +kernel
theorem dX12_bowsAs_29 : decode cX12_bowsAs 29 = .ok (.iload_n 3, 1) := by decide +kernel
theorem dX12_bowsAs_30 : decode cX12_bowsAs 30 = .ok (.aload_n 0, 1) := by decide +kernel
theorem dX12_bowsAs_31 : decode cX12_bowsAs 31 = .ok (.iconst 3, 1) := by decide +kernel
theorem dX12_bowsAs_32 : decode cX12_bowsAs 32 = .ok (.aload_n 0, 1) := by decide +kernel
theorem dX12_bowsAs_33 : decode cX12_bowsAs 33 = .ok (.aload_n 0, 1) := by decide +kernel
theorem dX12_bowsAs_34 : decode cX12_bowsAs 34 = .ok (.getfield 353, 3) := by decide +kernel
theorem dX12_bowsAs_37 : decode cX12_bowsAs 37 = .ok (.iconst 3, 1) := by decide +kernel
theorem dX12_bowsAs_38 : decode cX12_bowsAs 38 = .ok (.invokevirtual 79, 3) := by decide +kernel
theorem dX12_bowsAs_41 : decode cX12_bowsAs 41 = .ok (.invokevirtual 356, 3) := by decide +kernel
theorem dX12_bowsAs_44 : decode cX12_bowsAs 44 = .ok (.iadd, 1) := by decide +kernel
theorem dX12_bowsAs_45 : decode cX12_bowsAs 45 = .ok (.ireturn, 1) := by decide +kernel
theorem dX12_bowsAs_46 : decode cX12_bowsAs 46 = .ok (.aload_n 0, 1) := by decide +kernel
theorem dX12_bowsAs_47 : decode cX12_bowsAs 47 = .ok (.bipush 13, 2) := by decide +kernel
theorem dX12_bowsAs_49 : decode cX12_bowsAs 49 = .ok (.invokevirtual 347, 3) := by decide +kernel
theorem dX12_bowsAs_52 : decode cX12_bowsAs 52 = .ok (.aload_n 0, 1) := by decide +kernel
theorem dX12_bowsAs_53 : decode cX12_bowsAs 53 = .ok (.aload_n 0, 1) := by decide +kernel
theorem dX12_bowsAs_54 : decode cX12_bowsAs 54 = .ok (.aload_n 0, 1) := by decide +kernel
theorem dX12_bowsAs_55 : decode cX12_bowsAs 55 = .ok (.getfield 353, 3) := by decide +kernel
theorem dX12_bowsAs_58 : decode cX12_bowsAs 58 = .ok (.iconst 0, 1) := by decide +kernel
theorem dX12_bowsAs_59 : decode cX12_bowsAs 59 = .ok (.invokevirtual 79, 3) := by decide +kernel
theorem dX12_bowsAs_62 : decode cX12_bowsAs 62 = .ok (.iload_n 2, 1) := by decide +kernel
theorem dX12_bowsAs_63 : decode cX12_bowsAs 63 = .ok (.invokevirtual 356, 3) := by decide +kernel
theorem dX12_bowsAs_66 : decode cX12_bowsAs 66 = .ok (.istore_n 3, 1) := by decide +kernel
theorem dX12_bowsAs_67 : decode cX12_bowsAs 67 = .ok (.iload_n 3, 1) := by decide +kernel
theorem dX12_bowsAs_68 : decode cX12_bowsAs 68 = .ok (.aload_n 0, 1) := by decide +kernel
theorem dX12_bowsAs_69 : decode cX12_bowsAs 69 = .ok (.aload_n 0, 1) := by decide +kernel
theorem dX12_bowsAs_70 : decode cX12_bowsAs 70 = .ok (.aload_n 0, 1) := by decide +kernel
theorem dX12_bowsAs_71 : decode cX12_bowsAs 71 = .ok (.getfield 353, 3) := by decide +kernel
theorem dX12_bowsAs_74 : decode cX12_bowsAs 74 = .ok (.iconst 0, 1) := by decide +kernel
theorem dX12_bowsAs_75 : decode cX12_bowsAs 75 = .ok (.invokevirtual 79, 3) := by decide +kernel
theorem dX12_bowsAs_78 : decode cX12_bowsAs 78 = .ok (.iload_n 2, 1) := by decide +kernel
theorem dX12_bowsAs_79 : decode cX12_bowsAs 79 = .ok (.invokevirtual 359, 3) := by decide +kernel
theorem dX12_bowsAs_82 : decode cX12_bowsAs 82 = .ok (.isub, 1) := by decide +kernel
theorem dX12_bowsAs_83 : decode cX12_bowsAs 83 = .ok (.ireturn, 1) := by decide +kernel
def r_bowsAs (rec : Int32 → Int32 → M → Option (Int32 × M)) (a1 : Int32) (a2 : Int32) (m : M) : Option (Int32 × M) :=
  (if a1 = (3 : Int32) then Option.bind (r_starts (51 : Int32) m) (fun m6 => Option.bind (rec (2 : Int32) a2 m6) (fun z7 => (if (z7.2 76 37) = 0 then Option.bind (r_get (z7.2 76 36) (3 : Int32) z7.2) (fun v8 => Option.bind (r_secondsAs_d 6 (3 : Int32) v8 z7.2) (fun z9 => some ((z7.1 + z9.1), z9.2))) else some ((0 : Int32), z7.2)))) else Option.bind (r_starts (13 : Int32) m) (fun m1 => Option.bind (r_get (m1 76 36) (0 : Int32) m1) (fun v2 => Option.bind (r_secondsAs_d 6 v2 a2 m1) (fun z3 => Option.bind (r_get (z3.2 76 36) (0 : Int32) z3.2) (fun v4 => Option.bind (r_countsAs_d 6 v4 a2 z3.2) (fun z5 => some ((z3.1 - z5.1), z5.2)))))))
set_option maxRecDepth 20000 in
theorem t_r_bowsAs {G : GG} {x : Cx} {lv0 : Nat} (E : En G x cX12_bowsAs "WreckBoardModel" (lv0 + 1) (some .int)) (hn : xn x = 4) (rec : Int32 → Int32 → M → Option (Int32 × M)) (hlb : 13 ≤ lv0) (hrec : ∀ (a1 : Int32) (a2 : Int32) (m : M) (z : Int32 × M), rec a1 a2 m = some z → Ct (xl x) G yX12_bowsAs cX12_bowsAs 4 (some .int) lv0 [.ref (G.2.1 76), .int a1, .int a2] m (some (.int z.1)) z.2) (a1 : Int32) (a2 : Int32) (m : M) : Sm G x 0 [(0, .ref (G.2.1 76)), (1, .int a1), (2, .int a2)] [] m (r_bowsAs rec a1 a2 m) KWi := by
  unfold r_bowsAs
  refine s_iload_n 1 E dX12_bowsAs_0 rfl rfl ?_
  refine s_iconst (v := (3 : Int32)) E dX12_bowsAs_1 (by decide) ?_
  refine s_icmp_ne 46 E dX12_bowsAs_2 (by decide) ?_ ?_
  · refine s_aload_n 0 E dX12_bowsAs_46 rfl rfl ?_
    refine s_bipush (v := (13 : Int32)) E dX12_bowsAs_47 (by decide) ?_
    refine s_bd (fun m1 hz => ?_)
    refine s_cV (rest := []) E (C_r_starts (xl x) G (13 : Int32) m hz) mdX12_starts W1823 W1825 W86 W103 W1826 rfl rfl rfl rfl (Nat.le_of_ble_eq_true rfl) ⟨by omega, by omega⟩ dX12_bowsAs_49 ?_
    refine s_aload_n 0 E dX12_bowsAs_52 rfl rfl ?_
    refine s_aload_n 0 E dX12_bowsAs_53 rfl rfl ?_
    refine s_aload_n 0 E dX12_bowsAs_54 rfl rfl ?_
    refine s_geti (k := 36) (T := TX12) 76 E rfl rfl rfl inX12 (by decide) W1275 dX12_bowsAs_55 ?_
    refine s_iconst (v := (0 : Int32)) E dX12_bowsAs_58 (by decide) ?_
    refine s_bd (fun v2 hz => ?_)
    refine s_cV (rest := [.ref (G.2.1 76)]) E (C_r_get (xl x) G (m1 76 36) (0 : Int32) m1 hz) mdX12_get W1453 W1455 W46 W103 W1456 rfl rfl rfl rfl (Nat.le_of_ble_eq_true rfl) ⟨by omega, by omega⟩ dX12_bowsAs_59 ?_
    refine s_iload_n 2 E dX12_bowsAs_62 rfl rfl ?_
    refine s_bd (fun z3 hz => ?_)
    refine s_cV (rest := []) E (C_r_secondsAs_d (xl x) G 6 v2 a2 m1 hz) mdX12_secondsAs W1827 W1829 W87 W103 W1830 rfl rfl rfl rfl (Nat.le_of_ble_eq_true rfl) ⟨by omega, by omega⟩ dX12_bowsAs_63 ?_
    refine s_istore_n (lv' := [(0, .ref (G.2.1 76)), (2, .int a2), (3, .int z3.1)]) [1, 3, 0] E dX12_bowsAs_66 rfl (by rw [hn]; decide) rfl ?_
    refine s_iload_n 2 E dX12_bowsAs_67 rfl rfl ?_
    refine s_aload_n 0 E dX12_bowsAs_68 rfl rfl ?_
    refine s_aload_n 0 E dX12_bowsAs_69 rfl rfl ?_
    refine s_aload_n 0 E dX12_bowsAs_70 rfl rfl ?_
    refine s_geti (k := 36) (T := TX12) 76 E rfl rfl rfl inX12 (by decide) W1275 dX12_bowsAs_71 ?_
    refine s_iconst (v := (0 : Int32)) E dX12_bowsAs_74 (by decide) ?_
    refine s_bd (fun v4 hz => ?_)
    refine s_cV (rest := [.ref (G.2.1 76), .int z3.1]) E (C_r_get (xl x) G (z3.2 76 36) (0 : Int32) z3.2 hz) mdX12_get W1453 W1455 W46 W103 W1456 rfl rfl rfl rfl (Nat.le_of_ble_eq_true rfl) ⟨by omega, by omega⟩ dX12_bowsAs_75 ?_
    refine s_iload_n 1 E dX12_bowsAs_78 rfl rfl ?_
    refine s_bd (fun z5 hz => ?_)
    refine s_cV (rest := [.int z3.1]) E (C_r_countsAs_d (xl x) G 6 v4 a2 z3.2 hz) mdX12_countsAs W1831 W1833 W88 W103 W1834 rfl rfl rfl rfl (Nat.le_of_ble_eq_true rfl) ⟨by omega, by omega⟩ dX12_bowsAs_79 ?_
    refine s_isub E dX12_bowsAs_82 ?_
    exact s_iret E rfl dX12_bowsAs_83
  · refine s_aload_n 0 E dX12_bowsAs_5 rfl rfl ?_
    refine s_bipush (v := (51 : Int32)) E dX12_bowsAs_6 (by decide) ?_
    refine s_bd (fun m6 hz => ?_)
    refine s_cV (rest := []) E (C_r_starts (xl x) G (51 : Int32) m hz) mdX12_starts W1823 W1825 W86 W103 W1826 rfl rfl rfl rfl (Nat.le_of_ble_eq_true rfl) ⟨by omega, by omega⟩ dX12_bowsAs_8 ?_
    refine s_aload_n 0 E dX12_bowsAs_11 rfl rfl ?_
    refine s_iconst (v := (2 : Int32)) E dX12_bowsAs_12 (by decide) ?_
    refine s_iload_n 2 E dX12_bowsAs_13 rfl rfl ?_
    refine s_bd (fun z7 hz => ?_)
    refine s_cV (rest := []) E (hrec (2 : Int32) a2 m6 z7 hz) mdX12_bowsAs W1835 W1837 W89 W103 W1838 rfl rfl rfl rfl (Nat.le_of_ble_eq_true rfl) ⟨by omega, by omega⟩ dX12_bowsAs_14 ?_
    refine s_istore_n (lv' := [(0, .ref (G.2.1 76)), (3, .int z7.1)]) [1, 0] E dX12_bowsAs_17 rfl (by rw [hn]; decide) rfl ?_
    refine s_aload_n 0 E dX12_bowsAs_18 rfl rfl ?_
    refine s_geti (k := 37) (T := TX12) 76 E rfl rfl rfl inX12 (by decide) W1276 dX12_bowsAs_19 ?_
    refine s_if_eq 29 E dX12_bowsAs_22 (by decide) ?_ ?_
    · refine s_iload_n 1 E dX12_bowsAs_29 rfl rfl ?_
      refine s_aload_n 0 E dX12_bowsAs_30 rfl rfl ?_
      refine s_iconst (v := (3 : Int32)) E dX12_bowsAs_31 (by decide) ?_
      refine s_aload_n 0 E dX12_bowsAs_32 rfl rfl ?_
      refine s_aload_n 0 E dX12_bowsAs_33 rfl rfl ?_
      refine s_geti (k := 36) (T := TX12) 76 E rfl rfl rfl inX12 (by decide) W1275 dX12_bowsAs_34 ?_
      refine s_iconst (v := (3 : Int32)) E dX12_bowsAs_37 (by decide) ?_
      refine s_bd (fun v8 hz => ?_)
      refine s_cV (rest := [.int (3 : Int32), .ref (G.2.1 76), .int z7.1]) E (C_r_get (xl x) G (z7.2 76 36) (3 : Int32) z7.2 hz) mdX12_get W1453 W1455 W46 W103 W1456 rfl rfl rfl rfl (Nat.le_of_ble_eq_true rfl) ⟨by omega, by omega⟩ dX12_bowsAs_38 ?_
      refine s_bd (fun z9 hz => ?_)
      refine s_cV (rest := [.int z7.1]) E (C_r_secondsAs_d (xl x) G 6 (3 : Int32) v8 z7.2 hz) mdX12_secondsAs W1827 W1829 W87 W103 W1830 rfl rfl rfl rfl (Nat.le_of_ble_eq_true rfl) ⟨by omega, by omega⟩ dX12_bowsAs_41 ?_
      refine s_iadd E dX12_bowsAs_44 ?_
      exact s_iret E rfl dX12_bowsAs_45
    · refine s_iconst (v := (0 : Int32)) E dX12_bowsAs_25 (by decide) ?_
      refine s_goto 45 E dX12_bowsAs_26 (by decide) ?_
      exact s_iret E rfl dX12_bowsAs_45
set_option maxRecDepth 20000 in
theorem C_r_bowsAs (l : Launch) (G : GG) (rec : Int32 → Int32 → M → Option (Int32 × M)) {lv0 : Nat} (hlb : 13 ≤ lv0) (hrec : ∀ (a1 : Int32) (a2 : Int32) (m : M) (z : Int32 × M), rec a1 a2 m = some z → Ct l G yX12_bowsAs cX12_bowsAs 4 (some .int) lv0 [.ref (G.2.1 76), .int a1, .int a2] m (some (.int z.1)) z.2) (a1 : Int32) (a2 : Int32) (m : M) {z : Int32 × M} (hz : r_bowsAs rec a1 a2 m = some z) : Ct l G yX12_bowsAs cX12_bowsAs 4 (some .int) (lv0 + 1) [.ref (G.2.1 76), .int a1, .int a2] m (some (.int z.1)) z.2 :=
  ct_of (K := KWi) (by decide) (Nat.le_of_ble_eq_true rfl) (congrArg (fun q => Option.bind q _) hz) (fun x hl hn E => (t_r_bowsAs E hn rec hlb (by rw [hl]; exact hrec) a1 a2 m))
def r_bowsAs_d : Nat → Int32 → Int32 → M → Option (Int32 × M)
  | 0 => fun _ _ _ => none
  | d + 1 => fun a1 a2 m => r_bowsAs (r_bowsAs_d d) a1 a2 m
theorem C_r_bowsAs_d (l : Launch) (G : GG) : ∀ (d : Nat) (a1 : Int32) (a2 : Int32) (m : M) {z : Int32 × M}, r_bowsAs_d d a1 a2 m = some z → Ct l G yX12_bowsAs cX12_bowsAs 4 (some .int) (13 + 1 * d) [.ref (G.2.1 76), .int a1, .int a2] m (some (.int z.1)) z.2 := by
  intro d
  induction d with
  | zero => intro a1 a2 m z hz; cases hz
  | succ d ih =>
    intro a1 a2 m z hz
    exact C_r_bowsAs l G (r_bowsAs_d d) (lv0 := 13 + 1 * d) (by omega) (fun a1 a2 m z h => ih a1 a2 m h) a1 a2 m hz
theorem dX12_act_0 : decode cX12_act 0 = .ok (.aload_n 0, 1) := by decide +kernel
theorem dX12_act_1 : decode cX12_act 1 = .ok (.iconst 0, 1) := by decide +kernel
theorem dX12_act_2 : decode cX12_act 2 = .ok (.putfield 344, 3) := by decide +kernel
theorem dX12_act_5 : decode cX12_act 5 = .ok (.iload_n 1, 1) := by decide +kernel
theorem dX12_act_6 : decode cX12_act 6 = .ok (.invokestatic 329, 3) := by decide +kernel
theorem dX12_act_9 : decode cX12_act 9 = .ok (.ifCond .eq 20, 3) := by decide +kernel
theorem dX12_act_12 : decode cX12_act 12 = .ok (.iload_n 2, 1) := by decide +kernel
theorem dX12_act_13 : decode cX12_act 13 = .ok (.iconst 0, 1) := by decide +kernel
theorem dX12_act_14 : decode cX12_act 14 = .ok (.iconst 3, 1) := by decide +kernel
theorem dX12_act_15 : decode cX12_act 15 = .ok (.invokestatic 71, 3) := by decide +kernel
theorem dX12_act_18 : decode cX12_act 18 = .ok (.ifCond .eq 11, 3) := by decide +kernel
theorem dX12_act_21 : decode cX12_act 21 = .ok (.aload_n 0, 1) := by decide +kernel
theorem dX12_act_22 : decode cX12_act 22 = .ok (.iload_n 1, 1) := by decide +kernel
theorem dX12_act_23 : decode cX12_act 23 = .ok (.invokevirtual 341, 3) := by decide +kernel
theorem dX12_act_26 : decode cX12_act 26 = .ok (.ifCond .eq 5, 3) := by decide +kernel
theorem dX12_act_29 : decode cX12_act 29 = .ok (.iconst 0, 1) := by decide +kernel
theorem dX12_act_30 : decode cX12_act 30 = .ok (.ireturn, 1) := by decide +kernel
theorem dX12_act_31 : decode cX12_act 31 = .ok (.aload_n 0, 1) := by decide +kernel
theorem dX12_act_32 : decode cX12_act 32 = .ok (.aload_n 0, 1) := by decide +kernel
theorem dX12_act_33 : decode cX12_act 33 = .ok (.getfield 65, 3) := by decide +kernel
theorem dX12_act_36 : decode cX12_act 36 = .ok (.iload_n 1, 1) := by decide +kernel
theorem dX12_act_37 : decode cX12_act 37 = .ok (.iaload, 1) := by decide +kernel
theorem dX12_act_38 : decode cX12_act 38 = .ok (.putfield 353, 3) := by decide +kernel
theorem dX12_act_41 : decode cX12_act 41 = .ok (.aload_n 0, 1) := by decide +kernel
theorem dX12_act_42 : decode cX12_act 42 = .ok (.iconst 0, 1) := by decide +kernel
theorem dX12_act_43 : decode cX12_act 43 = .ok (.putfield 362, 3) := by decide +kernel
theorem dX12_act_46 : decode cX12_act 46 = .ok (.aload_n 0, 1) := by decide +kernel
theorem dX12_act_47 : decode cX12_act 47 = .ok (.aload_n 0, 1) := by decide +kernel
theorem dX12_act_48 : decode cX12_act 48 = .ok (.getfield 353, 3) := by decide +kernel
theorem dX12_act_51 : decode cX12_act 51 = .ok (.iconst 0, 1) := by decide +kernel
theorem dX12_act_52 : decode cX12_act 52 = .ok (.invokevirtual 79, 3) := by decide +kernel
theorem dX12_act_55 : decode cX12_act 55 = .ok (.istore 4, 2) := by decide +kernel
theorem dX12_act_57 : decode cX12_act 57 = .ok (.iload_n 2, 1) := by decide +kernel
theorem dX12_act_58 : decode cX12_act 58 = .ok (.ifCond .ne 13, 3) := by decide +kernel
theorem dX12_act_61 : decode cX12_act 61 = .ok (.aload_n 0, 1) := by decide +kernel
theorem dX12_act_62 : decode cX12_act 62 = .ok (.iload 4, 2) := by decide +kernel
theorem dX12_act_64 : decode cX12_act 64 = .ok (.iload_n 3, 1) := by decide +kernel
theorem dX12_act_65 : decode cX12_act 65 = .ok (.invokevirtual 350, 3) := by decide +kernel
theorem dX12_act_68 : decode cX12_act 68 = .ok (.goto 40, 3) := by decide +kernel
theorem dX12_act_71 : decode cX12_act 71 = .ok (.iload_n 2, 1) := by decide +kernel
theorem dX12_act_72 : decode cX12_act 72 = .ok (.iconst 1, 1) := by decide +kernel
theorem dX12_act_73 : decode cX12_act 73 = .ok (.if_icmp .ne 13, 3) := by decide +kernel
theorem dX12_act_76 : decode cX12_act 76 = .ok (.aload_n 0, 1) := by decide +kernel
theorem dX12_act_77 : decode cX12_act 77 = .ok (.iload 4, 2) := by decide +kernel
theorem dX12_act_79 : decode cX12_act 79 = .ok (.iload_n 3, 1) := by decide +kernel
theorem dX12_act_80 : decode cX12_act 80 = .ok (.invokevirtual 356, 3) := by decide +kernel
theorem dX12_act_83 : decode cX12_act 83 = .ok (.goto 25, 3) := by decide +kernel
theorem dX12_act_86 : decode cX12_act 86 = .ok (.iload_n 2, 1) := by decide +kernel
theorem dX12_act_87 : decode cX12_act 87 = .ok (.iconst 2, 1) := by decide +kernel
theorem dX12_act_88 : decode cX12_act 88 = .ok (.if_icmp .ne 13, 3) := by decide +kernel
theorem dX12_act_91 : decode cX12_act 91 = .ok (.aload_n 0, 1) := by decide +kernel
theorem dX12_act_92 : decode cX12_act 92 = .ok (.iload 4, 2) := by decide +kernel
theorem dX12_act_94 : decode cX12_act 94 = .ok (.iload_n 3, 1) := by decide +kernel
theorem dX12_act_95 : decode cX12_act 95 = .ok (.invokevirtual 359, 3) := by decide +kernel
theorem dX12_act_98 : decode cX12_act 98 = .ok (.goto 10, 3) := by decide +kernel
theorem dX12_act_101 : decode cX12_act 101 = .ok (.aload_n 0, 1) := by decide +kernel
theorem dX12_act_102 : decode cX12_act 102 = .ok (.iload 4, 2) := by decide +kernel
theorem dX12_act_104 : decode cX12_act 104 = .ok (.iload_n 3, 1) := by decide +kernel
theorem dX12_act_105 : decode cX12_act 105 = .ok (.invokevirtual 366, 3) := by decide +kernel
theorem dX12_act_108 : decode cX12_act 108 = .ok (.istore 5, 2) := by decide +kernel
theorem dX12_act_110 : decode cX12_act 110 = .ok (.aload_n 0, 1) := by decide +kernel
theorem dX12_act_111 : decode cX12_act 111 = .ok (.getfield 362, 3) := by decide +kernel
theorem dX12_act_114 : decode cX12_act 114 = .ok (.ifCond .eq 8, 3) := by decide +kernel
theorem dX12_act_117 : decode cX12_act 117 = .ok (.bipush (-15), 2) := by decide +kernel
theorem dX12_act_119 : decode cX12_act 119 = .ok (.goto 5, 3) := by decide +kernel
theorem dX12_act_122 : decode cX12_act 122 = .ok (.iload 5, 2) := by decide +kernel
theorem dX12_act_124 : decode cX12_act 124 = .ok (.ireturn, 1) := by decide +kernel
def r_act_108 (s0 : Int32) (m : M) : Option (Int32 × M) :=
  (if (m 76 37) = 0 then some (s0, m) else some ((-15 : Int32), m))
set_option maxRecDepth 20000 in
theorem t_r_act_108 {G : GG} {x : Cx} (E : En G x cX12_act "WreckBoardModel" 20 (some .int)) (hn : xn x = 6) (s0 : Int32) (m : M) : Sm G x 108 [(0, .ref (G.2.1 76))] [.int s0] m (r_act_108 s0 m) KWi := by
  unfold r_act_108
  refine s_istore (lv' := [(0, .ref (G.2.1 76)), (5, .int s0)]) [1, 0] E dX12_act_108 (by rw [hn]; decide) rfl ?_
  refine s_aload_n 0 E dX12_act_110 rfl rfl ?_
  refine s_geti (k := 37) (T := TX12) 76 E rfl rfl rfl inX12 (by decide) W1276 dX12_act_111 ?_
  refine s_if_eq 122 E dX12_act_114 (by decide) ?_ ?_
  · refine s_iload 1 E dX12_act_122 rfl ?_
    exact s_iret E rfl dX12_act_124
  · refine s_bipush (v := (-15 : Int32)) E dX12_act_117 (by decide) ?_
    refine s_goto 124 E dX12_act_119 (by decide) ?_
    exact s_iret E rfl dX12_act_124
def r_act (a1 : Int32) (a2 : Int32) (a3 : Int32) (m : M) : Option (Int32 × M) :=
  lt (wrF m 76 35 (0 : Int32)) (fun m1 => Option.bind (r_isSheet a1 m1) (fun v2 => (if v2 = 0 then some ((0 : Int32), m1) else Option.bind (r_in1 a2 (0 : Int32) (3 : Int32) m1) (fun v3 => (if v3 = 0 then some ((0 : Int32), m1) else Option.bind (r_heldOn a1 m1) (fun v4 => (if v4 = 0 then Option.bind (rdI m1 95 a1) (fun v5 => lt (wrF m1 76 36 v5) (fun m6 => lt (wrF m6 76 37 (0 : Int32)) (fun m7 => Option.bind (r_get (m7 76 36) (0 : Int32) m7) (fun v8 => (if a2 = 0 then Option.bind (r_movesAs_d 6 v8 a3 m7) (fun z12 => r_act_108 z12.1 z12.2) else (if a2 = (1 : Int32) then Option.bind (r_secondsAs_d 6 v8 a3 m7) (fun z11 => r_act_108 z11.1 z11.2) else (if a2 = (2 : Int32) then Option.bind (r_countsAs_d 6 v8 a3 m7) (fun z10 => r_act_108 z10.1 z10.2) else Option.bind (r_bowsAs_d 6 v8 a3 m7) (fun z9 => r_act_108 z9.1 z9.2)))))))) else some ((0 : Int32), m1))))))))
set_option maxRecDepth 20000 in
theorem t_r_act {G : GG} {x : Cx} (E : En G x cX12_act "WreckBoardModel" 20 (some .int)) (hn : xn x = 6) (a1 : Int32) (a2 : Int32) (a3 : Int32) (m : M) : Sm G x 0 [(0, .ref (G.2.1 76)), (1, .int a1), (2, .int a2), (3, .int a3)] [] m (r_act a1 a2 a3 m) KWi := by
  unfold r_act
  refine s_aload_n 0 E dX12_act_0 rfl rfl ?_
  refine s_iconst (v := (0 : Int32)) E dX12_act_1 (by decide) ?_
  refine s_put (k := 35) (T := TX12) (ty := .int) 76 E rfl rfl rfl inX12 tyX12 tyX12_ok nmX12 (by decide) W1274 rfl (by decide +kernel) rfl rfl dX12_act_2 ?_
  refine s_ltm rfl (fun m1 => ?_)
  refine s_iload_n 1 E dX12_act_5 rfl rfl ?_
  refine s_bd (fun v2 hz => ?_)
  refine s_cS (rest := []) E (C_r_isSheet (xl x) G a1 m1 hz) mdX12_isSheet W1773 W1774 W103 W1775 rfl rfl (Nat.le_of_ble_eq_true rfl) ⟨by decide, by decide⟩ dX12_act_6 ?_
  refine s_if_eq 29 E dX12_act_9 (by decide) ?_ ?_
  · refine s_iconst (v := (0 : Int32)) E dX12_act_29 (by decide) ?_
    exact s_iret E rfl dX12_act_30
  · refine s_iload_n 2 E dX12_act_12 rfl rfl ?_
    refine s_iconst (v := (0 : Int32)) E dX12_act_13 (by decide) ?_
    refine s_iconst (v := (3 : Int32)) E dX12_act_14 (by decide) ?_
    refine s_bd (fun v3 hz => ?_)
    refine s_cS (rest := []) E (C_r_in1 (xl x) G a2 (0 : Int32) (3 : Int32) m1 hz) mdX12_in1 W1359 W1360 W103 W1361 rfl rfl (Nat.le_of_ble_eq_true rfl) ⟨by decide, by decide⟩ dX12_act_15 ?_
    refine s_if_eq 29 E dX12_act_18 (by decide) ?_ ?_
    · refine s_iconst (v := (0 : Int32)) E dX12_act_29 (by decide) ?_
      exact s_iret E rfl dX12_act_30
    · refine s_aload_n 0 E dX12_act_21 rfl rfl ?_
      refine s_iload_n 1 E dX12_act_22 rfl rfl ?_
      refine s_bd (fun v4 hz => ?_)
      refine s_cV (rest := []) E (C_r_heldOn (xl x) G a1 m1 hz) mdX12_heldOn W1811 W1813 W84 W103 W1814 rfl rfl rfl rfl (Nat.le_of_ble_eq_true rfl) ⟨by decide, by decide⟩ dX12_act_23 ?_
      refine s_if_eq 31 E dX12_act_26 (by decide) ?_ ?_
      · refine s_aload_n 0 E dX12_act_31 rfl rfl ?_
        refine s_aload_n 0 E dX12_act_32 rfl rfl ?_
        refine s_getr (k := 33) (T := TX12) 76 E rfl rfl rfl inX12 (by decide) W1272 dX12_act_33 ?_
        refine s_iload_n 1 E dX12_act_36 rfl rfl ?_
        refine s_iald E dX12_act_37 (fun v5 => ?_)
        refine s_put (k := 36) (T := TX12) (ty := .int) 76 E rfl rfl rfl inX12 tyX12 tyX12_ok nmX12 (by decide) W1275 rfl (by decide +kernel) rfl rfl dX12_act_38 ?_
        refine s_ltm rfl (fun m6 => ?_)
        refine s_aload_n 0 E dX12_act_41 rfl rfl ?_
        refine s_iconst (v := (0 : Int32)) E dX12_act_42 (by decide) ?_
        refine s_put (k := 37) (T := TX12) (ty := .boolean) 76 E rfl rfl rfl inX12 tyX12 tyX12_ok nmX12 (by decide) W1276 rfl (by decide +kernel) (by decide) (by decide) dX12_act_43 ?_
        refine s_ltm rfl (fun m7 => ?_)
        refine s_aload_n 0 E dX12_act_46 rfl rfl ?_
        refine s_aload_n 0 E dX12_act_47 rfl rfl ?_
        refine s_geti (k := 36) (T := TX12) 76 E rfl rfl rfl inX12 (by decide) W1275 dX12_act_48 ?_
        refine s_iconst (v := (0 : Int32)) E dX12_act_51 (by decide) ?_
        refine s_bd (fun v8 hz => ?_)
        refine s_cV (rest := []) E (C_r_get (xl x) G (m7 76 36) (0 : Int32) m7 hz) mdX12_get W1453 W1455 W46 W103 W1456 rfl rfl rfl rfl (Nat.le_of_ble_eq_true rfl) ⟨by decide, by decide⟩ dX12_act_52 ?_
        refine s_istore (lv' := [(0, .ref (G.2.1 76)), (2, .int a2), (3, .int a3), (4, .int v8)]) [1, 3, 4, 0] E dX12_act_55 (by rw [hn]; decide) rfl ?_
        refine s_iload_n 1 E dX12_act_57 rfl rfl ?_
        refine s_if_ne 71 E dX12_act_58 (by decide) ?_ ?_
        · refine s_iload_n 1 E dX12_act_71 rfl rfl ?_
          refine s_iconst (v := (1 : Int32)) E dX12_act_72 (by decide) ?_
          refine s_icmp_ne 86 E dX12_act_73 (by decide) ?_ ?_
          · refine s_iload_n 1 E dX12_act_86 rfl rfl ?_
            refine s_iconst (v := (2 : Int32)) E dX12_act_87 (by decide) ?_
            refine s_icmp_ne 101 E dX12_act_88 (by decide) ?_ ?_
            · refine s_aload_n 0 E dX12_act_101 rfl rfl ?_
              refine s_iload 3 E dX12_act_102 rfl ?_
              refine s_iload_n 2 E dX12_act_104 rfl rfl ?_
              refine s_bd (fun z9 hz => ?_)
              refine s_cV (rest := []) E (C_r_bowsAs_d (xl x) G 6 v8 a3 m7 hz) mdX12_bowsAs W1835 W1837 W89 W103 W1838 rfl rfl rfl rfl (Nat.le_of_ble_eq_true rfl) ⟨by decide, by decide⟩ dX12_act_105 ?_
              refine s_sub (lv' := [(0, .ref (G.2.1 76))]) [0] rfl ?_
              exact t_r_act_108 E hn z9.1 z9.2
            · refine s_aload_n 0 E dX12_act_91 rfl rfl ?_
              refine s_iload 3 E dX12_act_92 rfl ?_
              refine s_iload_n 2 E dX12_act_94 rfl rfl ?_
              refine s_bd (fun z10 hz => ?_)
              refine s_cV (rest := []) E (C_r_countsAs_d (xl x) G 6 v8 a3 m7 hz) mdX12_countsAs W1831 W1833 W88 W103 W1834 rfl rfl rfl rfl (Nat.le_of_ble_eq_true rfl) ⟨by decide, by decide⟩ dX12_act_95 ?_
              refine s_goto 108 E dX12_act_98 (by decide) ?_
              refine s_sub (lv' := [(0, .ref (G.2.1 76))]) [0] rfl ?_
              exact t_r_act_108 E hn z10.1 z10.2
          · refine s_aload_n 0 E dX12_act_76 rfl rfl ?_
            refine s_iload 3 E dX12_act_77 rfl ?_
            refine s_iload_n 2 E dX12_act_79 rfl rfl ?_
            refine s_bd (fun z11 hz => ?_)
            refine s_cV (rest := []) E (C_r_secondsAs_d (xl x) G 6 v8 a3 m7 hz) mdX12_secondsAs W1827 W1829 W87 W103 W1830 rfl rfl rfl rfl (Nat.le_of_ble_eq_true rfl) ⟨by decide, by decide⟩ dX12_act_80 ?_
            refine s_goto 108 E dX12_act_83 (by decide) ?_
            refine s_sub (lv' := [(0, .ref (G.2.1 76))]) [0] rfl ?_
            exact t_r_act_108 E hn z11.1 z11.2
        · refine s_aload_n 0 E dX12_act_61 rfl rfl ?_
          refine s_iload 3 E dX12_act_62 rfl ?_
          refine s_iload_n 2 E dX12_act_64 rfl rfl ?_
          refine s_bd (fun z12 hz => ?_)
          refine s_cV (rest := []) E (C_r_movesAs_d (xl x) G 6 v8 a3 m7 hz) mdX12_movesAs W1819 W1821 W85 W103 W1822 rfl rfl rfl rfl (Nat.le_of_ble_eq_true rfl) ⟨by decide, by decide⟩ dX12_act_65 ?_
          refine s_goto 108 E dX12_act_68 (by decide) ?_
          refine s_sub (lv' := [(0, .ref (G.2.1 76))]) [0] rfl ?_
          exact t_r_act_108 E hn z12.1 z12.2
      · refine s_iconst (v := (0 : Int32)) E dX12_act_29 (by decide) ?_
        exact s_iret E rfl dX12_act_30
set_option maxRecDepth 20000 in
theorem C_r_act (l : Launch) (G : GG) (a1 : Int32) (a2 : Int32) (a3 : Int32) (m : M) {z : Int32 × M} (hz : r_act a1 a2 a3 m = some z) : Ct l G yX12_act cX12_act 6 (some .int) 20 [.ref (G.2.1 76), .int a1, .int a2, .int a3] m (some (.int z.1)) z.2 :=
  ct_of (K := KWi) (by decide) (Nat.le_of_ble_eq_true rfl) (congrArg (fun q => Option.bind q _) hz) (fun x hl hn E => (t_r_act E hn a1 a2 a3 m))
theorem dX12_trace_0 : decode cX12_trace 0 = .ok (.iload_n 1, 1) := by decide +kernel
theorem dX12_trace_1 : decode cX12_trace 1 = .ok (.iconst 0, 1) := by decide +kernel
theorem dX12_trace_2 : decode cX12_trace 2 = .ok (.aload_n 0, 1) := by decide +kernel
theorem dX12_trace_3 : decode cX12_trace 3 = .ok (.getfield 344, 3) := by decide +kernel
theorem dX12_trace_6 : decode cX12_trace 6 = .ok (.iconst 1, 1) := by decide +kernel
theorem dX12_trace_7 : decode cX12_trace 7 = .ok (.isub, 1) := by decide +kernel
theorem dX12_trace_8 : decode cX12_trace 8 = .ok (.invokestatic 71, 3) := by decide +kernel
theorem dX12_trace_11 : decode cX12_trace 11 = .ok (.ifCond .eq 12, 3) := by decide +kernel
theorem dX12_trace_14 : decode cX12_trace 14 = .ok (.aload_n 0, 1) := by decide +kernel
theorem dX12_trace_15 : decode cX12_trace 15 = .ok (.getfield 68, 3) := by decide +kernel
theorem dX12_trace_18 : decode cX12_trace 18 = .ok (.iload_n 1, 1) := by decide +kernel
theorem dX12_trace_19 : decode cX12_trace 19 = .ok (.iaload, 1) := by decide +kernel
theorem dX12_trace_20 : decode cX12_trace 20 = .ok (.goto 5, 3) := by decide +kernel
theorem dX12_trace_23 : decode cX12_trace 23 = .ok (.bipush (-3), 2) := by decide +kernel
theorem dX12_trace_25 : decode cX12_trace 25 = .ok (.ireturn, 1) := by decide +kernel
def r_trace (a1 : Int32) (m : M) : Option (Int32) :=
  Option.bind (r_in1 a1 (0 : Int32) ((m 76 35) - (1 : Int32)) m) (fun v1 => (if v1 = 0 then some (-3 : Int32) else Option.bind (rdI m 96 a1) (fun v2 => some v2)))
set_option maxRecDepth 20000 in
theorem t_r_trace {G : GG} {x : Cx} (E : En G x cX12_trace "WreckBoardModel" 2 (some .int)) (hn : xn x = 2) (a1 : Int32) (m : M) : Sm G x 0 [(0, .ref (G.2.1 76)), (1, .int a1)] [] m (r_trace a1 m) (KRi m) := by
  unfold r_trace
  refine s_iload_n 1 E dX12_trace_0 rfl rfl ?_
  refine s_iconst (v := (0 : Int32)) E dX12_trace_1 (by decide) ?_
  refine s_aload_n 0 E dX12_trace_2 rfl rfl ?_
  refine s_geti (k := 35) (T := TX12) 76 E rfl rfl rfl inX12 (by decide) W1274 dX12_trace_3 ?_
  refine s_iconst (v := (1 : Int32)) E dX12_trace_6 (by decide) ?_
  refine s_isub E dX12_trace_7 ?_
  refine s_bd (fun v1 hz => ?_)
  refine s_cS (rest := []) E (C_r_in1 (xl x) G a1 (0 : Int32) ((m 76 35) - (1 : Int32)) m hz) mdX12_in1 W1359 W1360 W103 W1361 rfl rfl (Nat.le_of_ble_eq_true rfl) ⟨by decide, by decide⟩ dX12_trace_8 ?_
  refine s_if_eq 23 E dX12_trace_11 (by decide) ?_ ?_
  · refine s_bipush (v := (-3 : Int32)) E dX12_trace_23 (by decide) ?_
    exact s_iret E rfl dX12_trace_25
  · refine s_aload_n 0 E dX12_trace_14 rfl rfl ?_
    refine s_getr (k := 34) (T := TX12) 76 E rfl rfl rfl inX12 (by decide) W1273 dX12_trace_15 ?_
    refine s_iload_n 1 E dX12_trace_18 rfl rfl ?_
    refine s_iald E dX12_trace_19 (fun v2 => ?_)
    refine s_goto 25 E dX12_trace_20 (by decide) ?_
    exact s_iret E rfl dX12_trace_25
set_option maxRecDepth 20000 in
theorem C_r_trace (l : Launch) (G : GG) (a1 : Int32) (m : M) {z : Int32} (hz : r_trace a1 m = some z) : Ct l G yX12_trace cX12_trace 2 (some .int) 2 [.ref (G.2.1 76), .int a1] m (some (.int z)) m :=
  ct_of (K := (KRi m)) (by decide) (Nat.le_of_ble_eq_true rfl) (congrArg (fun q => Option.bind q _) hz) (fun x hl hn E => (t_r_trace E hn a1 m))
theorem dX12_ones_0 : decode cX12_ones 0 = .ok (.iconst 0, 1) := by decide +kernel
theorem dX12_ones_1 : decode cX12_ones 1 = .ok (.istore_n 1, 1) := by decide +kernel
theorem dX12_ones_2 : decode cX12_ones 2 = .ok (.iload_n 0, 1) := by decide +kernel
theorem dX12_ones_3 : decode cX12_ones 3 = .ok (.istore_n 2, 1) := by decide +kernel
theorem dX12_ones_4 : decode cX12_ones 4 = .ok (.iload_n 2, 1) := by decide +kernel
theorem dX12_ones_5 : decode cX12_ones 5 = .ok (.ifCond .eq 15, 3) := by decide +kernel
theorem dX12_ones_8 : decode cX12_ones 8 = .ok (.iinc 1 1, 3) := by decide +kernel
theorem dX12_ones_11 : decode cX12_ones 11 = .ok (.iload_n 2, 1) := by decide +kernel
theorem dX12_ones_12 : decode cX12_ones 12 = .ok (.iload_n 2, 1) := by decide +kernel
theorem dX12_ones_13 : decode cX12_ones 13 = .ok (.iconst 1, 1) := by decide +kernel
theorem dX12_ones_14 : decode cX12_ones 14 = .ok (.isub, 1) := by decide +kernel
theorem dX12_ones_15 : decode cX12_ones 15 = .ok (.iand, 1) := by decide +kernel
theorem dX12_ones_16 : decode cX12_ones 16 = .ok (.istore_n 2, 1) := by decide +kernel
theorem dX12_ones_17 : decode cX12_ones 17 = .ok (.goto (-13), 3) := by decide +kernel
theorem dX12_ones_20 : decode cX12_ones 20 = .ok (.iload_n 1, 1) := by decide +kernel
theorem dX12_ones_21 : decode cX12_ones 21 = .ok (.ireturn, 1) := by decide +kernel
def r_ones_4b (a1 : Int32) (a2 : Int32) (m : M) : Option ((Int32 × Int32) ⊕ ((Int32))) :=
  (if a2 = 0 then some (.inr a1) else lt (a1 + (1 : Int32)) (fun w1 : Int32 => lt (a2 &&& (a2 - (1 : Int32))) (fun w2 : Int32 => some (.inl (w1, w2)))))
set_option maxRecDepth 20000 in
theorem t_r_ones_4b {G : GG} {x : Cx} {K : ((Int32 × Int32) ⊕ ((Int32))) → Option (Option Value × M)} (E : En G x cX12_ones "WreckBoardModel" 1 (some .int)) (hn : xn x = 3) (a1 : Int32) (a2 : Int32) (m : M) (hb : ∀ z : Int32 × Int32, Sm G x 4 [(1, .int z.1), (2, .int z.2)] [] m (some (.inl z)) K) (hx0 : ∀ z : Int32, Sm G x 20 [(1, .int z)] [] m (some (.inr z)) K) : Sm G x 4 [(1, .int a1), (2, .int a2)] [] m (r_ones_4b a1 a2 m) K := by
  unfold r_ones_4b
  refine s_iload_n 1 E dX12_ones_4 rfl rfl ?_
  refine s_if_eq 20 E dX12_ones_5 (by decide) ?_ ?_
  · refine s_sub (lv' := [(1, .int a1)]) [0] rfl ?_
    exact hx0 a1
  · refine s_iincL (v := (1 : Int32)) 0 [0, 1] (fun w1 => [(1, .int w1), (2, .int a2)]) E dX12_ones_8 rfl (by decide) (by rw [hn]; decide) (fun _ => rfl) (fun w1 => ?_)
    refine s_iload_n 1 E dX12_ones_11 rfl rfl ?_
    refine s_iload_n 1 E dX12_ones_12 rfl rfl ?_
    refine s_iconst (v := (1 : Int32)) E dX12_ones_13 (by decide) ?_
    refine s_isub E dX12_ones_14 ?_
    refine s_iand E dX12_ones_15 ?_
    refine s_lt (fun w2 => [(1, .int w1), (2, .int a2)]) (fun w2 => [.int w2]) rfl rfl (fun w2 => ?_)
    refine s_istore_n (lv' := [(1, .int w1), (2, .int w2)]) [1, 0] E dX12_ones_16 rfl (by rw [hn]; decide) rfl ?_
    refine s_goto 4 E dX12_ones_17 (by decide) ?_
    exact hb (w1, w2)
def r_ones_4 (a1 : Int32) (a2 : Int32) (m : M) : Option (Int32) :=
  Option.bind (iter (fun z => r_ones_4b z.1 z.2 m) FU (a1, a2)) (fun r => some r)
set_option maxRecDepth 20000 in
theorem t_r_ones_4 {G : GG} {x : Cx} (E : En G x cX12_ones "WreckBoardModel" 1 (some .int)) (hn : xn x = 3) (a1 : Int32) (a2 : Int32) (m : M) : Sm G x 4 [(1, .int a1), (2, .int a2)] [] m (r_ones_4 a1 a2 m) (KRi m) := by
  unfold r_ones_4
  refine s_loop (fun z => [(1, .int z.1), (2, .int z.2)]) (fun z => m) (fun K2 hb2 hr2 z => ?_) FU (a1, a2)
  refine t_r_ones_4b (K := K2) E hn z.1 z.2 m hb2 (fun r => s_out (hr2 r) ?_)
  · refine s_iload_n 0 E dX12_ones_20 rfl rfl ?_
    exact s_iret E rfl dX12_ones_21
def r_ones (a0 : Int32) (m : M) : Option (Int32) :=
  r_ones_4 (0 : Int32) a0 m
set_option maxRecDepth 20000 in
theorem t_r_ones {G : GG} {x : Cx} (E : En G x cX12_ones "WreckBoardModel" 1 (some .int)) (hn : xn x = 3) (a0 : Int32) (m : M) : Sm G x 0 [(0, .int a0)] [] m (r_ones a0 m) (KRi m) := by
  unfold r_ones
  refine s_iconst (v := (0 : Int32)) E dX12_ones_0 (by decide) ?_
  refine s_istore_n (lv' := [(0, .int a0), (1, .int (0 : Int32))]) [1, 0] E dX12_ones_1 rfl (by rw [hn]; decide) rfl ?_
  refine s_iload_n 0 E dX12_ones_2 rfl rfl ?_
  refine s_istore_n (lv' := [(1, .int (0 : Int32)), (2, .int a0)]) [2, 0] E dX12_ones_3 rfl (by rw [hn]; decide) rfl ?_
  exact t_r_ones_4 E hn (0 : Int32) a0 m
set_option maxRecDepth 20000 in
theorem C_r_ones (l : Launch) (G : GG) (a0 : Int32) (m : M) {z : Int32} (hz : r_ones a0 m = some z) : Ct l G yX12_ones cX12_ones 3 (some .int) 1 [.int a0] m (some (.int z)) m :=
  ct_of (K := (KRi m)) (by decide) (Nat.le_of_ble_eq_true rfl) (congrArg (fun q => Option.bind q _) hz) (fun x hl hn E => (t_r_ones E hn a0 m))
theorem mdX12_ones : mdq yX12_ones 1 := ⟨by decide, by decide, by decide +kernel⟩
theorem dX12_many_0 : decode cX12_many 0 = .ok (.iload_n 1, 1) := by decide +kernel
theorem dX12_many_1 : decode cX12_many 1 = .ok (.tableswitch 91 0 6 #[43, 51, 59, 68, 76, 81, 86], 43) := by decide +kernel
theorem dX12_many_44 : decode cX12_many 44 = .ok (.aload_n 0, 1) := by decide +kernel
theorem dX12_many_45 : decode cX12_many 45 = .ok (.getfield 9, 3) := by decide +kernel
theorem dX12_many_48 : decode cX12_many 48 = .ok (.bipush 6, 2) := by decide +kernel
theorem dX12_many_50 : decode cX12_many 50 = .ok (.iaload, 1) := by decide +kernel
theorem dX12_many_51 : decode cX12_many 51 = .ok (.ireturn, 1) := by decide +kernel
theorem dX12_many_52 : decode cX12_many 52 = .ok (.aload_n 0, 1) := by decide +kernel
theorem dX12_many_53 : decode cX12_many 53 = .ok (.getfield 9, 3) := by decide +kernel
theorem dX12_many_56 : decode cX12_many 56 = .ok (.bipush 7, 2) := by decide +kernel
theorem dX12_many_58 : decode cX12_many 58 = .ok (.iaload, 1) := by decide +kernel
theorem dX12_many_59 : decode cX12_many 59 = .ok (.ireturn, 1) := by decide +kernel
theorem dX12_many_60 : decode cX12_many 60 = .ok (.aload_n 0, 1) := by decide +kernel
theorem dX12_many_61 : decode cX12_many 61 = .ok (.iconst 4, 1) := by decide +kernel
theorem dX12_many_62 : decode cX12_many 62 = .ok (.invokevirtual 235, 3) := by decide +kernel
theorem dX12_many_65 : decode cX12_many 65 = .ok (.invokestatic 369, 3) := by decide +kernel
theorem dX12_many_68 : decode cX12_many 68 = .ok (.ireturn, 1) := by decide +kernel
theorem dX12_many_69 : decode cX12_many 69 = .ok (.aload_n 0, 1) := by decide +kernel
theorem dX12_many_70 : decode cX12_many 70 = .ok (.getfield 9, 3) := by decide +kernel
theorem dX12_many_73 : decode cX12_many 73 = .ok (.bipush 8, 2) := by decide +kernel
theorem dX12_many_75 : decode cX12_many 75 = .ok (.iaload, 1) := by decide +kernel
theorem dX12_many_76 : decode cX12_many 76 = .ok (.ireturn, 1) := by decide +kernel
theorem dX12_many_77 : decode cX12_many 77 = .ok (.aload_n 0, 1) := by decide +kernel
theorem dX12_many_78 : decode cX12_many 78 = .ok (.getfield 320, 3) := by decide +kernel
theorem dX12_many_81 : decode cX12_many 81 = .ok (.ireturn, 1) := by decide +kernel
theorem dX12_many_82 : decode cX12_many 82 = .ok (.aload_n 0, 1) := by decide +kernel
theorem dX12_many_83 : decode cX12_many 83 = .ok (.getfield 127, 3) := by decide +kernel
theorem dX12_many_86 : decode cX12_many 86 = .ok (.ireturn, 1) := by decide +kernel
theorem dX12_many_87 : decode cX12_many 87 = .ok (.aload_n 0, 1) := by decide +kernel
theorem dX12_many_88 : decode cX12_many 88 = .ok (.getfield 344, 3) := by decide +kernel
theorem dX12_many_91 : decode cX12_many 91 = .ok (.ireturn, 1) := by decide +kernel
theorem dX12_many_92 : decode cX12_many 92 = .ok (.iconst (-1), 1) := by decide +kernel
theorem dX12_many_93 : decode cX12_many 93 = .ok (.ireturn, 1) := by decide +kernel
def r_many (a1 : Int32) (m : M) : Option (Int32) :=
  (if a1 = (0 : Int32) then Option.bind (rdI m 77 (6 : Int32)) (fun v1 => some v1) else (if a1 = (1 : Int32) then Option.bind (rdI m 77 (7 : Int32)) (fun v2 => some v2) else (if a1 = (2 : Int32) then Option.bind (r_those (4 : Int32) m) (fun v3 => Option.bind (r_ones v3 m) (fun v4 => some v4)) else (if a1 = (3 : Int32) then Option.bind (rdI m 77 (8 : Int32)) (fun v5 => some v5) else (if a1 = (4 : Int32) then some (m 76 28) else (if a1 = (5 : Int32) then some (m 76 6) else (if a1 = (6 : Int32) then some (m 76 35) else some (-1 : Int32))))))))
set_option maxRecDepth 20000 in
theorem t_r_many {G : GG} {x : Cx} (E : En G x cX12_many "WreckBoardModel" 3 (some .int)) (hn : xn x = 2) (a1 : Int32) (m : M) : Sm G x 0 [(0, .ref (G.2.1 76)), (1, .int a1)] [] m (r_many a1 m) (KRi m) := by
  unfold r_many
  refine s_iload_n 1 E dX12_many_0 rfl rfl ?_
  refine s_case (fun h1_0 => ?_) (fun h1_0 => ?_)
  · refine s_tabIn 44 E dX12_many_1 h1_0 (by decide) (by decide) rfl (by decide) ?_
    refine s_aload_n 0 E dX12_many_44 rfl rfl ?_
    refine s_getr (k := 0) (T := TX12) 76 E rfl rfl rfl inX12 (by decide) W1239 dX12_many_45 ?_
    refine s_bipush (v := (6 : Int32)) E dX12_many_48 (by decide) ?_
    refine s_iald E dX12_many_50 (fun v1 => ?_)
    exact s_iret E rfl dX12_many_51
  · refine s_case (fun h1_1 => ?_) (fun h1_1 => ?_)
    · refine s_tabIn 52 E dX12_many_1 h1_1 (by decide) (by decide) rfl (by decide) ?_
      refine s_aload_n 0 E dX12_many_52 rfl rfl ?_
      refine s_getr (k := 0) (T := TX12) 76 E rfl rfl rfl inX12 (by decide) W1239 dX12_many_53 ?_
      refine s_bipush (v := (7 : Int32)) E dX12_many_56 (by decide) ?_
      refine s_iald E dX12_many_58 (fun v2 => ?_)
      exact s_iret E rfl dX12_many_59
    · refine s_case (fun h1_2 => ?_) (fun h1_2 => ?_)
      · refine s_tabIn 60 E dX12_many_1 h1_2 (by decide) (by decide) rfl (by decide) ?_
        refine s_aload_n 0 E dX12_many_60 rfl rfl ?_
        refine s_iconst (v := (4 : Int32)) E dX12_many_61 (by decide) ?_
        refine s_bd (fun v3 hz => ?_)
        refine s_cV (rest := []) E (C_r_those (xl x) G (4 : Int32) m hz) mdX12_those W1549 W1551 W58 W103 W1552 rfl rfl rfl rfl (Nat.le_of_ble_eq_true rfl) ⟨by decide, by decide⟩ dX12_many_62 ?_
        refine s_bd (fun v4 hz => ?_)
        refine s_cS (rest := []) E (C_r_ones (xl x) G v3 m hz) mdX12_ones W1847 W1848 W103 W1849 rfl rfl (Nat.le_of_ble_eq_true rfl) ⟨by decide, by decide⟩ dX12_many_65 ?_
        exact s_iret E rfl dX12_many_68
      · refine s_case (fun h1_3 => ?_) (fun h1_3 => ?_)
        · refine s_tabIn 69 E dX12_many_1 h1_3 (by decide) (by decide) rfl (by decide) ?_
          refine s_aload_n 0 E dX12_many_69 rfl rfl ?_
          refine s_getr (k := 0) (T := TX12) 76 E rfl rfl rfl inX12 (by decide) W1239 dX12_many_70 ?_
          refine s_bipush (v := (8 : Int32)) E dX12_many_73 (by decide) ?_
          refine s_iald E dX12_many_75 (fun v5 => ?_)
          exact s_iret E rfl dX12_many_76
        · refine s_case (fun h1_4 => ?_) (fun h1_4 => ?_)
          · refine s_tabIn 77 E dX12_many_1 h1_4 (by decide) (by decide) rfl (by decide) ?_
            refine s_aload_n 0 E dX12_many_77 rfl rfl ?_
            refine s_geti (k := 28) (T := TX12) 76 E rfl rfl rfl inX12 (by decide) W1267 dX12_many_78 ?_
            exact s_iret E rfl dX12_many_81
          · refine s_case (fun h1_5 => ?_) (fun h1_5 => ?_)
            · refine s_tabIn 82 E dX12_many_1 h1_5 (by decide) (by decide) rfl (by decide) ?_
              refine s_aload_n 0 E dX12_many_82 rfl rfl ?_
              refine s_geti (k := 6) (T := TX12) 76 E rfl rfl rfl inX12 (by decide) W1245 dX12_many_83 ?_
              exact s_iret E rfl dX12_many_86
            · refine s_case (fun h1_6 => ?_) (fun h1_6 => ?_)
              · refine s_tabIn 87 E dX12_many_1 h1_6 (by decide) (by decide) rfl (by decide) ?_
                refine s_aload_n 0 E dX12_many_87 rfl rfl ?_
                refine s_geti (k := 35) (T := TX12) 76 E rfl rfl rfl inX12 (by decide) W1274 dX12_many_88 ?_
                exact s_iret E rfl dX12_many_91
              · refine s_tabOut 92 E dX12_many_1 (by have e0 := ne_toIntK h1_0 (k := 0) (by decide); have e1 := ne_toIntK h1_1 (k := 1) (by decide); have e2 := ne_toIntK h1_2 (k := 2) (by decide); have e3 := ne_toIntK h1_3 (k := 3) (by decide); have e4 := ne_toIntK h1_4 (k := 4) (by decide); have e5 := ne_toIntK h1_5 (k := 5) (by decide); have e6 := ne_toIntK h1_6 (k := 6) (by decide); omega) (by decide) ?_
                refine s_iconst (v := (-1 : Int32)) E dX12_many_92 (by decide) ?_
                exact s_iret E rfl dX12_many_93
set_option maxRecDepth 20000 in
theorem C_r_many (l : Launch) (G : GG) (a1 : Int32) (m : M) {z : Int32} (hz : r_many a1 m = some z) : Ct l G yX12_many cX12_many 2 (some .int) 3 [.ref (G.2.1 76), .int a1] m (some (.int z)) m :=
  ct_of (K := (KRi m)) (by decide) (Nat.le_of_ble_eq_true rfl) (congrArg (fun q => Option.bind q _) hz) (fun x hl hn E => (t_r_many E hn a1 m))
theorem dX12_keep_0 : decode cX12_keep 0 = .ok (.iconst 0, 1) := by decide +kernel
theorem dX12_keep_1 : decode cX12_keep 1 = .ok (.istore_n 1, 1) := by decide +kernel
theorem dX12_keep_2 : decode cX12_keep 2 = .ok (.iload_n 1, 1) := by decide +kernel
theorem dX12_keep_3 : decode cX12_keep 3 = .ok (.sipush 315, 3) := by decide +kernel
theorem dX12_keep_6 : decode cX12_keep 6 = .ok (.if_icmp .ge 21, 3) := by decide +kernel
theorem dX12_keep_9 : decode cX12_keep 9 = .ok (.aload_n 0, 1) := by decide +kernel
theorem dX12_keep_10 : decode cX12_keep 10 = .ok (.getfield 13, 3) := by decide +kernel
theorem dX12_keep_13 : decode cX12_keep 13 = .ok (.iload_n 1, 1) := by decide +kernel
theorem dX12_keep_14 : decode cX12_keep 14 = .ok (.aload_n 0, 1) := by decide +kernel
theorem dX12_keep_15 : decode cX12_keep 15 = .ok (.getfield 9, 3) := by decide +kernel
theorem dX12_keep_18 : decode cX12_keep 18 = .ok (.iload_n 1, 1) := by decide +kernel
theorem dX12_keep_19 : decode cX12_keep 19 = .ok (.iaload, 1) := by decide +kernel
theorem dX12_keep_20 : decode cX12_keep 20 = .ok (.iastore, 1) := by decide +kernel
theorem dX12_keep_21 : decode cX12_keep 21 = .ok (.iinc 1 1, 3) := by decide +kernel
theorem dX12_keep_24 : decode cX12_keep 24 = .ok (.goto (-22), 3) := by decide +kernel
theorem dX12_keep_27 : decode cX12_keep 27 = .ok (.aload_n 0, 1) := by decide +kernel
theorem dX12_keep_28 : decode cX12_keep 28 = .ok (.iconst 1, 1) := by decide +kernel
theorem dX12_keep_29 : decode cX12_keep 29 = .ok (.putfield 372, 3) := by decide +kernel
theorem dX12_keep_32 : decode cX12_keep 32 = .ok (.iconst 1, 1) := by decide +kernel
theorem dX12_keep_33 : decode cX12_keep 33 = .ok (.ireturn, 1) := by decide +kernel
def r_keep_2b (a1 : Int32) (m : M) : Option ((Int32 × M) ⊕ ((M))) :=
  (if (315 : Int32) ≤ a1 then some (.inr m) else Option.bind (rdI m 77 a1) (fun v1 => Option.bind (wrI m 78 a1 v1) (fun m2 => lt (a1 + (1 : Int32)) (fun w3 : Int32 => some (.inl (w3, m2))))))
set_option maxRecDepth 20000 in
theorem t_r_keep_2b {G : GG} {x : Cx} {K : ((Int32 × M) ⊕ ((M))) → Option (Option Value × M)} (E : En G x cX12_keep "WreckBoardModel" 1 (some .int)) (hn : xn x = 2) (a1 : Int32) (m : M) (hb : ∀ z : Int32 × M, Sm G x 2 [(0, .ref (G.2.1 76)), (1, .int z.1)] [] z.2 (some (.inl z)) K) (hx0 : ∀ z : M, Sm G x 27 [(0, .ref (G.2.1 76))] [] z (some (.inr z)) K) : Sm G x 2 [(0, .ref (G.2.1 76)), (1, .int a1)] [] m (r_keep_2b a1 m) K := by
  unfold r_keep_2b
  refine s_iload_n 1 E dX12_keep_2 rfl rfl ?_
  refine s_sipush (v := (315 : Int32)) E dX12_keep_3 (by decide) ?_
  refine s_icmp_ge 27 E dX12_keep_6 (by decide) ?_ ?_
  · refine s_sub (lv' := [(0, .ref (G.2.1 76))]) [0] rfl ?_
    exact hx0 m
  · refine s_aload_n 0 E dX12_keep_9 rfl rfl ?_
    refine s_getr (k := 1) (T := TX12) 76 E rfl rfl rfl inX12 (by decide) W1240 dX12_keep_10 ?_
    refine s_iload_n 1 E dX12_keep_13 rfl rfl ?_
    refine s_aload_n 0 E dX12_keep_14 rfl rfl ?_
    refine s_getr (k := 0) (T := TX12) 76 E rfl rfl rfl inX12 (by decide) W1239 dX12_keep_15 ?_
    refine s_iload_n 1 E dX12_keep_18 rfl rfl ?_
    refine s_iald E dX12_keep_19 (fun v1 => ?_)
    refine s_iast E dX12_keep_20 (fun m2 => ?_)
    refine s_iincL (v := (1 : Int32)) 1 [1, 0] (fun w3 => [(0, .ref (G.2.1 76)), (1, .int w3)]) E dX12_keep_21 rfl (by decide) (by rw [hn]; decide) (fun _ => rfl) (fun w3 => ?_)
    refine s_goto 2 E dX12_keep_24 (by decide) ?_
    exact hb (w3, m2)
def r_keep_2 (a1 : Int32) (m : M) : Option (Int32 × M) :=
  Option.bind (iter (fun z => r_keep_2b z.1 z.2) FU (a1, m)) (fun r => lt (wrF r 76 3 (1 : Int32)) (fun m4 => some ((1 : Int32), m4)))
set_option maxRecDepth 20000 in
theorem t_r_keep_2 {G : GG} {x : Cx} (E : En G x cX12_keep "WreckBoardModel" 1 (some .int)) (hn : xn x = 2) (a1 : Int32) (m : M) : Sm G x 2 [(0, .ref (G.2.1 76)), (1, .int a1)] [] m (r_keep_2 a1 m) KWi := by
  unfold r_keep_2
  refine s_loop (fun z => [(0, .ref (G.2.1 76)), (1, .int z.1)]) (fun z => z.2) (fun K2 hb2 hr2 z => ?_) FU (a1, m)
  refine t_r_keep_2b (K := K2) E hn z.1 z.2 hb2 (fun r => s_out (hr2 r) ?_)
  · refine s_aload_n 0 E dX12_keep_27 rfl rfl ?_
    refine s_iconst (v := (1 : Int32)) E dX12_keep_28 (by decide) ?_
    refine s_put (k := 3) (T := TX12) (ty := .boolean) 76 E rfl rfl rfl inX12 tyX12 tyX12_ok nmX12 (by decide) W1242 rfl (by decide +kernel) (by decide) (by decide) dX12_keep_29 ?_
    refine s_ltm rfl (fun m4 => ?_)
    refine s_iconst (v := (1 : Int32)) E dX12_keep_32 (by decide) ?_
    exact s_iret E rfl dX12_keep_33
def r_keep  (m : M) : Option (Int32 × M) :=
  r_keep_2 (0 : Int32) m
set_option maxRecDepth 20000 in
theorem t_r_keep {G : GG} {x : Cx} (E : En G x cX12_keep "WreckBoardModel" 1 (some .int)) (hn : xn x = 2)  (m : M) : Sm G x 0 [(0, .ref (G.2.1 76))] [] m (r_keep m) KWi := by
  unfold r_keep
  refine s_iconst (v := (0 : Int32)) E dX12_keep_0 (by decide) ?_
  refine s_istore_n (lv' := [(0, .ref (G.2.1 76)), (1, .int (0 : Int32))]) [1, 0] E dX12_keep_1 rfl (by rw [hn]; decide) rfl ?_
  exact t_r_keep_2 E hn (0 : Int32) m
set_option maxRecDepth 20000 in
theorem C_r_keep (l : Launch) (G : GG)  (m : M) {z : Int32 × M} (hz : r_keep m = some z) : Ct l G yX12_keep cX12_keep 2 (some .int) 1 [.ref (G.2.1 76)] m (some (.int z.1)) z.2 :=
  ct_of (K := KWi) (by decide) (Nat.le_of_ble_eq_true rfl) (congrArg (fun q => Option.bind q _) hz) (fun x hl hn E => (t_r_keep E hn  m))
theorem dX12_again_0 : decode cX12_again 0 = .ok (.aload_n 0, 1) := by decide +kernel
theorem dX12_again_1 : decode cX12_again 1 = .ok (.getfield 372, 3) := by decide +kernel
theorem dX12_again_4 : decode cX12_again 4 = .ok (.ifCond .ne 6, 3) := by decide +kernel
theorem dX12_again_7 : decode cX12_again 7 = .ok (.bipush (-3), 2) := by decide +kernel
theorem dX12_again_9 : decode cX12_again 9 = .ok (.ireturn, 1) := by decide +kernel
theorem dX12_again_10 : decode cX12_again 10 = .ok (.iconst 0, 1) := by decide +kernel
theorem dX12_again_11 : decode cX12_again 11 = .ok (.istore_n 1, 1) := by decide +kernel
theorem dX12_again_12 : decode cX12_again 12 = .ok (.iload_n 1, 1) := by decide +kernel
theorem dX12_again_13 : decode cX12_again 13 = .ok (.sipush 315, 3) := by decide +kernel
theorem dX12_again_16 : decode cX12_again 16 = .ok (.if_icmp .ge 21, 3) := by decide +kernel
theorem dX12_again_19 : decode cX12_again 19 = .ok (.aload_n 0, 1) := by decide +kernel
theorem dX12_again_20 : decode cX12_again 20 = .ok (.getfield 9, 3) := by decide +kernel
theorem dX12_again_23 : decode cX12_again 23 = .ok (.iload_n 1, 1) := by decide +kernel
theorem dX12_again_24 : decode cX12_again 24 = .ok (.aload_n 0, 1) := by decide +kernel
theorem dX12_again_25 : decode cX12_again 25 = .ok (.getfield 13, 3) := by decide +kernel
theorem dX12_again_28 : decode cX12_again 28 = .ok (.iload_n 1, 1) := by decide +kernel
theorem dX12_again_29 : decode cX12_again 29 = .ok (.iaload, 1) := by decide +kernel
theorem dX12_again_30 : decode cX12_again 30 = .ok (.iastore, 1) := by decide +kernel
theorem dX12_again_31 : decode cX12_again 31 = .ok (.iinc 1 1, 3) := by decide +kernel
theorem dX12_again_34 : decode cX12_again 34 = .ok (.goto (-22), 3) := by decide +kernel
theorem dX12_again_37 : decode cX12_again 37 = .ok (.aload_n 0, 1) := by decide +kernel
theorem dX12_again_38 : decode cX12_again 38 = .ok (.getfield 9, 3) := by decide +kernel
theorem dX12_again_41 : decode cX12_again 41 = .ok (.bipush 6, 2) := by decide +kernel
theorem dX12_again_43 : decode cX12_again 43 = .ok (.iaload, 1) := by decide +kernel
theorem dX12_again_44 : decode cX12_again 44 = .ok (.ireturn, 1) := by decide +kernel
def r_again_12b (a1 : Int32) (m : M) : Option ((Int32 × M) ⊕ ((M))) :=
  (if (315 : Int32) ≤ a1 then some (.inr m) else Option.bind (rdI m 78 a1) (fun v1 => Option.bind (wrI m 77 a1 v1) (fun m2 => lt (a1 + (1 : Int32)) (fun w3 : Int32 => some (.inl (w3, m2))))))
set_option maxRecDepth 20000 in
theorem t_r_again_12b {G : GG} {x : Cx} {K : ((Int32 × M) ⊕ ((M))) → Option (Option Value × M)} (E : En G x cX12_again "WreckBoardModel" 1 (some .int)) (hn : xn x = 2) (a1 : Int32) (m : M) (hb : ∀ z : Int32 × M, Sm G x 12 [(0, .ref (G.2.1 76)), (1, .int z.1)] [] z.2 (some (.inl z)) K) (hx0 : ∀ z : M, Sm G x 37 [(0, .ref (G.2.1 76))] [] z (some (.inr z)) K) : Sm G x 12 [(0, .ref (G.2.1 76)), (1, .int a1)] [] m (r_again_12b a1 m) K := by
  unfold r_again_12b
  refine s_iload_n 1 E dX12_again_12 rfl rfl ?_
  refine s_sipush (v := (315 : Int32)) E dX12_again_13 (by decide) ?_
  refine s_icmp_ge 37 E dX12_again_16 (by decide) ?_ ?_
  · refine s_sub (lv' := [(0, .ref (G.2.1 76))]) [0] rfl ?_
    exact hx0 m
  · refine s_aload_n 0 E dX12_again_19 rfl rfl ?_
    refine s_getr (k := 0) (T := TX12) 76 E rfl rfl rfl inX12 (by decide) W1239 dX12_again_20 ?_
    refine s_iload_n 1 E dX12_again_23 rfl rfl ?_
    refine s_aload_n 0 E dX12_again_24 rfl rfl ?_
    refine s_getr (k := 1) (T := TX12) 76 E rfl rfl rfl inX12 (by decide) W1240 dX12_again_25 ?_
    refine s_iload_n 1 E dX12_again_28 rfl rfl ?_
    refine s_iald E dX12_again_29 (fun v1 => ?_)
    refine s_iast E dX12_again_30 (fun m2 => ?_)
    refine s_iincL (v := (1 : Int32)) 1 [1, 0] (fun w3 => [(0, .ref (G.2.1 76)), (1, .int w3)]) E dX12_again_31 rfl (by decide) (by rw [hn]; decide) (fun _ => rfl) (fun w3 => ?_)
    refine s_goto 12 E dX12_again_34 (by decide) ?_
    exact hb (w3, m2)
def r_again_12 (a1 : Int32) (m : M) : Option (Int32 × M) :=
  Option.bind (iter (fun z => r_again_12b z.1 z.2) FU (a1, m)) (fun r => Option.bind (rdI r 77 (6 : Int32)) (fun v4 => some (v4, r)))
set_option maxRecDepth 20000 in
theorem t_r_again_12 {G : GG} {x : Cx} (E : En G x cX12_again "WreckBoardModel" 1 (some .int)) (hn : xn x = 2) (a1 : Int32) (m : M) : Sm G x 12 [(0, .ref (G.2.1 76)), (1, .int a1)] [] m (r_again_12 a1 m) KWi := by
  unfold r_again_12
  refine s_loop (fun z => [(0, .ref (G.2.1 76)), (1, .int z.1)]) (fun z => z.2) (fun K2 hb2 hr2 z => ?_) FU (a1, m)
  refine t_r_again_12b (K := K2) E hn z.1 z.2 hb2 (fun r => s_out (hr2 r) ?_)
  · refine s_aload_n 0 E dX12_again_37 rfl rfl ?_
    refine s_getr (k := 0) (T := TX12) 76 E rfl rfl rfl inX12 (by decide) W1239 dX12_again_38 ?_
    refine s_bipush (v := (6 : Int32)) E dX12_again_41 (by decide) ?_
    refine s_iald E dX12_again_43 (fun v4 => ?_)
    exact s_iret E rfl dX12_again_44
def r_again  (m : M) : Option (Int32 × M) :=
  (if (m 76 3) = 0 then some ((-3 : Int32), m) else r_again_12 (0 : Int32) m)
set_option maxRecDepth 20000 in
theorem t_r_again {G : GG} {x : Cx} (E : En G x cX12_again "WreckBoardModel" 1 (some .int)) (hn : xn x = 2)  (m : M) : Sm G x 0 [(0, .ref (G.2.1 76))] [] m (r_again m) KWi := by
  unfold r_again
  refine s_aload_n 0 E dX12_again_0 rfl rfl ?_
  refine s_geti (k := 3) (T := TX12) 76 E rfl rfl rfl inX12 (by decide) W1242 dX12_again_1 ?_
  refine s_if_ne 10 E dX12_again_4 (by decide) ?_ ?_
  · refine s_iconst (v := (0 : Int32)) E dX12_again_10 (by decide) ?_
    refine s_istore_n (lv' := [(0, .ref (G.2.1 76)), (1, .int (0 : Int32))]) [1, 0] E dX12_again_11 rfl (by rw [hn]; decide) rfl ?_
    exact t_r_again_12 E hn (0 : Int32) m
  · refine s_bipush (v := (-3 : Int32)) E dX12_again_7 (by decide) ?_
    exact s_iret E rfl dX12_again_9
set_option maxRecDepth 20000 in
theorem C_r_again (l : Launch) (G : GG)  (m : M) {z : Int32 × M} (hz : r_again m = some z) : Ct l G yX12_again cX12_again 2 (some .int) 1 [.ref (G.2.1 76)] m (some (.int z.1)) z.2 :=
  ct_of (K := KWi) (by decide) (Nat.le_of_ble_eq_true rfl) (congrArg (fun q => Option.bind q _) hz) (fun x hl hn E => (t_r_again E hn  m))
