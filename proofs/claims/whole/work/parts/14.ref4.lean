set_option maxRecDepth 20000 in
theorem C_r_bars (l : Launch) (G : GG) (a1 : Int32) (a2 : Int32) (m : M) {z : Int32 × M} (hz : r_bars a1 a2 m = some z) : Ct l G yX12_bars cX12_bars 5 (some .int) 18 [.ref (G.2.1 76), .int a1, .int a2] m (some (.int z.1)) z.2 :=
  ct_of (K := KWi) (by decide) (Nat.le_of_ble_eq_true rfl) (congrArg (fun q => Option.bind q _) hz) (fun x hl hn E => (t_r_bars E hn a1 a2 m))
theorem mdX12_playedFrom : mdq yX12_playedFrom 2 := ⟨by decide, by decide, by decide +kernel⟩
theorem dX12_playedFrom_0 : decode cX12_playedFrom 0 = .ok (.iload_n 1, 1) := by decide +kernel
theorem dX12_playedFrom_1 : decode cX12_playedFrom 1 = .ok (.iload_n 2, 1) := by decide +kernel
theorem dX12_playedFrom_2 : decode cX12_playedFrom 2 = .ok (.if_icmp .ne 5, 3) := by decide +kernel
theorem dX12_playedFrom_5 : decode cX12_playedFrom 5 = .ok (.iconst 0, 1) := by decide +kernel
theorem dX12_playedFrom_6 : decode cX12_playedFrom 6 = .ok (.ireturn, 1) := by decide +kernel
theorem dX12_playedFrom_7 : decode cX12_playedFrom 7 = .ok (.aload_n 0, 1) := by decide +kernel
theorem dX12_playedFrom_8 : decode cX12_playedFrom 8 = .ok (.iload_n 1, 1) := by decide +kernel
theorem dX12_playedFrom_9 : decode cX12_playedFrom 9 = .ok (.invokevirtual 278, 3) := by decide +kernel
theorem dX12_playedFrom_12 : decode cX12_playedFrom 12 = .ok (.iconst 0, 1) := by decide +kernel
theorem dX12_playedFrom_13 : decode cX12_playedFrom 13 = .ok (.istore_n 3, 1) := by decide +kernel
theorem dX12_playedFrom_14 : decode cX12_playedFrom 14 = .ok (.iconst (-1), 1) := by decide +kernel
theorem dX12_playedFrom_15 : decode cX12_playedFrom 15 = .ok (.istore 4, 2) := by decide +kernel
theorem dX12_playedFrom_17 : decode cX12_playedFrom 17 = .ok (.iconst 0, 1) := by decide +kernel
theorem dX12_playedFrom_18 : decode cX12_playedFrom 18 = .ok (.istore 5, 2) := by decide +kernel
theorem dX12_playedFrom_20 : decode cX12_playedFrom 20 = .ok (.iload 5, 2) := by decide +kernel
theorem dX12_playedFrom_22 : decode cX12_playedFrom 22 = .ok (.aload_n 0, 1) := by decide +kernel
theorem dX12_playedFrom_23 : decode cX12_playedFrom 23 = .ok (.getfield 9, 3) := by decide +kernel
theorem dX12_playedFrom_26 : decode cX12_playedFrom 26 = .ok (.bipush 6, 2) := by decide +kernel
theorem dX12_playedFrom_28 : decode cX12_playedFrom 28 = .ok (.iaload, 1) := by decide +kernel
theorem dX12_playedFrom_29 : decode cX12_playedFrom 29 = .ok (.if_icmp .gt 94, 3) := by decide +kernel
theorem dX12_playedFrom_32 : decode cX12_playedFrom 32 = .ok (.aload_n 0, 1) := by decide +kernel
theorem dX12_playedFrom_33 : decode cX12_playedFrom 33 = .ok (.iload 5, 2) := by decide +kernel
theorem dX12_playedFrom_35 : decode cX12_playedFrom 35 = .ok (.invokevirtual 238, 3) := by decide +kernel
theorem dX12_playedFrom_38 : decode cX12_playedFrom 38 = .ok (.istore 6, 2) := by decide +kernel
theorem dX12_playedFrom_40 : decode cX12_playedFrom 40 = .ok (.iload 6, 2) := by decide +kernel
theorem dX12_playedFrom_42 : decode cX12_playedFrom 42 = .ok (.aload_n 0, 1) := by decide +kernel
theorem dX12_playedFrom_43 : decode cX12_playedFrom 43 = .ok (.iload_n 1, 1) := by decide +kernel
theorem dX12_playedFrom_44 : decode cX12_playedFrom 44 = .ok (.iconst 1, 1) := by decide +kernel
theorem dX12_playedFrom_45 : decode cX12_playedFrom 45 = .ok (.iadd, 1) := by decide +kernel
theorem dX12_playedFrom_46 : decode cX12_playedFrom 46 = .ok (.iload_n 2, 1) := by decide +kernel
theorem dX12_playedFrom_47 : decode cX12_playedFrom 47 = .ok (.invokevirtual 301, 3) := by decide +kernel
theorem dX12_playedFrom_50 : decode cX12_playedFrom 50 = .ok (.iadd, 1) := by decide +kernel
theorem dX12_playedFrom_51 : decode cX12_playedFrom 51 = .ok (.istore 7, 2) := by decide +kernel
theorem dX12_playedFrom_53 : decode cX12_playedFrom 53 = .ok (.aload_n 0, 1) := by decide +kernel
theorem dX12_playedFrom_54 : decode cX12_playedFrom 54 = .ok (.iload_n 1, 1) := by decide +kernel
theorem dX12_playedFrom_55 : decode cX12_playedFrom 55 = .ok (.invokevirtual 285, 3) := by decide +kernel
theorem dX12_playedFrom_58 : decode cX12_playedFrom 58 = .ok (.iload 4, 2) := by decide +kernel
theorem dX12_playedFrom_60 : decode cX12_playedFrom 60 = .ok (.ifCond .lt 24, 3) := by decide +kernel
theorem dX12_playedFrom_63 : decode cX12_playedFrom 63 = .ok (.iload_n 1, 1) := by decide +kernel
theorem dX12_playedFrom_64 : decode cX12_playedFrom 64 = .ok (.iconst 2, 1) := by decide +kernel
theorem dX12_playedFrom_65 : decode cX12_playedFrom 65 = .ok (.irem, 1) := by decide +kernel
theorem dX12_playedFrom_66 : decode cX12_playedFrom 66 = .ok (.ifCond .ne 12, 3) := by decide +kernel
theorem dX12_playedFrom_69 : decode cX12_playedFrom 69 = .ok (.iload 7, 2) := by decide +kernel
theorem dX12_playedFrom_71 : decode cX12_playedFrom 71 = .ok (.iload_n 3, 1) := by decide +kernel
theorem dX12_playedFrom_72 : decode cX12_playedFrom 72 = .ok (.if_icmp .le 16, 3) := by decide +kernel
theorem dX12_playedFrom_75 : decode cX12_playedFrom 75 = .ok (.goto 9, 3) := by decide +kernel
theorem dX12_playedFrom_78 : decode cX12_playedFrom 78 = .ok (.iload 7, 2) := by decide +kernel
theorem dX12_playedFrom_80 : decode cX12_playedFrom 80 = .ok (.iload_n 3, 1) := by decide +kernel
theorem dX12_playedFrom_81 : decode cX12_playedFrom 81 = .ok (.if_icmp .ge 7, 3) := by decide +kernel
theorem dX12_playedFrom_84 : decode cX12_playedFrom 84 = .ok (.iconst 1, 1) := by decide +kernel
theorem dX12_playedFrom_85 : decode cX12_playedFrom 85 = .ok (.goto 4, 3) := by decide +kernel
theorem dX12_playedFrom_88 : decode cX12_playedFrom 88 = .ok (.iconst 0, 1) := by decide +kernel
theorem dX12_playedFrom_89 : decode cX12_playedFrom 89 = .ok (.istore 8, 2) := by decide +kernel
theorem dX12_playedFrom_91 : decode cX12_playedFrom 91 = .ok (.iload 8, 2) := by decide +kernel
theorem dX12_playedFrom_93 : decode cX12_playedFrom 93 = .ok (.ifCond .eq 8, 3) := by decide +kernel
theorem dX12_playedFrom_96 : decode cX12_playedFrom 96 = .ok (.iload 5, 2) := by decide +kernel
theorem dX12_playedFrom_98 : decode cX12_playedFrom 98 = .ok (.goto 5, 3) := by decide +kernel
theorem dX12_playedFrom_101 : decode cX12_playedFrom 101 = .ok (.iload 4, 2) := by decide +kernel
theorem dX12_playedFrom_103 : decode cX12_playedFrom 103 = .ok (.istore 4, 2) := by decide +kernel
theorem dX12_playedFrom_105 : decode cX12_playedFrom 105 = .ok (.iload 8, 2) := by decide +kernel
theorem dX12_playedFrom_107 : decode cX12_playedFrom 107 = .ok (.ifCond .eq 8, 3) := by decide +kernel
theorem dX12_playedFrom_110 : decode cX12_playedFrom 110 = .ok (.iload 7, 2) := by decide +kernel
theorem dX12_playedFrom_112 : decode cX12_playedFrom 112 = .ok (.goto 4, 3) := by decide +kernel
theorem dX12_playedFrom_115 : decode cX12_playedFrom 115 = .ok (.iload_n 3, 1) := by decide +kernel
theorem dX12_playedFrom_116 : decode cX12_playedFrom 116 = .ok (.istore_n 3, 1) := by decide +kernel
theorem dX12_playedFrom_117 : decode cX12_playedFrom 117 = .ok (.iinc 5 1, 3) := by decide +kernel
theorem dX12_playedFrom_120 : decode cX12_playedFrom 120 = .ok (.goto (-100), 3) := by decide +kernel
theorem dX12_playedFrom_123 : decode cX12_playedFrom 123 = .ok (.aload_n 0, 1) := by decide +kernel
theorem dX12_playedFrom_124 : decode cX12_playedFrom 124 = .ok (.getfield 38, 3) := by decide +kernel
theorem dX12_playedFrom_127 : decode cX12_playedFrom 127 = .ok (.iload_n 1, 1) := by decide +kernel
theorem dX12_playedFrom_128 : decode cX12_playedFrom 128 = .ok (.iload 4, 2) := by decide +kernel
theorem dX12_playedFrom_130 : decode cX12_playedFrom 130 = .ok (.iastore, 1) := by decide +kernel
theorem dX12_playedFrom_131 : decode cX12_playedFrom 131 = .ok (.iload_n 3, 1) := by decide +kernel
theorem dX12_playedFrom_132 : decode cX12_playedFrom 132 = .ok (.ireturn, 1) := by decide +kernel
def r_playedFrom_116 (rec : Int32 → Int32 → M → Option (Int32 × M)) (a1 : Int32) (a2 : Int32) (a4 : Int32) (a5 : Int32) (s0 : Int32) (m : M) : Option ((Int32 × Int32 × Int32 × M) ⊕ ((Int32 × Int32 × M))) :=
  lt (a5 + (1 : Int32)) (fun w1 : Int32 => some (.inl (s0, a4, w1, m)))
set_option maxRecDepth 20000 in
theorem t_r_playedFrom_116 {G : GG} {x : Cx} {lv0 : Nat} {K : ((Int32 × Int32 × Int32 × M) ⊕ ((Int32 × Int32 × M))) → Option (Option Value × M)} (E : En G x cX12_playedFrom "WreckBoardModel" (lv0 + 1) (some .int)) (hn : xn x = 9) (rec : Int32 → Int32 → M → Option (Int32 × M)) (hlb : 8 ≤ lv0) (hrec : ∀ (a1 : Int32) (a2 : Int32) (m : M) (z : Int32 × M), rec a1 a2 m = some z → Ct (xl x) G yX12_playedFrom cX12_playedFrom 9 (some .int) lv0 [.ref (G.2.1 76), .int a1, .int a2] m (some (.int z.1)) z.2) (a1 : Int32) (a2 : Int32) (a4 : Int32) (a5 : Int32) (s0 : Int32) (m : M) (hb : ∀ z : Int32 × Int32 × Int32 × M, Sm G x 20 [(0, .ref (G.2.1 76)), (1, .int a1), (2, .int a2), (3, .int z.1), (4, .int z.2.1), (5, .int z.2.2.1)] [] z.2.2.2 (some (.inl z)) K) (hx0 : ∀ z : Int32 × Int32 × M, Sm G x 123 [(0, .ref (G.2.1 76)), (1, .int a1), (3, .int z.1), (4, .int z.2.1)] [] z.2.2 (some (.inr z)) K) : Sm G x 116 [(0, .ref (G.2.1 76)), (1, .int a1), (2, .int a2), (4, .int a4), (5, .int a5)] [.int s0] m (r_playedFrom_116 rec a1 a2 a4 a5 s0 m) K := by
  unfold r_playedFrom_116
  refine s_istore_n (lv' := [(0, .ref (G.2.1 76)), (1, .int a1), (2, .int a2), (3, .int s0), (4, .int a4), (5, .int a5)]) [1, 2, 3, 0, 4, 5] E dX12_playedFrom_116 rfl (by rw [hn]; decide) rfl ?_
  refine s_iincL (v := (1 : Int32)) 5 [1, 2, 3, 4, 5, 0] (fun w1 => [(0, .ref (G.2.1 76)), (1, .int a1), (2, .int a2), (3, .int s0), (4, .int a4), (5, .int w1)]) E dX12_playedFrom_117 rfl (by decide) (by rw [hn]; decide) (fun _ => rfl) (fun w1 => ?_)
  refine s_goto 20 E dX12_playedFrom_120 (by decide) ?_
  exact hb (s0, a4, w1, m)
def r_playedFrom_103 (rec : Int32 → Int32 → M → Option (Int32 × M)) (a1 : Int32) (a2 : Int32) (a3 : Int32) (a5 : Int32) (a7 : Int32) (a8 : Int32) (s0 : Int32) (m : M) : Option ((Int32 × Int32 × Int32 × M) ⊕ ((Int32 × Int32 × M))) :=
  (if a8 = 0 then r_playedFrom_116 rec a1 a2 s0 a5 a3 m else r_playedFrom_116 rec a1 a2 s0 a5 a7 m)
set_option maxRecDepth 20000 in
theorem t_r_playedFrom_103 {G : GG} {x : Cx} {lv0 : Nat} {K : ((Int32 × Int32 × Int32 × M) ⊕ ((Int32 × Int32 × M))) → Option (Option Value × M)} (E : En G x cX12_playedFrom "WreckBoardModel" (lv0 + 1) (some .int)) (hn : xn x = 9) (rec : Int32 → Int32 → M → Option (Int32 × M)) (hlb : 8 ≤ lv0) (hrec : ∀ (a1 : Int32) (a2 : Int32) (m : M) (z : Int32 × M), rec a1 a2 m = some z → Ct (xl x) G yX12_playedFrom cX12_playedFrom 9 (some .int) lv0 [.ref (G.2.1 76), .int a1, .int a2] m (some (.int z.1)) z.2) (a1 : Int32) (a2 : Int32) (a3 : Int32) (a5 : Int32) (a7 : Int32) (a8 : Int32) (s0 : Int32) (m : M) (hb : ∀ z : Int32 × Int32 × Int32 × M, Sm G x 20 [(0, .ref (G.2.1 76)), (1, .int a1), (2, .int a2), (3, .int z.1), (4, .int z.2.1), (5, .int z.2.2.1)] [] z.2.2.2 (some (.inl z)) K) (hx0 : ∀ z : Int32 × Int32 × M, Sm G x 123 [(0, .ref (G.2.1 76)), (1, .int a1), (3, .int z.1), (4, .int z.2.1)] [] z.2.2 (some (.inr z)) K) : Sm G x 103 [(0, .ref (G.2.1 76)), (1, .int a1), (2, .int a2), (3, .int a3), (5, .int a5), (7, .int a7), (8, .int a8)] [.int s0] m (r_playedFrom_103 rec a1 a2 a3 a5 a7 a8 s0 m) K := by
  unfold r_playedFrom_103
  refine s_istore (lv' := [(0, .ref (G.2.1 76)), (1, .int a1), (2, .int a2), (3, .int a3), (4, .int s0), (5, .int a5), (7, .int a7), (8, .int a8)]) [1, 2, 3, 4, 0, 5, 6, 7] E dX12_playedFrom_103 (by rw [hn]; decide) rfl ?_
  refine s_iload 7 E dX12_playedFrom_105 rfl ?_
  refine s_if_eq 115 E dX12_playedFrom_107 (by decide) ?_ ?_
  · refine s_iload_n 3 E dX12_playedFrom_115 rfl rfl ?_
    refine s_sub (lv' := [(0, .ref (G.2.1 76)), (1, .int a1), (2, .int a2), (4, .int s0), (5, .int a5)]) [0, 1, 2, 4, 5] rfl ?_
    exact t_r_playedFrom_116 E hn rec hlb hrec a1 a2 s0 a5 a3 m hb hx0
  · refine s_iload 6 E dX12_playedFrom_110 rfl ?_
    refine s_goto 116 E dX12_playedFrom_112 (by decide) ?_
    refine s_sub (lv' := [(0, .ref (G.2.1 76)), (1, .int a1), (2, .int a2), (4, .int s0), (5, .int a5)]) [0, 1, 2, 4, 5] rfl ?_
    exact t_r_playedFrom_116 E hn rec hlb hrec a1 a2 s0 a5 a7 m hb hx0
def r_playedFrom_89 (rec : Int32 → Int32 → M → Option (Int32 × M)) (a1 : Int32) (a2 : Int32) (a3 : Int32) (a4 : Int32) (a5 : Int32) (a7 : Int32) (s0 : Int32) (m : M) : Option ((Int32 × Int32 × Int32 × M) ⊕ ((Int32 × Int32 × M))) :=
  (if s0 = 0 then r_playedFrom_103 rec a1 a2 a3 a5 a7 s0 a4 m else r_playedFrom_103 rec a1 a2 a3 a5 a7 s0 a5 m)
set_option maxRecDepth 20000 in
theorem t_r_playedFrom_89 {G : GG} {x : Cx} {lv0 : Nat} {K : ((Int32 × Int32 × Int32 × M) ⊕ ((Int32 × Int32 × M))) → Option (Option Value × M)} (E : En G x cX12_playedFrom "WreckBoardModel" (lv0 + 1) (some .int)) (hn : xn x = 9) (rec : Int32 → Int32 → M → Option (Int32 × M)) (hlb : 8 ≤ lv0) (hrec : ∀ (a1 : Int32) (a2 : Int32) (m : M) (z : Int32 × M), rec a1 a2 m = some z → Ct (xl x) G yX12_playedFrom cX12_playedFrom 9 (some .int) lv0 [.ref (G.2.1 76), .int a1, .int a2] m (some (.int z.1)) z.2) (a1 : Int32) (a2 : Int32) (a3 : Int32) (a4 : Int32) (a5 : Int32) (a7 : Int32) (s0 : Int32) (m : M) (hb : ∀ z : Int32 × Int32 × Int32 × M, Sm G x 20 [(0, .ref (G.2.1 76)), (1, .int a1), (2, .int a2), (3, .int z.1), (4, .int z.2.1), (5, .int z.2.2.1)] [] z.2.2.2 (some (.inl z)) K) (hx0 : ∀ z : Int32 × Int32 × M, Sm G x 123 [(0, .ref (G.2.1 76)), (1, .int a1), (3, .int z.1), (4, .int z.2.1)] [] z.2.2 (some (.inr z)) K) : Sm G x 89 [(0, .ref (G.2.1 76)), (1, .int a1), (2, .int a2), (3, .int a3), (4, .int a4), (5, .int a5), (7, .int a7)] [.int s0] m (r_playedFrom_89 rec a1 a2 a3 a4 a5 a7 s0 m) K := by
  unfold r_playedFrom_89
  refine s_istore (lv' := [(0, .ref (G.2.1 76)), (1, .int a1), (2, .int a2), (3, .int a3), (4, .int a4), (5, .int a5), (7, .int a7), (8, .int s0)]) [1, 2, 3, 4, 5, 6, 7, 0] E dX12_playedFrom_89 (by rw [hn]; decide) rfl ?_
  refine s_iload 7 E dX12_playedFrom_91 rfl ?_
  refine s_if_eq 101 E dX12_playedFrom_93 (by decide) ?_ ?_
  · refine s_iload 4 E dX12_playedFrom_101 rfl ?_
    refine s_sub (lv' := [(0, .ref (G.2.1 76)), (1, .int a1), (2, .int a2), (3, .int a3), (5, .int a5), (7, .int a7), (8, .int s0)]) [0, 1, 2, 3, 5, 6, 7] rfl ?_
    exact t_r_playedFrom_103 E hn rec hlb hrec a1 a2 a3 a5 a7 s0 a4 m hb hx0
  · refine s_iload 5 E dX12_playedFrom_96 rfl ?_
    refine s_goto 103 E dX12_playedFrom_98 (by decide) ?_
    refine s_sub (lv' := [(0, .ref (G.2.1 76)), (1, .int a1), (2, .int a2), (3, .int a3), (5, .int a5), (7, .int a7), (8, .int s0)]) [0, 1, 2, 3, 5, 6, 7] rfl ?_
    exact t_r_playedFrom_103 E hn rec hlb hrec a1 a2 a3 a5 a7 s0 a5 m hb hx0
def r_playedFrom_84 (rec : Int32 → Int32 → M → Option (Int32 × M)) (a1 : Int32) (a2 : Int32) (a3 : Int32) (a4 : Int32) (a5 : Int32) (a7 : Int32) (m : M) : Option ((Int32 × Int32 × Int32 × M) ⊕ ((Int32 × Int32 × M))) :=
  r_playedFrom_89 rec a1 a2 a3 a4 a5 a7 (1 : Int32) m
set_option maxRecDepth 20000 in
theorem t_r_playedFrom_84 {G : GG} {x : Cx} {lv0 : Nat} {K : ((Int32 × Int32 × Int32 × M) ⊕ ((Int32 × Int32 × M))) → Option (Option Value × M)} (E : En G x cX12_playedFrom "WreckBoardModel" (lv0 + 1) (some .int)) (hn : xn x = 9) (rec : Int32 → Int32 → M → Option (Int32 × M)) (hlb : 8 ≤ lv0) (hrec : ∀ (a1 : Int32) (a2 : Int32) (m : M) (z : Int32 × M), rec a1 a2 m = some z → Ct (xl x) G yX12_playedFrom cX12_playedFrom 9 (some .int) lv0 [.ref (G.2.1 76), .int a1, .int a2] m (some (.int z.1)) z.2) (a1 : Int32) (a2 : Int32) (a3 : Int32) (a4 : Int32) (a5 : Int32) (a7 : Int32) (m : M) (hb : ∀ z : Int32 × Int32 × Int32 × M, Sm G x 20 [(0, .ref (G.2.1 76)), (1, .int a1), (2, .int a2), (3, .int z.1), (4, .int z.2.1), (5, .int z.2.2.1)] [] z.2.2.2 (some (.inl z)) K) (hx0 : ∀ z : Int32 × Int32 × M, Sm G x 123 [(0, .ref (G.2.1 76)), (1, .int a1), (3, .int z.1), (4, .int z.2.1)] [] z.2.2 (some (.inr z)) K) : Sm G x 84 [(0, .ref (G.2.1 76)), (1, .int a1), (2, .int a2), (3, .int a3), (4, .int a4), (5, .int a5), (7, .int a7)] [] m (r_playedFrom_84 rec a1 a2 a3 a4 a5 a7 m) K := by
  unfold r_playedFrom_84
  refine s_iconst (v := (1 : Int32)) E dX12_playedFrom_84 (by decide) ?_
  refine s_goto 89 E dX12_playedFrom_85 (by decide) ?_
  exact t_r_playedFrom_89 E hn rec hlb hrec a1 a2 a3 a4 a5 a7 (1 : Int32) m hb hx0
def r_playedFrom_88 (rec : Int32 → Int32 → M → Option (Int32 × M)) (a1 : Int32) (a2 : Int32) (a3 : Int32) (a4 : Int32) (a5 : Int32) (a7 : Int32) (m : M) : Option ((Int32 × Int32 × Int32 × M) ⊕ ((Int32 × Int32 × M))) :=
  r_playedFrom_89 rec a1 a2 a3 a4 a5 a7 (0 : Int32) m
set_option maxRecDepth 20000 in
theorem t_r_playedFrom_88 {G : GG} {x : Cx} {lv0 : Nat} {K : ((Int32 × Int32 × Int32 × M) ⊕ ((Int32 × Int32 × M))) → Option (Option Value × M)} (E : En G x cX12_playedFrom "WreckBoardModel" (lv0 + 1) (some .int)) (hn : xn x = 9) (rec : Int32 → Int32 → M → Option (Int32 × M)) (hlb : 8 ≤ lv0) (hrec : ∀ (a1 : Int32) (a2 : Int32) (m : M) (z : Int32 × M), rec a1 a2 m = some z → Ct (xl x) G yX12_playedFrom cX12_playedFrom 9 (some .int) lv0 [.ref (G.2.1 76), .int a1, .int a2] m (some (.int z.1)) z.2) (a1 : Int32) (a2 : Int32) (a3 : Int32) (a4 : Int32) (a5 : Int32) (a7 : Int32) (m : M) (hb : ∀ z : Int32 × Int32 × Int32 × M, Sm G x 20 [(0, .ref (G.2.1 76)), (1, .int a1), (2, .int a2), (3, .int z.1), (4, .int z.2.1), (5, .int z.2.2.1)] [] z.2.2.2 (some (.inl z)) K) (hx0 : ∀ z : Int32 × Int32 × M, Sm G x 123 [(0, .ref (G.2.1 76)), (1, .int a1), (3, .int z.1), (4, .int z.2.1)] [] z.2.2 (some (.inr z)) K) : Sm G x 88 [(0, .ref (G.2.1 76)), (1, .int a1), (2, .int a2), (3, .int a3), (4, .int a4), (5, .int a5), (7, .int a7)] [] m (r_playedFrom_88 rec a1 a2 a3 a4 a5 a7 m) K := by
  unfold r_playedFrom_88
  refine s_iconst (v := (0 : Int32)) E dX12_playedFrom_88 (by decide) ?_
  exact t_r_playedFrom_89 E hn rec hlb hrec a1 a2 a3 a4 a5 a7 (0 : Int32) m hb hx0
def r_playedFrom_20b (rec : Int32 → Int32 → M → Option (Int32 × M)) (a1 : Int32) (a2 : Int32) (a3 : Int32) (a4 : Int32) (a5 : Int32) (m : M) : Option ((Int32 × Int32 × Int32 × M) ⊕ ((Int32 × Int32 × M))) :=
  Option.bind (rdI m 77 (6 : Int32)) (fun v1 => (if v1 < a5 then some (.inr (a3, a4, m)) else Option.bind (r_goesBy a5 m) (fun z2 => Option.bind (rec (a1 + (1 : Int32)) a2 z2.2) (fun z3 => lt (z2.1 + z3.1) (fun w4 : Int32 => Option.bind (r_restores a1 z3.2) (fun m5 => (if a4 < 0 then r_playedFrom_84 rec a1 a2 a3 a4 a5 w4 m5 else (if (a1 - a1 / (2 : Int32) * (2 : Int32)) = 0 then (if w4 ≤ a3 then r_playedFrom_88 rec a1 a2 a3 a4 a5 w4 m5 else r_playedFrom_84 rec a1 a2 a3 a4 a5 w4 m5) else (if a3 ≤ w4 then r_playedFrom_88 rec a1 a2 a3 a4 a5 w4 m5 else r_playedFrom_84 rec a1 a2 a3 a4 a5 w4 m5)))))))))
set_option maxRecDepth 20000 in
theorem t_r_playedFrom_20b {G : GG} {x : Cx} {lv0 : Nat} {K : ((Int32 × Int32 × Int32 × M) ⊕ ((Int32 × Int32 × M))) → Option (Option Value × M)} (E : En G x cX12_playedFrom "WreckBoardModel" (lv0 + 1) (some .int)) (hn : xn x = 9) (rec : Int32 → Int32 → M → Option (Int32 × M)) (hlb : 8 ≤ lv0) (hrec : ∀ (a1 : Int32) (a2 : Int32) (m : M) (z : Int32 × M), rec a1 a2 m = some z → Ct (xl x) G yX12_playedFrom cX12_playedFrom 9 (some .int) lv0 [.ref (G.2.1 76), .int a1, .int a2] m (some (.int z.1)) z.2) (a1 : Int32) (a2 : Int32) (a3 : Int32) (a4 : Int32) (a5 : Int32) (m : M) (hb : ∀ z : Int32 × Int32 × Int32 × M, Sm G x 20 [(0, .ref (G.2.1 76)), (1, .int a1), (2, .int a2), (3, .int z.1), (4, .int z.2.1), (5, .int z.2.2.1)] [] z.2.2.2 (some (.inl z)) K) (hx0 : ∀ z : Int32 × Int32 × M, Sm G x 123 [(0, .ref (G.2.1 76)), (1, .int a1), (3, .int z.1), (4, .int z.2.1)] [] z.2.2 (some (.inr z)) K) : Sm G x 20 [(0, .ref (G.2.1 76)), (1, .int a1), (2, .int a2), (3, .int a3), (4, .int a4), (5, .int a5)] [] m (r_playedFrom_20b rec a1 a2 a3 a4 a5 m) K := by
  unfold r_playedFrom_20b
  refine s_iload 5 E dX12_playedFrom_20 rfl ?_
  refine s_aload_n 0 E dX12_playedFrom_22 rfl rfl ?_
  refine s_getr (k := 0) (T := TX12) 76 E rfl rfl rfl inX12 (by decide) W1239 dX12_playedFrom_23 ?_
  refine s_bipush (v := (6 : Int32)) E dX12_playedFrom_26 (by decide) ?_
  refine s_iald E dX12_playedFrom_28 (fun v1 => ?_)
  refine s_icmp_gt 123 E dX12_playedFrom_29 (by decide) ?_ ?_
  · refine s_sub (lv' := [(0, .ref (G.2.1 76)), (1, .int a1), (3, .int a3), (4, .int a4)]) [0, 1, 3, 4] rfl ?_
    exact hx0 (a3, a4, m)
  · refine s_aload_n 0 E dX12_playedFrom_32 rfl rfl ?_
    refine s_iload 5 E dX12_playedFrom_33 rfl ?_
    refine s_bd (fun z2 hz => ?_)
    refine s_cV (rest := []) E (C_r_goesBy (xl x) G a5 m hz) mdX12_goesBy W1557 W1559 W59 W103 W1560 rfl rfl rfl rfl (Nat.le_of_ble_eq_true rfl) ⟨by omega, by omega⟩ dX12_playedFrom_35 ?_
    refine s_istore (lv' := [(0, .ref (G.2.1 76)), (1, .int a1), (2, .int a2), (3, .int a3), (4, .int a4), (5, .int a5), (6, .int z2.1)]) [1, 2, 3, 4, 5, 6, 0] E dX12_playedFrom_38 (by rw [hn]; decide) rfl ?_
    refine s_iload 6 E dX12_playedFrom_40 rfl ?_
    refine s_aload_n 0 E dX12_playedFrom_42 rfl rfl ?_
    refine s_iload_n 1 E dX12_playedFrom_43 rfl rfl ?_
    refine s_iconst (v := (1 : Int32)) E dX12_playedFrom_44 (by decide) ?_
    refine s_iadd E dX12_playedFrom_45 ?_
    refine s_iload_n 2 E dX12_playedFrom_46 rfl rfl ?_
    refine s_bd (fun z3 hz => ?_)
    refine s_cV (rest := [.int z2.1]) E (hrec (a1 + (1 : Int32)) a2 z2.2 z3 hz) mdX12_playedFrom W1692 W1694 W75 W103 W1695 rfl rfl rfl rfl (Nat.le_of_ble_eq_true rfl) ⟨by omega, by omega⟩ dX12_playedFrom_47 ?_
    refine s_iadd E dX12_playedFrom_50 ?_
    refine s_lt (fun w4 => [(0, .ref (G.2.1 76)), (1, .int a1), (2, .int a2), (3, .int a3), (4, .int a4), (5, .int a5), (6, .int z2.1)]) (fun w4 => [.int w4]) rfl rfl (fun w4 => ?_)
    refine s_istore (lv' := [(0, .ref (G.2.1 76)), (1, .int a1), (2, .int a2), (3, .int a3), (4, .int a4), (5, .int a5), (7, .int w4)]) [1, 2, 3, 4, 5, 6, 0] E dX12_playedFrom_51 (by rw [hn]; decide) rfl ?_
    refine s_aload_n 0 E dX12_playedFrom_53 rfl rfl ?_
    refine s_iload_n 1 E dX12_playedFrom_54 rfl rfl ?_
    refine s_bd (fun m5 hz => ?_)
    refine s_cV (rest := []) E (C_r_restores (xl x) G a1 z3.2 hz) mdX12_restores W1664 W1666 W73 W103 W1667 rfl rfl rfl rfl (Nat.le_of_ble_eq_true rfl) ⟨by omega, by omega⟩ dX12_playedFrom_55 ?_
    refine s_iload 4 E dX12_playedFrom_58 rfl ?_
    refine s_if_lt 84 E dX12_playedFrom_60 (by decide) ?_ ?_
    · exact t_r_playedFrom_84 E hn rec hlb hrec a1 a2 a3 a4 a5 w4 m5 hb hx0
    · refine s_iload_n 1 E dX12_playedFrom_63 rfl rfl ?_
      refine s_iconst (v := (2 : Int32)) E dX12_playedFrom_64 (by decide) ?_
      refine s_iremc E dX12_playedFrom_65 (by decide) ?_
      refine s_if_ne 78 E dX12_playedFrom_66 (by decide) ?_ ?_
      · refine s_iload 6 E dX12_playedFrom_78 rfl ?_
        refine s_iload_n 3 E dX12_playedFrom_80 rfl rfl ?_
        refine s_icmp_ge 88 E dX12_playedFrom_81 (by decide) ?_ ?_
        · exact t_r_playedFrom_88 E hn rec hlb hrec a1 a2 a3 a4 a5 w4 m5 hb hx0
        · exact t_r_playedFrom_84 E hn rec hlb hrec a1 a2 a3 a4 a5 w4 m5 hb hx0
      · refine s_iload 6 E dX12_playedFrom_69 rfl ?_
        refine s_iload_n 3 E dX12_playedFrom_71 rfl rfl ?_
        refine s_icmp_le 88 E dX12_playedFrom_72 (by decide) ?_ ?_
        · exact t_r_playedFrom_88 E hn rec hlb hrec a1 a2 a3 a4 a5 w4 m5 hb hx0
        · refine s_goto 84 E dX12_playedFrom_75 (by decide) ?_
          exact t_r_playedFrom_84 E hn rec hlb hrec a1 a2 a3 a4 a5 w4 m5 hb hx0
def r_playedFrom_20 (rec : Int32 → Int32 → M → Option (Int32 × M)) (a1 : Int32) (a2 : Int32) (a3 : Int32) (a4 : Int32) (a5 : Int32) (m : M) : Option (Int32 × M) :=
  Option.bind (iter (fun z => r_playedFrom_20b rec a1 a2 z.1 z.2.1 z.2.2.1 z.2.2.2) FU (a3, a4, a5, m)) (fun r => Option.bind (wrI r.2.2 86 a1 r.2.1) (fun m6 => some (r.1, m6)))
set_option maxRecDepth 20000 in
theorem t_r_playedFrom_20 {G : GG} {x : Cx} {lv0 : Nat} (E : En G x cX12_playedFrom "WreckBoardModel" (lv0 + 1) (some .int)) (hn : xn x = 9) (rec : Int32 → Int32 → M → Option (Int32 × M)) (hlb : 8 ≤ lv0) (hrec : ∀ (a1 : Int32) (a2 : Int32) (m : M) (z : Int32 × M), rec a1 a2 m = some z → Ct (xl x) G yX12_playedFrom cX12_playedFrom 9 (some .int) lv0 [.ref (G.2.1 76), .int a1, .int a2] m (some (.int z.1)) z.2) (a1 : Int32) (a2 : Int32) (a3 : Int32) (a4 : Int32) (a5 : Int32) (m : M) : Sm G x 20 [(0, .ref (G.2.1 76)), (1, .int a1), (2, .int a2), (3, .int a3), (4, .int a4), (5, .int a5)] [] m (r_playedFrom_20 rec a1 a2 a3 a4 a5 m) KWi := by
  unfold r_playedFrom_20
  refine s_loop (fun z => [(0, .ref (G.2.1 76)), (1, .int a1), (2, .int a2), (3, .int z.1), (4, .int z.2.1), (5, .int z.2.2.1)]) (fun z => z.2.2.2) (fun K2 hb2 hr2 z => ?_) FU (a3, a4, a5, m)
  refine t_r_playedFrom_20b (K := K2) E hn rec hlb hrec a1 a2 z.1 z.2.1 z.2.2.1 z.2.2.2 hb2 (fun r => s_out (hr2 r) ?_)
  · refine s_aload_n 0 E dX12_playedFrom_123 rfl rfl ?_
    refine s_getr (k := 18) (T := TX12) 76 E rfl rfl rfl inX12 (by decide) W1257 dX12_playedFrom_124 ?_
    refine s_iload_n 1 E dX12_playedFrom_127 rfl rfl ?_
    refine s_iload 3 E dX12_playedFrom_128 rfl ?_
    refine s_iast E dX12_playedFrom_130 (fun m6 => ?_)
    refine s_iload_n 2 E dX12_playedFrom_131 rfl rfl ?_
    exact s_iret E rfl dX12_playedFrom_132
def r_playedFrom (rec : Int32 → Int32 → M → Option (Int32 × M)) (a1 : Int32) (a2 : Int32) (m : M) : Option (Int32 × M) :=
  (if a1 = a2 then some ((0 : Int32), m) else Option.bind (r_saves a1 m) (fun m1 => r_playedFrom_20 rec a1 a2 (0 : Int32) (-1 : Int32) (0 : Int32) m1))
set_option maxRecDepth 20000 in
theorem t_r_playedFrom {G : GG} {x : Cx} {lv0 : Nat} (E : En G x cX12_playedFrom "WreckBoardModel" (lv0 + 1) (some .int)) (hn : xn x = 9) (rec : Int32 → Int32 → M → Option (Int32 × M)) (hlb : 8 ≤ lv0) (hrec : ∀ (a1 : Int32) (a2 : Int32) (m : M) (z : Int32 × M), rec a1 a2 m = some z → Ct (xl x) G yX12_playedFrom cX12_playedFrom 9 (some .int) lv0 [.ref (G.2.1 76), .int a1, .int a2] m (some (.int z.1)) z.2) (a1 : Int32) (a2 : Int32) (m : M) : Sm G x 0 [(0, .ref (G.2.1 76)), (1, .int a1), (2, .int a2)] [] m (r_playedFrom rec a1 a2 m) KWi := by
  unfold r_playedFrom
  refine s_iload_n 1 E dX12_playedFrom_0 rfl rfl ?_
  refine s_iload_n 2 E dX12_playedFrom_1 rfl rfl ?_
  refine s_icmp_ne 7 E dX12_playedFrom_2 (by decide) ?_ ?_
  · refine s_aload_n 0 E dX12_playedFrom_7 rfl rfl ?_
    refine s_iload_n 1 E dX12_playedFrom_8 rfl rfl ?_
    refine s_bd (fun m1 hz => ?_)
    refine s_cV (rest := []) E (C_r_saves (xl x) G a1 m hz) mdX12_saves W1660 W1662 W72 W103 W1663 rfl rfl rfl rfl (Nat.le_of_ble_eq_true rfl) ⟨by omega, by omega⟩ dX12_playedFrom_9 ?_
    refine s_iconst (v := (0 : Int32)) E dX12_playedFrom_12 (by decide) ?_
    refine s_istore_n (lv' := [(0, .ref (G.2.1 76)), (1, .int a1), (2, .int a2), (3, .int (0 : Int32))]) [1, 2, 3, 0] E dX12_playedFrom_13 rfl (by rw [hn]; decide) rfl ?_
    refine s_iconst (v := (-1 : Int32)) E dX12_playedFrom_14 (by decide) ?_
    refine s_istore (lv' := [(0, .ref (G.2.1 76)), (1, .int a1), (2, .int a2), (3, .int (0 : Int32)), (4, .int (-1 : Int32))]) [1, 2, 3, 4, 0] E dX12_playedFrom_15 (by rw [hn]; decide) rfl ?_
    refine s_iconst (v := (0 : Int32)) E dX12_playedFrom_17 (by decide) ?_
    refine s_istore (lv' := [(0, .ref (G.2.1 76)), (1, .int a1), (2, .int a2), (3, .int (0 : Int32)), (4, .int (-1 : Int32)), (5, .int (0 : Int32))]) [1, 2, 3, 4, 5, 0] E dX12_playedFrom_18 (by rw [hn]; decide) rfl ?_
    exact t_r_playedFrom_20 E hn rec hlb hrec a1 a2 (0 : Int32) (-1 : Int32) (0 : Int32) m1
  · refine s_iconst (v := (0 : Int32)) E dX12_playedFrom_5 (by decide) ?_
    exact s_iret E rfl dX12_playedFrom_6
set_option maxRecDepth 20000 in
theorem C_r_playedFrom (l : Launch) (G : GG) (rec : Int32 → Int32 → M → Option (Int32 × M)) {lv0 : Nat} (hlb : 8 ≤ lv0) (hrec : ∀ (a1 : Int32) (a2 : Int32) (m : M) (z : Int32 × M), rec a1 a2 m = some z → Ct l G yX12_playedFrom cX12_playedFrom 9 (some .int) lv0 [.ref (G.2.1 76), .int a1, .int a2] m (some (.int z.1)) z.2) (a1 : Int32) (a2 : Int32) (m : M) {z : Int32 × M} (hz : r_playedFrom rec a1 a2 m = some z) : Ct l G yX12_playedFrom cX12_playedFrom 9 (some .int) (lv0 + 1) [.ref (G.2.1 76), .int a1, .int a2] m (some (.int z.1)) z.2 :=
  ct_of (K := KWi) (by decide) (Nat.le_of_ble_eq_true rfl) (congrArg (fun q => Option.bind q _) hz) (fun x hl hn E => (t_r_playedFrom E hn rec hlb (by rw [hl]; exact hrec) a1 a2 m))
def r_playedFrom_d : Nat → Int32 → Int32 → M → Option (Int32 × M)
  | 0 => fun _ _ _ => none
  | d + 1 => fun a1 a2 m => r_playedFrom (r_playedFrom_d d) a1 a2 m
theorem C_r_playedFrom_d (l : Launch) (G : GG) : ∀ (d : Nat) (a1 : Int32) (a2 : Int32) (m : M) {z : Int32 × M}, r_playedFrom_d d a1 a2 m = some z → Ct l G yX12_playedFrom cX12_playedFrom 9 (some .int) (8 + 1 * d) [.ref (G.2.1 76), .int a1, .int a2] m (some (.int z.1)) z.2 := by
  intro d
  induction d with
  | zero => intro a1 a2 m z hz; cases hz
  | succ d ih =>
    intro a1 a2 m z hz
    exact C_r_playedFrom l G (r_playedFrom_d d) (lv0 := 8 + 1 * d) (by omega) (fun a1 a2 m z h => ih a1 a2 m h) a1 a2 m hz
theorem dX12_game_0 : decode cX12_game 0 = .ok (.iload_n 1, 1) := by decide +kernel
theorem dX12_game_1 : decode cX12_game 1 = .ok (.iconst 1, 1) := by decide +kernel
theorem dX12_game_2 : decode cX12_game 2 = .ok (.iconst 4, 1) := by decide +kernel
theorem dX12_game_3 : decode cX12_game 3 = .ok (.invokestatic 71, 3) := by decide +kernel
theorem dX12_game_6 : decode cX12_game 6 = .ok (.ifCond .eq 16, 3) := by decide +kernel
theorem dX12_game_9 : decode cX12_game 9 = .ok (.aload_n 0, 1) := by decide +kernel
theorem dX12_game_10 : decode cX12_game 10 = .ok (.iconst 0, 1) := by decide +kernel
theorem dX12_game_11 : decode cX12_game 11 = .ok (.aload_n 0, 1) := by decide +kernel
theorem dX12_game_12 : decode cX12_game 12 = .ok (.iload_n 1, 1) := by decide +kernel
theorem dX12_game_13 : decode cX12_game 13 = .ok (.invokevirtual 288, 3) := by decide +kernel
theorem dX12_game_16 : decode cX12_game 16 = .ok (.invokevirtual 301, 3) := by decide +kernel
theorem dX12_game_19 : decode cX12_game 19 = .ok (.goto 4, 3) := by decide +kernel
theorem dX12_game_22 : decode cX12_game 22 = .ok (.iconst (-1), 1) := by decide +kernel
theorem dX12_game_23 : decode cX12_game 23 = .ok (.ireturn, 1) := by decide +kernel
def r_game (a1 : Int32) (m : M) : Option (Int32 × M) :=
  Option.bind (r_in1 a1 (1 : Int32) (4 : Int32) m) (fun v1 => (if v1 = 0 then some ((-1 : Int32), m) else Option.bind (r_daysOf a1 m) (fun v2 => Option.bind (r_playedFrom_d 8 (0 : Int32) v2 m) (fun z3 => some (z3.1, z3.2)))))
set_option maxRecDepth 20000 in
theorem t_r_game {G : GG} {x : Cx} (E : En G x cX12_game "WreckBoardModel" 17 (some .int)) (hn : xn x = 2) (a1 : Int32) (m : M) : Sm G x 0 [(0, .ref (G.2.1 76)), (1, .int a1)] [] m (r_game a1 m) KWi := by
  unfold r_game
  refine s_iload_n 1 E dX12_game_0 rfl rfl ?_
  refine s_iconst (v := (1 : Int32)) E dX12_game_1 (by decide) ?_
  refine s_iconst (v := (4 : Int32)) E dX12_game_2 (by decide) ?_
  refine s_bd (fun v1 hz => ?_)
  refine s_cS (rest := []) E (C_r_in1 (xl x) G a1 (1 : Int32) (4 : Int32) m hz) mdX12_in1 W1359 W1360 W103 W1361 rfl rfl (Nat.le_of_ble_eq_true rfl) ⟨by decide, by decide⟩ dX12_game_3 ?_
  refine s_if_eq 22 E dX12_game_6 (by decide) ?_ ?_
  · refine s_iconst (v := (-1 : Int32)) E dX12_game_22 (by decide) ?_
    exact s_iret E rfl dX12_game_23
  · refine s_aload_n 0 E dX12_game_9 rfl rfl ?_
    refine s_iconst (v := (0 : Int32)) E dX12_game_10 (by decide) ?_
    refine s_aload_n 0 E dX12_game_11 rfl rfl ?_
    refine s_iload_n 1 E dX12_game_12 rfl rfl ?_
    refine s_bd (fun v2 hz => ?_)
    refine s_cV (rest := [.int (0 : Int32), .ref (G.2.1 76)]) E (C_r_daysOf (xl x) G a1 m hz) mdX12_daysOf W1648 W1650 W69 W103 W1651 rfl rfl rfl rfl (Nat.le_of_ble_eq_true rfl) ⟨by decide, by decide⟩ dX12_game_13 ?_
    refine s_bd (fun z3 hz => ?_)
    refine s_cV (rest := []) E (C_r_playedFrom_d (xl x) G 8 (0 : Int32) v2 m hz) mdX12_playedFrom W1692 W1694 W75 W103 W1695 rfl rfl rfl rfl (Nat.le_of_ble_eq_true rfl) ⟨by decide, by decide⟩ dX12_game_16 ?_
    refine s_goto 23 E dX12_game_19 (by decide) ?_
    exact s_iret E rfl dX12_game_23
set_option maxRecDepth 20000 in
theorem C_r_game (l : Launch) (G : GG) (a1 : Int32) (m : M) {z : Int32 × M} (hz : r_game a1 m = some z) : Ct l G yX12_game cX12_game 2 (some .int) 17 [.ref (G.2.1 76), .int a1] m (some (.int z.1)) z.2 :=
  ct_of (K := KWi) (by decide) (Nat.le_of_ble_eq_true rfl) (congrArg (fun q => Option.bind q _) hz) (fun x hl hn E => (t_r_game E hn a1 m))
theorem dX12_play_0 : decode cX12_play 0 = .ok (.iload_n 1, 1) := by decide +kernel
theorem dX12_play_1 : decode cX12_play 1 = .ok (.iconst 1, 1) := by decide +kernel
theorem dX12_play_2 : decode cX12_play 2 = .ok (.iconst 4, 1) := by decide +kernel
theorem dX12_play_3 : decode cX12_play 3 = .ok (.invokestatic 71, 3) := by decide +kernel
theorem dX12_play_6 : decode cX12_play 6 = .ok (.ifCond .ne 5, 3) := by decide +kernel
theorem dX12_play_9 : decode cX12_play 9 = .ok (.iconst (-1), 1) := by decide +kernel
theorem dX12_play_10 : decode cX12_play 10 = .ok (.ireturn, 1) := by decide +kernel
theorem dX12_play_11 : decode cX12_play 11 = .ok (.aload_n 0, 1) := by decide +kernel
theorem dX12_play_12 : decode cX12_play 12 = .ok (.invokevirtual 232, 3) := by decide +kernel
theorem dX12_play_15 : decode cX12_play 15 = .ok (.ifCond .eq 6, 3) := by decide +kernel
theorem dX12_play_18 : decode cX12_play 18 = .ok (.bipush (-3), 2) := by decide +kernel
theorem dX12_play_20 : decode cX12_play 20 = .ok (.ireturn, 1) := by decide +kernel
theorem dX12_play_21 : decode cX12_play 21 = .ok (.aload_n 0, 1) := by decide +kernel
theorem dX12_play_22 : decode cX12_play 22 = .ok (.iconst 0, 1) := by decide +kernel
theorem dX12_play_23 : decode cX12_play 23 = .ok (.aload_n 0, 1) := by decide +kernel
theorem dX12_play_24 : decode cX12_play 24 = .ok (.iload_n 1, 1) := by decide +kernel
theorem dX12_play_25 : decode cX12_play 25 = .ok (.invokevirtual 288, 3) := by decide +kernel
theorem dX12_play_28 : decode cX12_play 28 = .ok (.invokevirtual 301, 3) := by decide +kernel
theorem dX12_play_31 : decode cX12_play 31 = .ok (.istore_n 2, 1) := by decide +kernel
theorem dX12_play_32 : decode cX12_play 32 = .ok (.iload_n 2, 1) := by decide +kernel
theorem dX12_play_33 : decode cX12_play 33 = .ok (.ifCond .ge 8, 3) := by decide +kernel
theorem dX12_play_36 : decode cX12_play 36 = .ok (.bipush (-3), 2) := by decide +kernel
theorem dX12_play_38 : decode cX12_play 38 = .ok (.goto 9, 3) := by decide +kernel
theorem dX12_play_41 : decode cX12_play 41 = .ok (.aload_n 0, 1) := by decide +kernel
theorem dX12_play_42 : decode cX12_play 42 = .ok (.getfield 38, 3) := by decide +kernel
theorem dX12_play_45 : decode cX12_play 45 = .ok (.iconst 0, 1) := by decide +kernel
theorem dX12_play_46 : decode cX12_play 46 = .ok (.iaload, 1) := by decide +kernel
theorem dX12_play_47 : decode cX12_play 47 = .ok (.ireturn, 1) := by decide +kernel
def r_play (a1 : Int32) (m : M) : Option (Int32 × M) :=
  Option.bind (r_in1 a1 (1 : Int32) (4 : Int32) m) (fun v1 => (if v1 = 0 then some ((-1 : Int32), m) else Option.bind (r_isOver m) (fun v2 => (if v2 = 0 then Option.bind (r_daysOf a1 m) (fun v3 => Option.bind (r_playedFrom_d 8 (0 : Int32) v3 m) (fun z4 => (if 0 ≤ z4.1 then Option.bind (rdI z4.2 86 (0 : Int32)) (fun v5 => some (v5, z4.2)) else some ((-3 : Int32), z4.2)))) else some ((-3 : Int32), m)))))
set_option maxRecDepth 20000 in
theorem t_r_play {G : GG} {x : Cx} (E : En G x cX12_play "WreckBoardModel" 17 (some .int)) (hn : xn x = 3) (a1 : Int32) (m : M) : Sm G x 0 [(0, .ref (G.2.1 76)), (1, .int a1)] [] m (r_play a1 m) KWi := by
  unfold r_play
  refine s_iload_n 1 E dX12_play_0 rfl rfl ?_
  refine s_iconst (v := (1 : Int32)) E dX12_play_1 (by decide) ?_
  refine s_iconst (v := (4 : Int32)) E dX12_play_2 (by decide) ?_
  refine s_bd (fun v1 hz => ?_)
  refine s_cS (rest := []) E (C_r_in1 (xl x) G a1 (1 : Int32) (4 : Int32) m hz) mdX12_in1 W1359 W1360 W103 W1361 rfl rfl (Nat.le_of_ble_eq_true rfl) ⟨by decide, by decide⟩ dX12_play_3 ?_
  refine s_if_ne 11 E dX12_play_6 (by decide) ?_ ?_
  · refine s_aload_n 0 E dX12_play_11 rfl rfl ?_
    refine s_bd (fun v2 hz => ?_)
    refine s_cV (rest := []) E (C_r_isOver (xl x) G  m hz) mdX12_isOver W1545 W1547 W57 W103 W1548 rfl rfl rfl rfl (Nat.le_of_ble_eq_true rfl) ⟨by decide, by decide⟩ dX12_play_12 ?_
    refine s_if_eq 21 E dX12_play_15 (by decide) ?_ ?_
    · refine s_aload_n 0 E dX12_play_21 rfl rfl ?_
      refine s_iconst (v := (0 : Int32)) E dX12_play_22 (by decide) ?_
      refine s_aload_n 0 E dX12_play_23 rfl rfl ?_
      refine s_iload_n 1 E dX12_play_24 rfl rfl ?_
      refine s_bd (fun v3 hz => ?_)
      refine s_cV (rest := [.int (0 : Int32), .ref (G.2.1 76)]) E (C_r_daysOf (xl x) G a1 m hz) mdX12_daysOf W1648 W1650 W69 W103 W1651 rfl rfl rfl rfl (Nat.le_of_ble_eq_true rfl) ⟨by decide, by decide⟩ dX12_play_25 ?_
      refine s_bd (fun z4 hz => ?_)
      refine s_cV (rest := []) E (C_r_playedFrom_d (xl x) G 8 (0 : Int32) v3 m hz) mdX12_playedFrom W1692 W1694 W75 W103 W1695 rfl rfl rfl rfl (Nat.le_of_ble_eq_true rfl) ⟨by decide, by decide⟩ dX12_play_28 ?_
      refine s_istore_n (lv' := [(0, .ref (G.2.1 76)), (2, .int z4.1)]) [1, 0] E dX12_play_31 rfl (by rw [hn]; decide) rfl ?_
      refine s_iload_n 1 E dX12_play_32 rfl rfl ?_
      refine s_if_ge 41 E dX12_play_33 (by decide) ?_ ?_
      · refine s_aload_n 0 E dX12_play_41 rfl rfl ?_
        refine s_getr (k := 18) (T := TX12) 76 E rfl rfl rfl inX12 (by decide) W1257 dX12_play_42 ?_
        refine s_iconst (v := (0 : Int32)) E dX12_play_45 (by decide) ?_
        refine s_iald E dX12_play_46 (fun v5 => ?_)
        exact s_iret E rfl dX12_play_47
      · refine s_bipush (v := (-3 : Int32)) E dX12_play_36 (by decide) ?_
        refine s_goto 47 E dX12_play_38 (by decide) ?_
        exact s_iret E rfl dX12_play_47
    · refine s_bipush (v := (-3 : Int32)) E dX12_play_18 (by decide) ?_
      exact s_iret E rfl dX12_play_20
  · refine s_iconst (v := (-1 : Int32)) E dX12_play_9 (by decide) ?_
    exact s_iret E rfl dX12_play_10
set_option maxRecDepth 20000 in
theorem C_r_play (l : Launch) (G : GG) (a1 : Int32) (m : M) {z : Int32 × M} (hz : r_play a1 m = some z) : Ct l G yX12_play cX12_play 3 (some .int) 17 [.ref (G.2.1 76), .int a1] m (some (.int z.1)) z.2 :=
  ct_of (K := KWi) (by decide) (Nat.le_of_ble_eq_true rfl) (congrArg (fun q => Option.bind q _) hz) (fun x hl hn E => (t_r_play E hn a1 m))
theorem dX12_report_0 : decode cX12_report 0 = .ok (.iload_n 2, 1) := by decide +kernel
theorem dX12_report_1 : decode cX12_report 1 = .ok (.ifCond .ne 8, 3) := by decide +kernel
theorem dX12_report_4 : decode cX12_report 4 = .ok (.bipush 9, 2) := by decide +kernel
theorem dX12_report_6 : decode cX12_report 6 = .ok (.goto 6, 3) := by decide +kernel
theorem dX12_report_9 : decode cX12_report 9 = .ok (.sipush 999, 3) := by decide +kernel
theorem dX12_report_12 : decode cX12_report 12 = .ok (.istore 5, 2) := by decide +kernel
theorem dX12_report_14 : decode cX12_report 14 = .ok (.iload_n 1, 1) := by decide +kernel
theorem dX12_report_15 : decode cX12_report 15 = .ok (.iconst 0, 1) := by decide +kernel
theorem dX12_report_16 : decode cX12_report 16 = .ok (.bipush 15, 2) := by decide +kernel
theorem dX12_report_18 : decode cX12_report 18 = .ok (.invokestatic 71, 3) := by decide +kernel
theorem dX12_report_21 : decode cX12_report 21 = .ok (.ifCond .eq 33, 3) := by decide +kernel
theorem dX12_report_24 : decode cX12_report 24 = .ok (.iload_n 2, 1) := by decide +kernel
theorem dX12_report_25 : decode cX12_report 25 = .ok (.iconst 0, 1) := by decide +kernel
theorem dX12_report_26 : decode cX12_report 26 = .ok (.iconst 1, 1) := by decide +kernel
theorem dX12_report_27 : decode cX12_report 27 = .ok (.invokestatic 71, 3) := by decide +kernel
theorem dX12_report_30 : decode cX12_report 30 = .ok (.ifCond .eq 24, 3) := by decide +kernel
theorem dX12_report_33 : decode cX12_report 33 = .ok (.iload_n 3, 1) := by decide +kernel
theorem dX12_report_34 : decode cX12_report 34 = .ok (.iconst 0, 1) := by decide +kernel
theorem dX12_report_35 : decode cX12_report 35 = .ok (.iload 5, 2) := by decide +kernel
theorem dX12_report_37 : decode cX12_report 37 = .ok (.invokestatic 71, 3) := by decide +kernel
theorem dX12_report_40 : decode cX12_report 40 = .ok (.ifCond .eq 14, 3) := by decide +kernel
theorem dX12_report_43 : decode cX12_report 43 = .ok (.iload 4, 2) := by decide +kernel
theorem dX12_report_45 : decode cX12_report 45 = .ok (.iload_n 3, 1) := by decide +kernel
theorem dX12_report_46 : decode cX12_report 46 = .ok (.iload 5, 2) := by decide +kernel
theorem dX12_report_48 : decode cX12_report 48 = .ok (.invokestatic 71, 3) := by decide +kernel
theorem dX12_report_51 : decode cX12_report 51 = .ok (.ifCond .ne 5, 3) := by decide +kernel
theorem dX12_report_54 : decode cX12_report 54 = .ok (.iconst (-1), 1) := by decide +kernel
theorem dX12_report_55 : decode cX12_report 55 = .ok (.ireturn, 1) := by decide +kernel
theorem dX12_report_56 : decode cX12_report 56 = .ok (.aload_n 0, 1) := by decide +kernel
theorem dX12_report_57 : decode cX12_report 57 = .ok (.getfield 9, 3) := by decide +kernel
theorem dX12_report_60 : decode cX12_report 60 = .ok (.bipush 8, 2) := by decide +kernel
theorem dX12_report_62 : decode cX12_report 62 = .ok (.iaload, 1) := by decide +kernel
theorem dX12_report_63 : decode cX12_report 63 = .ok (.bipush 6, 2) := by decide +kernel
theorem dX12_report_65 : decode cX12_report 65 = .ok (.if_icmp .ne 6, 3) := by decide +kernel
theorem dX12_report_68 : decode cX12_report 68 = .ok (.bipush (-2), 2) := by decide +kernel
theorem dX12_report_70 : decode cX12_report 70 = .ok (.ireturn, 1) := by decide +kernel
theorem dX12_report_71 : decode cX12_report 71 = .ok (.bipush 67, 2) := by decide +kernel
theorem dX12_report_73 : decode cX12_report 73 = .ok (.iconst 4, 1) := by decide +kernel
theorem dX12_report_74 : decode cX12_report 74 = .ok (.aload_n 0, 1) := by decide +kernel
theorem dX12_report_75 : decode cX12_report 75 = .ok (.getfield 9, 3) := by decide +kernel
theorem dX12_report_78 : decode cX12_report 78 = .ok (.bipush 8, 2) := by decide +kernel
theorem dX12_report_80 : decode cX12_report 80 = .ok (.iaload, 1) := by decide +kernel
theorem dX12_report_81 : decode cX12_report 81 = .ok (.imul, 1) := by decide +kernel
theorem dX12_report_82 : decode cX12_report 82 = .ok (.iadd, 1) := by decide +kernel
theorem dX12_report_83 : decode cX12_report 83 = .ok (.istore 6, 2) := by decide +kernel
theorem dX12_report_85 : decode cX12_report 85 = .ok (.aload_n 0, 1) := by decide +kernel
theorem dX12_report_86 : decode cX12_report 86 = .ok (.getfield 9, 3) := by decide +kernel
theorem dX12_report_89 : decode cX12_report 89 = .ok (.iload 6, 2) := by decide +kernel
theorem dX12_report_91 : decode cX12_report 91 = .ok (.iload_n 1, 1) := by decide +kernel
theorem dX12_report_92 : decode cX12_report 92 = .ok (.iastore, 1) := by decide +kernel
theorem dX12_report_93 : decode cX12_report 93 = .ok (.aload_n 0, 1) := by decide +kernel
theorem dX12_report_94 : decode cX12_report 94 = .ok (.getfield 9, 3) := by decide +kernel
theorem dX12_report_97 : decode cX12_report 97 = .ok (.iload 6, 2) := by decide +kernel
theorem dX12_report_99 : decode cX12_report 99 = .ok (.iconst 1, 1) := by decide +kernel
theorem dX12_report_100 : decode cX12_report 100 = .ok (.iadd, 1) := by decide +kernel
theorem dX12_report_101 : decode cX12_report 101 = .ok (.iload_n 2, 1) := by decide +kernel
theorem dX12_report_102 : decode cX12_report 102 = .ok (.iastore, 1) := by decide +kernel
theorem dX12_report_103 : decode cX12_report 103 = .ok (.aload_n 0, 1) := by decide +kernel
theorem dX12_report_104 : decode cX12_report 104 = .ok (.getfield 9, 3) := by decide +kernel
theorem dX12_report_107 : decode cX12_report 107 = .ok (.iload 6, 2) := by decide +kernel
theorem dX12_report_109 : decode cX12_report 109 = .ok (.iconst 2, 1) := by decide +kernel
theorem dX12_report_110 : decode cX12_report 110 = .ok (.iadd, 1) := by decide +kernel
theorem dX12_report_111 : decode cX12_report 111 = .ok (.iload_n 3, 1) := by decide +kernel
theorem dX12_report_112 : decode cX12_report 112 = .ok (.iastore, 1) := by decide +kernel
theorem dX12_report_113 : decode cX12_report 113 = .ok (.aload_n 0, 1) := by decide +kernel
theorem dX12_report_114 : decode cX12_report 114 = .ok (.getfield 9, 3) := by decide +kernel
theorem dX12_report_117 : decode cX12_report 117 = .ok (.iload 6, 2) := by decide +kernel
theorem dX12_report_119 : decode cX12_report 119 = .ok (.iconst 3, 1) := by decide +kernel
theorem dX12_report_120 : decode cX12_report 120 = .ok (.iadd, 1) := by decide +kernel
theorem dX12_report_121 : decode cX12_report 121 = .ok (.iload 4, 2) := by decide +kernel
theorem dX12_report_123 : decode cX12_report 123 = .ok (.iastore, 1) := by decide +kernel
theorem dX12_report_124 : decode cX12_report 124 = .ok (.aload_n 0, 1) := by decide +kernel
theorem dX12_report_125 : decode cX12_report 125 = .ok (.getfield 9, 3) := by decide +kernel
theorem dX12_report_128 : decode cX12_report 128 = .ok (.bipush 8, 2) := by decide +kernel
theorem dX12_report_130 : decode cX12_report 130 = .ok (.dup2, 1) := by decide +kernel
theorem dX12_report_131 : decode cX12_report 131 = .ok (.iaload, 1) := by decide +kernel
theorem dX12_report_132 : decode cX12_report 132 = .ok (.iconst 1, 1) := by decide +kernel
theorem dX12_report_133 : decode cX12_report 133 = .ok (.iadd, 1) := by decide +kernel
theorem dX12_report_134 : decode cX12_report 134 = .ok (.iastore, 1) := by decide +kernel
theorem dX12_report_135 : decode cX12_report 135 = .ok (.aload_n 0, 1) := by decide +kernel
theorem dX12_report_136 : decode cX12_report 136 = .ok (.getfield 9, 3) := by decide +kernel
theorem dX12_report_139 : decode cX12_report 139 = .ok (.bipush 8, 2) := by decide +kernel
theorem dX12_report_141 : decode cX12_report 141 = .ok (.iaload, 1) := by decide +kernel
theorem dX12_report_142 : decode cX12_report 142 = .ok (.iconst 1, 1) := by decide +kernel
theorem dX12_report_143 : decode cX12_report 143 = .ok (.isub, 1) := by decide +kernel
theorem dX12_report_144 : decode cX12_report 144 = .ok (.ireturn, 1) := by decide +kernel
def r_report_12 (a1 : Int32) (a2 : Int32) (a3 : Int32) (a4 : Int32) (s0 : Int32) (m : M) : Option (Int32 × M) :=
  Option.bind (r_in1 a1 (0 : Int32) (15 : Int32) m) (fun v1 => (if v1 = 0 then some ((-1 : Int32), m) else Option.bind (r_in1 a2 (0 : Int32) (1 : Int32) m) (fun v2 => (if v2 = 0 then some ((-1 : Int32), m) else Option.bind (r_in1 a3 (0 : Int32) s0 m) (fun v3 => (if v3 = 0 then some ((-1 : Int32), m) else Option.bind (r_in1 a4 a3 s0 m) (fun v4 => (if v4 = 0 then some ((-1 : Int32), m) else Option.bind (rdI m 77 (8 : Int32)) (fun v5 => (if v5 = (6 : Int32) then some ((-2 : Int32), m) else Option.bind (rdI m 77 (8 : Int32)) (fun v6 => lt ((67 : Int32) + ((4 : Int32) * v6)) (fun w7 : Int32 => Option.bind (wrI m 77 w7 a1) (fun m8 => Option.bind (wrI m8 77 (w7 + (1 : Int32)) a2) (fun m9 => Option.bind (wrI m9 77 (w7 + (2 : Int32)) a3) (fun m10 => Option.bind (wrI m10 77 (w7 + (3 : Int32)) a4) (fun m11 => Option.bind (rdI m11 77 (8 : Int32)) (fun v12 => Option.bind (wrI m11 77 (8 : Int32) (v12 + (1 : Int32))) (fun m13 => Option.bind (rdI m13 77 (8 : Int32)) (fun v14 => some ((v14 - (1 : Int32)), m13))))))))))))))))))))
set_option maxRecDepth 20000 in
theorem t_r_report_12 {G : GG} {x : Cx} (E : En G x cX12_report "WreckBoardModel" 2 (some .int)) (hn : xn x = 7) (a1 : Int32) (a2 : Int32) (a3 : Int32) (a4 : Int32) (s0 : Int32) (m : M) : Sm G x 12 [(0, .ref (G.2.1 76)), (1, .int a1), (2, .int a2), (3, .int a3), (4, .int a4)] [.int s0] m (r_report_12 a1 a2 a3 a4 s0 m) KWi := by
  unfold r_report_12
  refine s_istore (lv' := [(0, .ref (G.2.1 76)), (1, .int a1), (2, .int a2), (3, .int a3), (4, .int a4), (5, .int s0)]) [1, 2, 3, 4, 5, 0] E dX12_report_12 (by rw [hn]; decide) rfl ?_
  refine s_iload_n 1 E dX12_report_14 rfl rfl ?_
  refine s_iconst (v := (0 : Int32)) E dX12_report_15 (by decide) ?_
  refine s_bipush (v := (15 : Int32)) E dX12_report_16 (by decide) ?_
  refine s_bd (fun v1 hz => ?_)
  refine s_cS (rest := []) E (C_r_in1 (xl x) G a1 (0 : Int32) (15 : Int32) m hz) mdX12_in1 W1359 W1360 W103 W1361 rfl rfl (Nat.le_of_ble_eq_true rfl) ⟨by decide, by decide⟩ dX12_report_18 ?_
  refine s_if_eq 54 E dX12_report_21 (by decide) ?_ ?_
  · refine s_iconst (v := (-1 : Int32)) E dX12_report_54 (by decide) ?_
    exact s_iret E rfl dX12_report_55
  · refine s_iload_n 2 E dX12_report_24 rfl rfl ?_
    refine s_iconst (v := (0 : Int32)) E dX12_report_25 (by decide) ?_
    refine s_iconst (v := (1 : Int32)) E dX12_report_26 (by decide) ?_
    refine s_bd (fun v2 hz => ?_)
    refine s_cS (rest := []) E (C_r_in1 (xl x) G a2 (0 : Int32) (1 : Int32) m hz) mdX12_in1 W1359 W1360 W103 W1361 rfl rfl (Nat.le_of_ble_eq_true rfl) ⟨by decide, by decide⟩ dX12_report_27 ?_
    refine s_if_eq 54 E dX12_report_30 (by decide) ?_ ?_
    · refine s_iconst (v := (-1 : Int32)) E dX12_report_54 (by decide) ?_
      exact s_iret E rfl dX12_report_55
    · refine s_iload_n 3 E dX12_report_33 rfl rfl ?_
      refine s_iconst (v := (0 : Int32)) E dX12_report_34 (by decide) ?_
      refine s_iload 5 E dX12_report_35 rfl ?_
      refine s_bd (fun v3 hz => ?_)
      refine s_cS (rest := []) E (C_r_in1 (xl x) G a3 (0 : Int32) s0 m hz) mdX12_in1 W1359 W1360 W103 W1361 rfl rfl (Nat.le_of_ble_eq_true rfl) ⟨by decide, by decide⟩ dX12_report_37 ?_
      refine s_if_eq 54 E dX12_report_40 (by decide) ?_ ?_
      · refine s_iconst (v := (-1 : Int32)) E dX12_report_54 (by decide) ?_
        exact s_iret E rfl dX12_report_55
      · refine s_iload 4 E dX12_report_43 rfl ?_
        refine s_iload_n 3 E dX12_report_45 rfl rfl ?_
        refine s_iload 5 E dX12_report_46 rfl ?_
        refine s_bd (fun v4 hz => ?_)
        refine s_cS (rest := []) E (C_r_in1 (xl x) G a4 a3 s0 m hz) mdX12_in1 W1359 W1360 W103 W1361 rfl rfl (Nat.le_of_ble_eq_true rfl) ⟨by decide, by decide⟩ dX12_report_48 ?_
        refine s_if_ne 56 E dX12_report_51 (by decide) ?_ ?_
        · refine s_aload_n 0 E dX12_report_56 rfl rfl ?_
          refine s_getr (k := 0) (T := TX12) 76 E rfl rfl rfl inX12 (by decide) W1239 dX12_report_57 ?_
          refine s_bipush (v := (8 : Int32)) E dX12_report_60 (by decide) ?_
          refine s_iald E dX12_report_62 (fun v5 => ?_)
          refine s_bipush (v := (6 : Int32)) E dX12_report_63 (by decide) ?_
          refine s_icmp_ne 71 E dX12_report_65 (by decide) ?_ ?_
          · refine s_bipush (v := (67 : Int32)) E dX12_report_71 (by decide) ?_
            refine s_iconst (v := (4 : Int32)) E dX12_report_73 (by decide) ?_
            refine s_aload_n 0 E dX12_report_74 rfl rfl ?_
            refine s_getr (k := 0) (T := TX12) 76 E rfl rfl rfl inX12 (by decide) W1239 dX12_report_75 ?_
            refine s_bipush (v := (8 : Int32)) E dX12_report_78 (by decide) ?_
            refine s_iald E dX12_report_80 (fun v6 => ?_)
            refine s_imul E dX12_report_81 ?_
            refine s_iadd E dX12_report_82 ?_
            refine s_lt (fun w7 => [(0, .ref (G.2.1 76)), (1, .int a1), (2, .int a2), (3, .int a3), (4, .int a4), (5, .int s0)]) (fun w7 => [.int w7]) rfl rfl (fun w7 => ?_)
            refine s_istore (lv' := [(0, .ref (G.2.1 76)), (1, .int a1), (2, .int a2), (3, .int a3), (4, .int a4), (6, .int w7)]) [1, 2, 3, 4, 5, 0] E dX12_report_83 (by rw [hn]; decide) rfl ?_
            refine s_aload_n 0 E dX12_report_85 rfl rfl ?_
            refine s_getr (k := 0) (T := TX12) 76 E rfl rfl rfl inX12 (by decide) W1239 dX12_report_86 ?_
            refine s_iload 5 E dX12_report_89 rfl ?_
            refine s_iload_n 1 E dX12_report_91 rfl rfl ?_
            refine s_iast E dX12_report_92 (fun m8 => ?_)
            refine s_aload_n 0 E dX12_report_93 rfl rfl ?_
            refine s_getr (k := 0) (T := TX12) 76 E rfl rfl rfl inX12 (by decide) W1239 dX12_report_94 ?_
            refine s_iload 5 E dX12_report_97 rfl ?_
            refine s_iconst (v := (1 : Int32)) E dX12_report_99 (by decide) ?_
            refine s_iadd E dX12_report_100 ?_
            refine s_iload_n 2 E dX12_report_101 rfl rfl ?_
            refine s_iast E dX12_report_102 (fun m9 => ?_)
            refine s_aload_n 0 E dX12_report_103 rfl rfl ?_
            refine s_getr (k := 0) (T := TX12) 76 E rfl rfl rfl inX12 (by decide) W1239 dX12_report_104 ?_
            refine s_iload 5 E dX12_report_107 rfl ?_
            refine s_iconst (v := (2 : Int32)) E dX12_report_109 (by decide) ?_
            refine s_iadd E dX12_report_110 ?_
            refine s_iload_n 3 E dX12_report_111 rfl rfl ?_
            refine s_iast E dX12_report_112 (fun m10 => ?_)
            refine s_aload_n 0 E dX12_report_113 rfl rfl ?_
            refine s_getr (k := 0) (T := TX12) 76 E rfl rfl rfl inX12 (by decide) W1239 dX12_report_114 ?_
            refine s_iload 5 E dX12_report_117 rfl ?_
            refine s_iconst (v := (3 : Int32)) E dX12_report_119 (by decide) ?_
            refine s_iadd E dX12_report_120 ?_
            refine s_iload 4 E dX12_report_121 rfl ?_
            refine s_iast E dX12_report_123 (fun m11 => ?_)
            refine s_aload_n 0 E dX12_report_124 rfl rfl ?_
            refine s_getr (k := 0) (T := TX12) 76 E rfl rfl rfl inX12 (by decide) W1239 dX12_report_125 ?_
            refine s_bipush (v := (8 : Int32)) E dX12_report_128 (by decide) ?_
            refine s_dup2 E dX12_report_130 rfl rfl ?_
            refine s_iald E dX12_report_131 (fun v12 => ?_)
            refine s_iconst (v := (1 : Int32)) E dX12_report_132 (by decide) ?_
            refine s_iadd E dX12_report_133 ?_
            refine s_iast E dX12_report_134 (fun m13 => ?_)
            refine s_aload_n 0 E dX12_report_135 rfl rfl ?_
            refine s_getr (k := 0) (T := TX12) 76 E rfl rfl rfl inX12 (by decide) W1239 dX12_report_136 ?_
            refine s_bipush (v := (8 : Int32)) E dX12_report_139 (by decide) ?_
            refine s_iald E dX12_report_141 (fun v14 => ?_)
            refine s_iconst (v := (1 : Int32)) E dX12_report_142 (by decide) ?_
            refine s_isub E dX12_report_143 ?_
            exact s_iret E rfl dX12_report_144
          · refine s_bipush (v := (-2 : Int32)) E dX12_report_68 (by decide) ?_
            exact s_iret E rfl dX12_report_70
        · refine s_iconst (v := (-1 : Int32)) E dX12_report_54 (by decide) ?_
          exact s_iret E rfl dX12_report_55
def r_report (a1 : Int32) (a2 : Int32) (a3 : Int32) (a4 : Int32) (m : M) : Option (Int32 × M) :=
  (if a2 = 0 then r_report_12 a1 a2 a3 a4 (9 : Int32) m else r_report_12 a1 a2 a3 a4 (999 : Int32) m)
set_option maxRecDepth 20000 in
theorem t_r_report {G : GG} {x : Cx} (E : En G x cX12_report "WreckBoardModel" 2 (some .int)) (hn : xn x = 7) (a1 : Int32) (a2 : Int32) (a3 : Int32) (a4 : Int32) (m : M) : Sm G x 0 [(0, .ref (G.2.1 76)), (1, .int a1), (2, .int a2), (3, .int a3), (4, .int a4)] [] m (r_report a1 a2 a3 a4 m) KWi := by
  unfold r_report
  refine s_iload_n 2 E dX12_report_0 rfl rfl ?_
  refine s_if_ne 9 E dX12_report_1 (by decide) ?_ ?_
  · refine s_sipush (v := (999 : Int32)) E dX12_report_9 (by decide) ?_
    exact t_r_report_12 E hn a1 a2 a3 a4 (999 : Int32) m
  · refine s_bipush (v := (9 : Int32)) E dX12_report_4 (by decide) ?_
    refine s_goto 12 E dX12_report_6 (by decide) ?_
    exact t_r_report_12 E hn a1 a2 a3 a4 (9 : Int32) m
set_option maxRecDepth 20000 in
theorem C_r_report (l : Launch) (G : GG) (a1 : Int32) (a2 : Int32) (a3 : Int32) (a4 : Int32) (m : M) {z : Int32 × M} (hz : r_report a1 a2 a3 a4 m = some z) : Ct l G yX12_report cX12_report 7 (some .int) 2 [.ref (G.2.1 76), .int a1, .int a2, .int a3, .int a4] m (some (.int z.1)) z.2 :=
  ct_of (K := KWi) (by decide) (Nat.le_of_ble_eq_true rfl) (congrArg (fun q => Option.bind q _) hz) (fun x hl hn E => (t_r_report E hn a1 a2 a3 a4 m))
theorem dX12_forget_0 : decode cX12_forget 0 = .ok (.aload_n 0, 1) := by decide +kernel
theorem dX12_forget_1 : decode cX12_forget 1 = .ok (.bipush 8, 2) := by decide +kernel
theorem dX12_forget_3 : decode cX12_forget 3 = .ok (.iconst 0, 1) := by decide +kernel
theorem dX12_forget_4 : decode cX12_forget 4 = .ok (.invokevirtual 229, 3) := by decide +kernel
theorem dX12_forget_7 : decode cX12_forget 7 = .ok (.ireturn, 1) := by decide +kernel
def r_forget  (m : M) : Option (Int32 × M) :=
  Option.bind (r_becomes (8 : Int32) (0 : Int32) m) (fun z1 => some (z1.1, z1.2))
set_option maxRecDepth 20000 in
theorem t_r_forget {G : GG} {x : Cx} (E : En G x cX12_forget "WreckBoardModel" 2 (some .int)) (hn : xn x = 1)  (m : M) : Sm G x 0 [(0, .ref (G.2.1 76))] [] m (r_forget m) KWi := by
  unfold r_forget
  refine s_aload_n 0 E dX12_forget_0 rfl rfl ?_
  refine s_bipush (v := (8 : Int32)) E dX12_forget_1 (by decide) ?_
  refine s_iconst (v := (0 : Int32)) E dX12_forget_3 (by decide) ?_
  refine s_bd (fun z1 hz => ?_)
  refine s_cV (rest := []) E (C_r_becomes (xl x) G (8 : Int32) (0 : Int32) m hz) mdX12_becomes W1509 W1511 W56 W103 W1512 rfl rfl rfl rfl (Nat.le_of_ble_eq_true rfl) ⟨by decide, by decide⟩ dX12_forget_4 ?_
  exact s_iret E rfl dX12_forget_7
set_option maxRecDepth 20000 in
theorem C_r_forget (l : Launch) (G : GG)  (m : M) {z : Int32 × M} (hz : r_forget m = some z) : Ct l G yX12_forget cX12_forget 1 (some .int) 2 [.ref (G.2.1 76)] m (some (.int z.1)) z.2 :=
  ct_of (K := KWi) (by decide) (Nat.le_of_ble_eq_true rfl) (congrArg (fun q => Option.bind q _) hz) (fun x hl hn E => (t_r_forget E hn  m))
theorem dX12_tellsLone_0 : decode cX12_tellsLone 0 = .ok (.iload_n 3, 1) := by decide +kernel
theorem dX12_tellsLone_1 : decode cX12_tellsLone 1 = .ok (.istore 4, 2) := by decide +kernel
theorem dX12_tellsLone_3 : decode cX12_tellsLone 3 = .ok (.iconst 0, 1) := by decide +kernel
theorem dX12_tellsLone_4 : decode cX12_tellsLone 4 = .ok (.istore 5, 2) := by decide +kernel
theorem dX12_tellsLone_6 : decode cX12_tellsLone 6 = .ok (.iconst 0, 1) := by decide +kernel
theorem dX12_tellsLone_7 : decode cX12_tellsLone 7 = .ok (.istore 6, 2) := by decide +kernel
theorem dX12_tellsLone_9 : decode cX12_tellsLone 9 = .ok (.iload 6, 2) := by decide +kernel
theorem dX12_tellsLone_11 : decode cX12_tellsLone 11 = .ok (.bipush 16, 2) := by decide +kernel
theorem dX12_tellsLone_13 : decode cX12_tellsLone 13 = .ok (.if_icmp .ge 119, 3) := by decide +kernel
theorem dX12_tellsLone_16 : decode cX12_tellsLone 16 = .ok (.aload_n 0, 1) := by decide +kernel
theorem dX12_tellsLone_17 : decode cX12_tellsLone 17 = .ok (.getfield 44, 3) := by decide +kernel
theorem dX12_tellsLone_20 : decode cX12_tellsLone 20 = .ok (.iload 6, 2) := by decide +kernel
theorem dX12_tellsLone_22 : decode cX12_tellsLone 22 = .ok (.iload 4, 2) := by decide +kernel
theorem dX12_tellsLone_24 : decode cX12_tellsLone 24 = .ok (.iastore, 1) := by decide +kernel
theorem dX12_tellsLone_25 : decode cX12_tellsLone 25 = .ok (.aload_n 0, 1) := by decide +kernel
theorem dX12_tellsLone_26 : decode cX12_tellsLone 26 = .ok (.getfield 47, 3) := by decide +kernel
theorem dX12_tellsLone_29 : decode cX12_tellsLone 29 = .ok (.iload 6, 2) := by decide +kernel
theorem dX12_tellsLone_31 : decode cX12_tellsLone 31 = .ok (.iload 5, 2) := by decide +kernel
theorem dX12_tellsLone_33 : decode cX12_tellsLone 33 = .ok (.iastore, 1) := by decide +kernel
theorem dX12_tellsLone_34 : decode cX12_tellsLone 34 = .ok (.aload_n 0, 1) := by decide +kernel
theorem dX12_tellsLone_35 : decode cX12_tellsLone 35 = .ok (.getfield 9, 3) := by decide +kernel
theorem dX12_tellsLone_38 : decode cX12_tellsLone 38 = .ok (.bipush 9, 2) := by decide +kernel
theorem dX12_tellsLone_40 : decode cX12_tellsLone 40 = .ok (.iload 6, 2) := by decide +kernel
theorem dX12_tellsLone_42 : decode cX12_tellsLone 42 = .ok (.iadd, 1) := by decide +kernel
theorem dX12_tellsLone_43 : decode cX12_tellsLone 43 = .ok (.iaload, 1) := by decide +kernel
theorem dX12_tellsLone_44 : decode cX12_tellsLone 44 = .ok (.istore 7, 2) := by decide +kernel
theorem dX12_tellsLone_46 : decode cX12_tellsLone 46 = .ok (.iload_n 1, 1) := by decide +kernel
theorem dX12_tellsLone_47 : decode cX12_tellsLone 47 = .ok (.iload 7, 2) := by decide +kernel
theorem dX12_tellsLone_49 : decode cX12_tellsLone 49 = .ok (.iconst 4, 1) := by decide +kernel
theorem dX12_tellsLone_50 : decode cX12_tellsLone 50 = .ok (.idiv, 1) := by decide +kernel
theorem dX12_tellsLone_51 : decode cX12_tellsLone 51 = .ok (.iload 4, 2) := by decide +kernel
theorem dX12_tellsLone_53 : decode cX12_tellsLone 53 = .ok (.iload_n 2, 1) := by decide +kernel
theorem dX12_tellsLone_54 : decode cX12_tellsLone 54 = .ok (.iload 6, 2) := by decide +kernel
theorem dX12_tellsLone_56 : decode cX12_tellsLone 56 = .ok (.invokestatic 87, 3) := by decide +kernel
theorem dX12_tellsLone_59 : decode cX12_tellsLone 59 = .ok (.istore 8, 2) := by decide +kernel
theorem dX12_tellsLone_61 : decode cX12_tellsLone 61 = .ok (.iload 8, 2) := by decide +kernel
theorem dX12_tellsLone_63 : decode cX12_tellsLone 63 = .ok (.ifCond .le 10, 3) := by decide +kernel
theorem dX12_tellsLone_66 : decode cX12_tellsLone 66 = .ok (.iload 4, 2) := by decide +kernel
theorem dX12_tellsLone_68 : decode cX12_tellsLone 68 = .ok (.iconst 2, 1) := by decide +kernel
theorem dX12_tellsLone_69 : decode cX12_tellsLone 69 = .ok (.isub, 1) := by decide +kernel
theorem dX12_tellsLone_70 : decode cX12_tellsLone 70 = .ok (.goto 17, 3) := by decide +kernel
theorem dX12_tellsLone_73 : decode cX12_tellsLone 73 = .ok (.iload 8, 2) := by decide +kernel
theorem dX12_tellsLone_75 : decode cX12_tellsLone 75 = .ok (.ifCond .ge 10, 3) := by decide +kernel
theorem dX12_tellsLone_78 : decode cX12_tellsLone 78 = .ok (.iload 4, 2) := by decide +kernel
theorem dX12_tellsLone_80 : decode cX12_tellsLone 80 = .ok (.iconst 2, 1) := by decide +kernel
theorem dX12_tellsLone_81 : decode cX12_tellsLone 81 = .ok (.iadd, 1) := by decide +kernel
theorem dX12_tellsLone_82 : decode cX12_tellsLone 82 = .ok (.goto 5, 3) := by decide +kernel
theorem dX12_tellsLone_85 : decode cX12_tellsLone 85 = .ok (.iload 4, 2) := by decide +kernel
theorem dX12_tellsLone_87 : decode cX12_tellsLone 87 = .ok (.bipush 9, 2) := by decide +kernel
theorem dX12_tellsLone_89 : decode cX12_tellsLone 89 = .ok (.invokestatic 195, 3) := by decide +kernel
theorem dX12_tellsLone_92 : decode cX12_tellsLone 92 = .ok (.istore 4, 2) := by decide +kernel
theorem dX12_tellsLone_94 : decode cX12_tellsLone 94 = .ok (.iload 5, 2) := by decide +kernel
theorem dX12_tellsLone_96 : decode cX12_tellsLone 96 = .ok (.iload 7, 2) := by decide +kernel
theorem dX12_tellsLone_98 : decode cX12_tellsLone 98 = .ok (.iload 4, 2) := by decide +kernel
theorem dX12_tellsLone_100 : decode cX12_tellsLone 100 = .ok (.invokestatic 211, 3) := by decide +kernel
theorem dX12_tellsLone_103 : decode cX12_tellsLone 103 = .ok (.ifCond .eq 12, 3) := by decide +kernel
theorem dX12_tellsLone_106 : decode cX12_tellsLone 106 = .ok (.iconst 5, 1) := by decide +kernel
theorem dX12_tellsLone_107 : decode cX12_tellsLone 107 = .ok (.iload 7, 2) := by decide +kernel
theorem dX12_tellsLone_109 : decode cX12_tellsLone 109 = .ok (.iconst 4, 1) := by decide +kernel
theorem dX12_tellsLone_110 : decode cX12_tellsLone 110 = .ok (.idiv, 1) := by decide +kernel
theorem dX12_tellsLone_111 : decode cX12_tellsLone 111 = .ok (.imul, 1) := by decide +kernel
theorem dX12_tellsLone_112 : decode cX12_tellsLone 112 = .ok (.goto 4, 3) := by decide +kernel
theorem dX12_tellsLone_115 : decode cX12_tellsLone 115 = .ok (.iconst 0, 1) := by decide +kernel
theorem dX12_tellsLone_116 : decode cX12_tellsLone 116 = .ok (.iadd, 1) := by decide +kernel
theorem dX12_tellsLone_117 : decode cX12_tellsLone 117 = .ok (.istore 5, 2) := by decide +kernel
theorem dX12_tellsLone_119 : decode cX12_tellsLone 119 = .ok (.iload 4, 2) := by decide +kernel
theorem dX12_tellsLone_121 : decode cX12_tellsLone 121 = .ok (.invokestatic 217, 3) := by decide +kernel
theorem dX12_tellsLone_124 : decode cX12_tellsLone 124 = .ok (.istore 4, 2) := by decide +kernel
theorem dX12_tellsLone_126 : decode cX12_tellsLone 126 = .ok (.iinc 6 1, 3) := by decide +kernel
theorem dX12_tellsLone_129 : decode cX12_tellsLone 129 = .ok (.goto (-120), 3) := by decide +kernel
theorem dX12_tellsLone_132 : decode cX12_tellsLone 132 = .ok (.return_, 1) := by decide +kernel
def r_tellsLone_116 (a1 : Int32) (a2 : Int32) (a4 : Int32) (a6 : Int32) (s0 : Int32) (s1 : Int32) (m : M) : Option ((Int32 × Int32 × Int32 × M) ⊕ ((M))) :=
  lt (s0 + s1) (fun w1 : Int32 => Option.bind (r_nearer a4 m) (fun v2 => lt (a6 + (1 : Int32)) (fun w3 : Int32 => some (.inl (v2, w1, w3, m)))))
set_option maxRecDepth 20000 in
theorem t_r_tellsLone_116 {G : GG} {x : Cx} {K : ((Int32 × Int32 × Int32 × M) ⊕ ((M))) → Option (Option Value × M)} (E : En G x cX12_tellsLone "WreckBoardModel" 2 none) (hn : xn x = 9) (a1 : Int32) (a2 : Int32) (a4 : Int32) (a6 : Int32) (s0 : Int32) (s1 : Int32) (m : M) (hb : ∀ z : Int32 × Int32 × Int32 × M, Sm G x 9 [(0, .ref (G.2.1 76)), (1, .int a1), (2, .int a2), (4, .int z.1), (5, .int z.2.1), (6, .int z.2.2.1)] [] z.2.2.2 (some (.inl z)) K) (hx0 : ∀ z : M, Sm G x 132 [] [] z (some (.inr z)) K) : Sm G x 116 [(0, .ref (G.2.1 76)), (1, .int a1), (2, .int a2), (4, .int a4), (6, .int a6)] [.int s1, .int s0] m (r_tellsLone_116 a1 a2 a4 a6 s0 s1 m) K := by
  unfold r_tellsLone_116
  refine s_iadd E dX12_tellsLone_116 ?_
  refine s_lt (fun w1 => [(0, .ref (G.2.1 76)), (1, .int a1), (2, .int a2), (4, .int a4), (6, .int a6)]) (fun w1 => [.int w1]) rfl rfl (fun w1 => ?_)
  refine s_istore (lv' := [(0, .ref (G.2.1 76)), (1, .int a1), (2, .int a2), (4, .int a4), (5, .int w1), (6, .int a6)]) [1, 2, 3, 4, 0, 5] E dX12_tellsLone_117 (by rw [hn]; decide) rfl ?_
  refine s_iload 3 E dX12_tellsLone_119 rfl ?_
  refine s_bd (fun v2 hz => ?_)
  refine s_cS (rest := []) E (C_r_nearer (xl x) G a4 m hz) mdX12_nearer W1575 W1576 W103 W1577 rfl rfl (Nat.le_of_ble_eq_true rfl) ⟨by decide, by decide⟩ dX12_tellsLone_121 ?_
  refine s_istore (lv' := [(0, .ref (G.2.1 76)), (1, .int a1), (2, .int a2), (4, .int v2), (5, .int w1), (6, .int a6)]) [1, 2, 3, 0, 4, 5] E dX12_tellsLone_124 (by rw [hn]; decide) rfl ?_
  refine s_iincL (v := (1 : Int32)) 5 [1, 2, 3, 4, 5, 0] (fun w3 => [(0, .ref (G.2.1 76)), (1, .int a1), (2, .int a2), (4, .int v2), (5, .int w1), (6, .int w3)]) E dX12_tellsLone_126 rfl (by decide) (by rw [hn]; decide) (fun _ => rfl) (fun w3 => ?_)
  refine s_goto 9 E dX12_tellsLone_129 (by decide) ?_
  exact hb (v2, w1, w3, m)
def r_tellsLone_87 (a1 : Int32) (a2 : Int32) (a5 : Int32) (a6 : Int32) (a7 : Int32) (s0 : Int32) (m : M) : Option ((Int32 × Int32 × Int32 × M) ⊕ ((M))) :=
  Option.bind (r_held s0 (9 : Int32) m) (fun v1 => Option.bind (r_isLost a7 v1 m) (fun v2 => (if v2 = 0 then r_tellsLone_116 a1 a2 v1 a6 a5 (0 : Int32) m else r_tellsLone_116 a1 a2 v1 a6 a5 ((5 : Int32) * (a7 / (4 : Int32))) m)))
set_option maxRecDepth 20000 in
theorem t_r_tellsLone_87 {G : GG} {x : Cx} {K : ((Int32 × Int32 × Int32 × M) ⊕ ((M))) → Option (Option Value × M)} (E : En G x cX12_tellsLone "WreckBoardModel" 2 none) (hn : xn x = 9) (a1 : Int32) (a2 : Int32) (a5 : Int32) (a6 : Int32) (a7 : Int32) (s0 : Int32) (m : M) (hb : ∀ z : Int32 × Int32 × Int32 × M, Sm G x 9 [(0, .ref (G.2.1 76)), (1, .int a1), (2, .int a2), (4, .int z.1), (5, .int z.2.1), (6, .int z.2.2.1)] [] z.2.2.2 (some (.inl z)) K) (hx0 : ∀ z : M, Sm G x 132 [] [] z (some (.inr z)) K) : Sm G x 87 [(0, .ref (G.2.1 76)), (1, .int a1), (2, .int a2), (5, .int a5), (6, .int a6), (7, .int a7)] [.int s0] m (r_tellsLone_87 a1 a2 a5 a6 a7 s0 m) K := by
  unfold r_tellsLone_87
  refine s_bipush (v := (9 : Int32)) E dX12_tellsLone_87 (by decide) ?_
  refine s_bd (fun v1 hz => ?_)
  refine s_cS (rest := []) E (C_r_held (xl x) G s0 (9 : Int32) m hz) mdX12_held W1569 W1570 W103 W1571 rfl rfl (Nat.le_of_ble_eq_true rfl) ⟨by decide, by decide⟩ dX12_tellsLone_89 ?_
  refine s_istore (lv' := [(0, .ref (G.2.1 76)), (1, .int a1), (2, .int a2), (4, .int v1), (5, .int a5), (6, .int a6), (7, .int a7)]) [1, 2, 3, 0, 4, 5, 6] E dX12_tellsLone_92 (by rw [hn]; decide) rfl ?_
  refine s_iload 4 E dX12_tellsLone_94 rfl ?_
  refine s_iload 6 E dX12_tellsLone_96 rfl ?_
  refine s_iload 3 E dX12_tellsLone_98 rfl ?_
  refine s_bd (fun v2 hz => ?_)
  refine s_cS (rest := [.int a5]) E (C_r_isLost (xl x) G a7 v1 m hz) mdX12_isLost W1572 W1573 W103 W1574 rfl rfl (Nat.le_of_ble_eq_true rfl) ⟨by decide, by decide⟩ dX12_tellsLone_100 ?_
  refine s_if_eq 115 E dX12_tellsLone_103 (by decide) ?_ ?_
  · refine s_iconst (v := (0 : Int32)) E dX12_tellsLone_115 (by decide) ?_
    refine s_sub (lv' := [(0, .ref (G.2.1 76)), (1, .int a1), (2, .int a2), (4, .int v1), (6, .int a6)]) [0, 1, 2, 3, 5] rfl ?_
    exact t_r_tellsLone_116 E hn a1 a2 v1 a6 a5 (0 : Int32) m hb hx0
  · refine s_iconst (v := (5 : Int32)) E dX12_tellsLone_106 (by decide) ?_
    refine s_iload 6 E dX12_tellsLone_107 rfl ?_
    refine s_iconst (v := (4 : Int32)) E dX12_tellsLone_109 (by decide) ?_
    refine s_idivc E dX12_tellsLone_110 (by decide) ?_
    refine s_imul E dX12_tellsLone_111 ?_
    refine s_goto 116 E dX12_tellsLone_112 (by decide) ?_
    refine s_sub (lv' := [(0, .ref (G.2.1 76)), (1, .int a1), (2, .int a2), (4, .int v1), (6, .int a6)]) [0, 1, 2, 3, 5] rfl ?_
    exact t_r_tellsLone_116 E hn a1 a2 v1 a6 a5 ((5 : Int32) * (a7 / (4 : Int32))) m hb hx0
def r_tellsLone_9b (a1 : Int32) (a2 : Int32) (a4 : Int32) (a5 : Int32) (a6 : Int32) (m : M) : Option ((Int32 × Int32 × Int32 × M) ⊕ ((M))) :=
  (if (16 : Int32) ≤ a6 then some (.inr m) else Option.bind (wrI m 88 a6 a4) (fun m1 => Option.bind (wrI m1 89 a6 a5) (fun m2 => Option.bind (rdI m2 77 ((9 : Int32) + a6)) (fun v3 => Option.bind (r_leansBy a1 (v3 / (4 : Int32)) a4 a2 a6 m2) (fun v4 => (if v4 ≤ 0 then (if 0 ≤ v4 then r_tellsLone_87 a1 a2 a5 a6 v3 a4 m2 else r_tellsLone_87 a1 a2 a5 a6 v3 (a4 + (2 : Int32)) m2) else r_tellsLone_87 a1 a2 a5 a6 v3 (a4 - (2 : Int32)) m2))))))
set_option maxRecDepth 20000 in
theorem t_r_tellsLone_9b {G : GG} {x : Cx} {K : ((Int32 × Int32 × Int32 × M) ⊕ ((M))) → Option (Option Value × M)} (E : En G x cX12_tellsLone "WreckBoardModel" 2 none) (hn : xn x = 9) (a1 : Int32) (a2 : Int32) (a4 : Int32) (a5 : Int32) (a6 : Int32) (m : M) (hb : ∀ z : Int32 × Int32 × Int32 × M, Sm G x 9 [(0, .ref (G.2.1 76)), (1, .int a1), (2, .int a2), (4, .int z.1), (5, .int z.2.1), (6, .int z.2.2.1)] [] z.2.2.2 (some (.inl z)) K) (hx0 : ∀ z : M, Sm G x 132 [] [] z (some (.inr z)) K) : Sm G x 9 [(0, .ref (G.2.1 76)), (1, .int a1), (2, .int a2), (4, .int a4), (5, .int a5), (6, .int a6)] [] m (r_tellsLone_9b a1 a2 a4 a5 a6 m) K := by
  unfold r_tellsLone_9b
  refine s_iload 5 E dX12_tellsLone_9 rfl ?_
  refine s_bipush (v := (16 : Int32)) E dX12_tellsLone_11 (by decide) ?_
  refine s_icmp_ge 132 E dX12_tellsLone_13 (by decide) ?_ ?_
  · refine s_sub (lv' := []) [] rfl ?_
    exact hx0 m
  · refine s_aload_n 0 E dX12_tellsLone_16 rfl rfl ?_
    refine s_getr (k := 24) (T := TX12) 76 E rfl rfl rfl inX12 (by decide) W1263 dX12_tellsLone_17 ?_
    refine s_iload 5 E dX12_tellsLone_20 rfl ?_
    refine s_iload 3 E dX12_tellsLone_22 rfl ?_
    refine s_iast E dX12_tellsLone_24 (fun m1 => ?_)
    refine s_aload_n 0 E dX12_tellsLone_25 rfl rfl ?_
    refine s_getr (k := 25) (T := TX12) 76 E rfl rfl rfl inX12 (by decide) W1264 dX12_tellsLone_26 ?_
    refine s_iload 5 E dX12_tellsLone_29 rfl ?_
    refine s_iload 4 E dX12_tellsLone_31 rfl ?_
    refine s_iast E dX12_tellsLone_33 (fun m2 => ?_)
    refine s_aload_n 0 E dX12_tellsLone_34 rfl rfl ?_
    refine s_getr (k := 0) (T := TX12) 76 E rfl rfl rfl inX12 (by decide) W1239 dX12_tellsLone_35 ?_
    refine s_bipush (v := (9 : Int32)) E dX12_tellsLone_38 (by decide) ?_
    refine s_iload 5 E dX12_tellsLone_40 rfl ?_
    refine s_iadd E dX12_tellsLone_42 ?_
    refine s_iald E dX12_tellsLone_43 (fun v3 => ?_)
    refine s_istore (lv' := [(0, .ref (G.2.1 76)), (1, .int a1), (2, .int a2), (4, .int a4), (5, .int a5), (6, .int a6), (7, .int v3)]) [1, 2, 3, 4, 5, 6, 0] E dX12_tellsLone_44 (by rw [hn]; decide) rfl ?_
    refine s_iload_n 1 E dX12_tellsLone_46 rfl rfl ?_
    refine s_iload 6 E dX12_tellsLone_47 rfl ?_
    refine s_iconst (v := (4 : Int32)) E dX12_tellsLone_49 (by decide) ?_
    refine s_idivc E dX12_tellsLone_50 (by decide) ?_
    refine s_iload 3 E dX12_tellsLone_51 rfl ?_
    refine s_iload_n 2 E dX12_tellsLone_53 rfl rfl ?_
    refine s_iload 5 E dX12_tellsLone_54 rfl ?_
    refine s_bd (fun v4 hz => ?_)
    refine s_cS (rest := []) E (C_r_leansBy (xl x) G a1 (v3 / (4 : Int32)) a4 a2 a6 m2 hz) mdX12_leansBy W1461 W1462 W103 W1463 rfl rfl (Nat.le_of_ble_eq_true rfl) ⟨by decide, by decide⟩ dX12_tellsLone_56 ?_
    refine s_istore (lv' := [(0, .ref (G.2.1 76)), (1, .int a1), (2, .int a2), (4, .int a4), (5, .int a5), (6, .int a6), (7, .int v3), (8, .int v4)]) [1, 2, 3, 4, 5, 6, 7, 0] E dX12_tellsLone_59 (by rw [hn]; decide) rfl ?_
    refine s_iload 7 E dX12_tellsLone_61 rfl ?_
    refine s_if_le 73 E dX12_tellsLone_63 (by decide) ?_ ?_
    · refine s_iload 7 E dX12_tellsLone_73 rfl ?_
      refine s_if_ge 85 E dX12_tellsLone_75 (by decide) ?_ ?_
      · refine s_iload 3 E dX12_tellsLone_85 rfl ?_
        refine s_sub (lv' := [(0, .ref (G.2.1 76)), (1, .int a1), (2, .int a2), (5, .int a5), (6, .int a6), (7, .int v3)]) [0, 1, 2, 4, 5, 6] rfl ?_
        exact t_r_tellsLone_87 E hn a1 a2 a5 a6 v3 a4 m2 hb hx0
      · refine s_iload 3 E dX12_tellsLone_78 rfl ?_
        refine s_iconst (v := (2 : Int32)) E dX12_tellsLone_80 (by decide) ?_
        refine s_iadd E dX12_tellsLone_81 ?_
        refine s_goto 87 E dX12_tellsLone_82 (by decide) ?_
        refine s_sub (lv' := [(0, .ref (G.2.1 76)), (1, .int a1), (2, .int a2), (5, .int a5), (6, .int a6), (7, .int v3)]) [0, 1, 2, 4, 5, 6] rfl ?_
        exact t_r_tellsLone_87 E hn a1 a2 a5 a6 v3 (a4 + (2 : Int32)) m2 hb hx0
    · refine s_iload 3 E dX12_tellsLone_66 rfl ?_
      refine s_iconst (v := (2 : Int32)) E dX12_tellsLone_68 (by decide) ?_
      refine s_isub E dX12_tellsLone_69 ?_
      refine s_goto 87 E dX12_tellsLone_70 (by decide) ?_
      refine s_sub (lv' := [(0, .ref (G.2.1 76)), (1, .int a1), (2, .int a2), (5, .int a5), (6, .int a6), (7, .int v3)]) [0, 1, 2, 4, 5, 6] rfl ?_
      exact t_r_tellsLone_87 E hn a1 a2 a5 a6 v3 (a4 - (2 : Int32)) m2 hb hx0
def r_tellsLone_9 (a1 : Int32) (a2 : Int32) (a4 : Int32) (a5 : Int32) (a6 : Int32) (m : M) : Option (M) :=
  Option.bind (iter (fun z => r_tellsLone_9b a1 a2 z.1 z.2.1 z.2.2.1 z.2.2.2) FU (a4, a5, a6, m)) (fun r => some r)
set_option maxRecDepth 20000 in
theorem t_r_tellsLone_9 {G : GG} {x : Cx} (E : En G x cX12_tellsLone "WreckBoardModel" 2 none) (hn : xn x = 9) (a1 : Int32) (a2 : Int32) (a4 : Int32) (a5 : Int32) (a6 : Int32) (m : M) : Sm G x 9 [(0, .ref (G.2.1 76)), (1, .int a1), (2, .int a2), (4, .int a4), (5, .int a5), (6, .int a6)] [] m (r_tellsLone_9 a1 a2 a4 a5 a6 m) KWv := by
  unfold r_tellsLone_9
  refine s_loop (fun z => [(0, .ref (G.2.1 76)), (1, .int a1), (2, .int a2), (4, .int z.1), (5, .int z.2.1), (6, .int z.2.2.1)]) (fun z => z.2.2.2) (fun K2 hb2 hr2 z => ?_) FU (a4, a5, a6, m)
  refine t_r_tellsLone_9b (K := K2) E hn a1 a2 z.1 z.2.1 z.2.2.1 z.2.2.2 hb2 (fun r => s_out (hr2 r) ?_)
  · exact s_vret E rfl dX12_tellsLone_132
def r_tellsLone (a1 : Int32) (a2 : Int32) (a3 : Int32) (m : M) : Option (M) :=
  r_tellsLone_9 a1 a2 a3 (0 : Int32) (0 : Int32) m
set_option maxRecDepth 20000 in
theorem t_r_tellsLone {G : GG} {x : Cx} (E : En G x cX12_tellsLone "WreckBoardModel" 2 none) (hn : xn x = 9) (a1 : Int32) (a2 : Int32) (a3 : Int32) (m : M) : Sm G x 0 [(0, .ref (G.2.1 76)), (1, .int a1), (2, .int a2), (3, .int a3)] [] m (r_tellsLone a1 a2 a3 m) KWv := by
  unfold r_tellsLone
  refine s_iload_n 3 E dX12_tellsLone_0 rfl rfl ?_
  refine s_istore (lv' := [(0, .ref (G.2.1 76)), (1, .int a1), (2, .int a2), (4, .int a3)]) [1, 2, 3, 0] E dX12_tellsLone_1 (by rw [hn]; decide) rfl ?_
  refine s_iconst (v := (0 : Int32)) E dX12_tellsLone_3 (by decide) ?_
  refine s_istore (lv' := [(0, .ref (G.2.1 76)), (1, .int a1), (2, .int a2), (4, .int a3), (5, .int (0 : Int32))]) [1, 2, 3, 4, 0] E dX12_tellsLone_4 (by rw [hn]; decide) rfl ?_
  refine s_iconst (v := (0 : Int32)) E dX12_tellsLone_6 (by decide) ?_
  refine s_istore (lv' := [(0, .ref (G.2.1 76)), (1, .int a1), (2, .int a2), (4, .int a3), (5, .int (0 : Int32)), (6, .int (0 : Int32))]) [1, 2, 3, 4, 5, 0] E dX12_tellsLone_7 (by rw [hn]; decide) rfl ?_
  exact t_r_tellsLone_9 E hn a1 a2 a3 (0 : Int32) (0 : Int32) m
set_option maxRecDepth 20000 in
theorem C_r_tellsLone (l : Launch) (G : GG) (a1 : Int32) (a2 : Int32) (a3 : Int32) (m : M) {z : M} (hz : r_tellsLone a1 a2 a3 m = some z) : Ct l G yX12_tellsLone cX12_tellsLone 9 none 2 [.ref (G.2.1 76), .int a1, .int a2, .int a3] m none z :=
  ct_of (K := KWv) (by decide) (Nat.le_of_ble_eq_true rfl) (congrArg (fun q => Option.bind q _) hz) (fun x hl hn E => (t_r_tellsLone E hn a1 a2 a3 m))
theorem mdX12_tellsLone : mdq yX12_tellsLone 3 := ⟨by decide, by decide, by decide +kernel⟩
theorem dX12_isSo_0 : decode cX12_isSo 0 = .ok (.bipush 67, 2) := by decide +kernel
theorem dX12_isSo_2 : decode cX12_isSo 2 = .ok (.iconst 4, 1) := by decide +kernel
theorem dX12_isSo_3 : decode cX12_isSo 3 = .ok (.iload_n 1, 1) := by decide +kernel
theorem dX12_isSo_4 : decode cX12_isSo 4 = .ok (.imul, 1) := by decide +kernel
theorem dX12_isSo_5 : decode cX12_isSo 5 = .ok (.iadd, 1) := by decide +kernel
theorem dX12_isSo_6 : decode cX12_isSo 6 = .ok (.istore_n 2, 1) := by decide +kernel
theorem dX12_isSo_7 : decode cX12_isSo 7 = .ok (.aload_n 0, 1) := by decide +kernel
theorem dX12_isSo_8 : decode cX12_isSo 8 = .ok (.getfield 9, 3) := by decide +kernel
theorem dX12_isSo_11 : decode cX12_isSo 11 = .ok (.iload_n 2, 1) := by decide +kernel
theorem dX12_isSo_12 : decode cX12_isSo 12 = .ok (.iconst 1, 1) := by decide +kernel
theorem dX12_isSo_13 : decode cX12_isSo 13 = .ok (.iadd, 1) := by decide +kernel
theorem dX12_isSo_14 : decode cX12_isSo 14 = .ok (.iaload, 1) := by decide +kernel
theorem dX12_isSo_15 : decode cX12_isSo 15 = .ok (.ifCond .ne 17, 3) := by decide +kernel
theorem dX12_isSo_18 : decode cX12_isSo 18 = .ok (.aload_n 0, 1) := by decide +kernel
theorem dX12_isSo_19 : decode cX12_isSo 19 = .ok (.getfield 44, 3) := by decide +kernel
theorem dX12_isSo_22 : decode cX12_isSo 22 = .ok (.aload_n 0, 1) := by decide +kernel
theorem dX12_isSo_23 : decode cX12_isSo 23 = .ok (.getfield 9, 3) := by decide +kernel
theorem dX12_isSo_26 : decode cX12_isSo 26 = .ok (.iload_n 2, 1) := by decide +kernel
theorem dX12_isSo_27 : decode cX12_isSo 27 = .ok (.iaload, 1) := by decide +kernel
theorem dX12_isSo_28 : decode cX12_isSo 28 = .ok (.iaload, 1) := by decide +kernel
theorem dX12_isSo_29 : decode cX12_isSo 29 = .ok (.goto 14, 3) := by decide +kernel
theorem dX12_isSo_32 : decode cX12_isSo 32 = .ok (.aload_n 0, 1) := by decide +kernel
theorem dX12_isSo_33 : decode cX12_isSo 33 = .ok (.getfield 47, 3) := by decide +kernel
theorem dX12_isSo_36 : decode cX12_isSo 36 = .ok (.aload_n 0, 1) := by decide +kernel
theorem dX12_isSo_37 : decode cX12_isSo 37 = .ok (.getfield 9, 3) := by decide +kernel
theorem dX12_isSo_40 : decode cX12_isSo 40 = .ok (.iload_n 2, 1) := by decide +kernel
theorem dX12_isSo_41 : decode cX12_isSo 41 = .ok (.iaload, 1) := by decide +kernel
theorem dX12_isSo_42 : decode cX12_isSo 42 = .ok (.iaload, 1) := by decide +kernel
theorem dX12_isSo_43 : decode cX12_isSo 43 = .ok (.aload_n 0, 1) := by decide +kernel
theorem dX12_isSo_44 : decode cX12_isSo 44 = .ok (.getfield 9, 3) := by decide +kernel
theorem dX12_isSo_47 : decode cX12_isSo 47 = .ok (.iload_n 2, 1) := by decide +kernel
theorem dX12_isSo_48 : decode cX12_isSo 48 = .ok (.iconst 2, 1) := by decide +kernel
theorem dX12_isSo_49 : decode cX12_isSo 49 = .ok (.iadd, 1) := by decide +kernel
theorem dX12_isSo_50 : decode cX12_isSo 50 = .ok (.iaload, 1) := by decide +kernel
theorem dX12_isSo_51 : decode cX12_isSo 51 = .ok (.aload_n 0, 1) := by decide +kernel
theorem dX12_isSo_52 : decode cX12_isSo 52 = .ok (.getfield 9, 3) := by decide +kernel
theorem dX12_isSo_55 : decode cX12_isSo 55 = .ok (.iload_n 2, 1) := by decide +kernel
theorem dX12_isSo_56 : decode cX12_isSo 56 = .ok (.iconst 3, 1) := by decide +kernel
theorem dX12_isSo_57 : decode cX12_isSo 57 = .ok (.iadd, 1) := by decide +kernel
theorem dX12_isSo_58 : decode cX12_isSo 58 = .ok (.iaload, 1) := by decide +kernel
theorem dX12_isSo_59 : decode cX12_isSo 59 = .ok (.invokestatic 71, 3) := by decide +kernel
theorem dX12_isSo_62 : decode cX12_isSo 62 = .ok (.ireturn, 1) := by decide +kernel
def r_isSo_43 (a2 : Int32) (s0 : Int32) (m : M) : Option (Int32) :=
  Option.bind (rdI m 77 (a2 + (2 : Int32))) (fun v1 => Option.bind (rdI m 77 (a2 + (3 : Int32))) (fun v2 => Option.bind (r_in1 s0 v1 v2 m) (fun v3 => some (v3 &&& 1))))
set_option maxRecDepth 20000 in
theorem t_r_isSo_43 {G : GG} {x : Cx} (E : En G x cX12_isSo "WreckBoardModel" 2 (some .boolean)) (hn : xn x = 3) (a2 : Int32) (s0 : Int32) (m : M) : Sm G x 43 [(0, .ref (G.2.1 76)), (2, .int a2)] [.int s0] m (r_isSo_43 a2 s0 m) (KRi m) := by
  unfold r_isSo_43
  refine s_aload_n 0 E dX12_isSo_43 rfl rfl ?_
  refine s_getr (k := 0) (T := TX12) 76 E rfl rfl rfl inX12 (by decide) W1239 dX12_isSo_44 ?_
  refine s_iload_n 1 E dX12_isSo_47 rfl rfl ?_
  refine s_iconst (v := (2 : Int32)) E dX12_isSo_48 (by decide) ?_
  refine s_iadd E dX12_isSo_49 ?_
  refine s_iald E dX12_isSo_50 (fun v1 => ?_)
  refine s_aload_n 0 E dX12_isSo_51 rfl rfl ?_
  refine s_getr (k := 0) (T := TX12) 76 E rfl rfl rfl inX12 (by decide) W1239 dX12_isSo_52 ?_
  refine s_iload_n 1 E dX12_isSo_55 rfl rfl ?_
  refine s_iconst (v := (3 : Int32)) E dX12_isSo_56 (by decide) ?_
  refine s_iadd E dX12_isSo_57 ?_
  refine s_iald E dX12_isSo_58 (fun v2 => ?_)
  refine s_bd (fun v3 hz => ?_)
  refine s_cS (rest := []) E (C_r_in1 (xl x) G s0 v1 v2 m hz) mdX12_in1 W1359 W1360 W103 W1361 rfl rfl (Nat.le_of_ble_eq_true rfl) ⟨by decide, by decide⟩ dX12_isSo_59 ?_
  exact s_zretN E rfl dX12_isSo_62
def r_isSo (a1 : Int32) (m : M) : Option (Int32) :=
  lt ((67 : Int32) + ((4 : Int32) * a1)) (fun w1 : Int32 => Option.bind (rdI m 77 (w1 + (1 : Int32))) (fun v2 => (if v2 = 0 then Option.bind (rdI m 77 w1) (fun v5 => Option.bind (rdI m 88 v5) (fun v6 => r_isSo_43 w1 v6 m)) else Option.bind (rdI m 77 w1) (fun v3 => Option.bind (rdI m 89 v3) (fun v4 => r_isSo_43 w1 v4 m)))))
set_option maxRecDepth 20000 in
theorem t_r_isSo {G : GG} {x : Cx} (E : En G x cX12_isSo "WreckBoardModel" 2 (some .boolean)) (hn : xn x = 3) (a1 : Int32) (m : M) : Sm G x 0 [(0, .ref (G.2.1 76)), (1, .int a1)] [] m (r_isSo a1 m) (KRi m) := by
  unfold r_isSo
  refine s_bipush (v := (67 : Int32)) E dX12_isSo_0 (by decide) ?_
  refine s_iconst (v := (4 : Int32)) E dX12_isSo_2 (by decide) ?_
  refine s_iload_n 1 E dX12_isSo_3 rfl rfl ?_
  refine s_imul E dX12_isSo_4 ?_
  refine s_iadd E dX12_isSo_5 ?_
  refine s_lt (fun w1 => [(0, .ref (G.2.1 76)), (1, .int a1)]) (fun w1 => [.int w1]) rfl rfl (fun w1 => ?_)
  refine s_istore_n (lv' := [(0, .ref (G.2.1 76)), (2, .int w1)]) [1, 0] E dX12_isSo_6 rfl (by rw [hn]; decide) rfl ?_
  refine s_aload_n 0 E dX12_isSo_7 rfl rfl ?_
  refine s_getr (k := 0) (T := TX12) 76 E rfl rfl rfl inX12 (by decide) W1239 dX12_isSo_8 ?_
  refine s_iload_n 1 E dX12_isSo_11 rfl rfl ?_
  refine s_iconst (v := (1 : Int32)) E dX12_isSo_12 (by decide) ?_
  refine s_iadd E dX12_isSo_13 ?_
  refine s_iald E dX12_isSo_14 (fun v2 => ?_)
  refine s_if_ne 32 E dX12_isSo_15 (by decide) ?_ ?_
  · refine s_aload_n 0 E dX12_isSo_32 rfl rfl ?_
    refine s_getr (k := 25) (T := TX12) 76 E rfl rfl rfl inX12 (by decide) W1264 dX12_isSo_33 ?_
    refine s_aload_n 0 E dX12_isSo_36 rfl rfl ?_
    refine s_getr (k := 0) (T := TX12) 76 E rfl rfl rfl inX12 (by decide) W1239 dX12_isSo_37 ?_
    refine s_iload_n 1 E dX12_isSo_40 rfl rfl ?_
    refine s_iald E dX12_isSo_41 (fun v3 => ?_)
    refine s_iald E dX12_isSo_42 (fun v4 => ?_)
    exact t_r_isSo_43 E hn w1 v4 m
  · refine s_aload_n 0 E dX12_isSo_18 rfl rfl ?_
    refine s_getr (k := 24) (T := TX12) 76 E rfl rfl rfl inX12 (by decide) W1263 dX12_isSo_19 ?_
    refine s_aload_n 0 E dX12_isSo_22 rfl rfl ?_
    refine s_getr (k := 0) (T := TX12) 76 E rfl rfl rfl inX12 (by decide) W1239 dX12_isSo_23 ?_
    refine s_iload_n 1 E dX12_isSo_26 rfl rfl ?_
    refine s_iald E dX12_isSo_27 (fun v5 => ?_)
    refine s_iald E dX12_isSo_28 (fun v6 => ?_)
    refine s_goto 43 E dX12_isSo_29 (by decide) ?_
    exact t_r_isSo_43 E hn w1 v6 m
set_option maxRecDepth 20000 in
theorem C_r_isSo (l : Launch) (G : GG) (a1 : Int32) (m : M) {z : Int32} (hz : r_isSo a1 m = some z) : Ct l G yX12_isSo cX12_isSo 3 (some .boolean) 2 [.ref (G.2.1 76), .int a1] m (some (.int z)) m :=
  ct_of (K := (KRi m)) (by decide) (Nat.le_of_ble_eq_true rfl) (congrArg (fun q => Option.bind q _) hz) (fun x hl hn E => (t_r_isSo E hn a1 m))
theorem mdX12_isSo : mdq yX12_isSo 1 := ⟨by decide, by decide, by decide +kernel⟩
theorem dX12_fitting_0 : decode cX12_fitting 0 = .ok (.iconst 0, 1) := by decide +kernel
theorem dX12_fitting_1 : decode cX12_fitting 1 = .ok (.istore_n 2, 1) := by decide +kernel
theorem dX12_fitting_2 : decode cX12_fitting 2 = .ok (.aload_n 0, 1) := by decide +kernel
theorem dX12_fitting_3 : decode cX12_fitting 3 = .ok (.iconst (-1), 1) := by decide +kernel
theorem dX12_fitting_4 : decode cX12_fitting 4 = .ok (.putfield 304, 3) := by decide +kernel
theorem dX12_fitting_7 : decode cX12_fitting 7 = .ok (.iconst 0, 1) := by decide +kernel
theorem dX12_fitting_8 : decode cX12_fitting 8 = .ok (.istore_n 3, 1) := by decide +kernel
theorem dX12_fitting_9 : decode cX12_fitting 9 = .ok (.iload_n 3, 1) := by decide +kernel
theorem dX12_fitting_10 : decode cX12_fitting 10 = .ok (.sipush 500, 3) := by decide +kernel
theorem dX12_fitting_13 : decode cX12_fitting 13 = .ok (.if_icmp .ge 118, 3) := by decide +kernel
theorem dX12_fitting_16 : decode cX12_fitting 16 = .ok (.aload_n 0, 1) := by decide +kernel
theorem dX12_fitting_17 : decode cX12_fitting 17 = .ok (.iconst 1, 1) := by decide +kernel
theorem dX12_fitting_18 : decode cX12_fitting 18 = .ok (.iload_n 3, 1) := by decide +kernel
theorem dX12_fitting_19 : decode cX12_fitting 19 = .ok (.bipush 100, 2) := by decide +kernel
theorem dX12_fitting_21 : decode cX12_fitting 21 = .ok (.idiv, 1) := by decide +kernel
theorem dX12_fitting_22 : decode cX12_fitting 22 = .ok (.iadd, 1) := by decide +kernel
theorem dX12_fitting_23 : decode cX12_fitting 23 = .ok (.iload_n 3, 1) := by decide +kernel
theorem dX12_fitting_24 : decode cX12_fitting 24 = .ok (.bipush 10, 2) := by decide +kernel
theorem dX12_fitting_26 : decode cX12_fitting 26 = .ok (.idiv, 1) := by decide +kernel
theorem dX12_fitting_27 : decode cX12_fitting 27 = .ok (.bipush 10, 2) := by decide +kernel
theorem dX12_fitting_29 : decode cX12_fitting 29 = .ok (.irem, 1) := by decide +kernel
theorem dX12_fitting_30 : decode cX12_fitting 30 = .ok (.iload_n 3, 1) := by decide +kernel
theorem dX12_fitting_31 : decode cX12_fitting 31 = .ok (.bipush 10, 2) := by decide +kernel
theorem dX12_fitting_33 : decode cX12_fitting 33 = .ok (.irem, 1) := by decide +kernel
theorem dX12_fitting_34 : decode cX12_fitting 34 = .ok (.invokevirtual 307, 3) := by decide +kernel
theorem dX12_fitting_37 : decode cX12_fitting 37 = .ok (.iconst 1, 1) := by decide +kernel
theorem dX12_fitting_38 : decode cX12_fitting 38 = .ok (.istore 4, 2) := by decide +kernel
theorem dX12_fitting_40 : decode cX12_fitting 40 = .ok (.iconst 0, 1) := by decide +kernel
theorem dX12_fitting_41 : decode cX12_fitting 41 = .ok (.istore 5, 2) := by decide +kernel
theorem dX12_fitting_43 : decode cX12_fitting 43 = .ok (.iload 5, 2) := by decide +kernel
theorem dX12_fitting_45 : decode cX12_fitting 45 = .ok (.aload_n 0, 1) := by decide +kernel
theorem dX12_fitting_46 : decode cX12_fitting 46 = .ok (.getfield 9, 3) := by decide +kernel
theorem dX12_fitting_49 : decode cX12_fitting 49 = .ok (.bipush 8, 2) := by decide +kernel
theorem dX12_fitting_51 : decode cX12_fitting 51 = .ok (.iaload, 1) := by decide +kernel
theorem dX12_fitting_52 : decode cX12_fitting 52 = .ok (.if_icmp .ge 36, 3) := by decide +kernel
theorem dX12_fitting_55 : decode cX12_fitting 55 = .ok (.iload 4, 2) := by decide +kernel
theorem dX12_fitting_57 : decode cX12_fitting 57 = .ok (.ifCond .eq 31, 3) := by decide +kernel
theorem dX12_fitting_60 : decode cX12_fitting 60 = .ok (.iload 5, 2) := by decide +kernel
theorem dX12_fitting_62 : decode cX12_fitting 62 = .ok (.iload_n 1, 1) := by decide +kernel
theorem dX12_fitting_63 : decode cX12_fitting 63 = .ok (.if_icmp .eq 12, 3) := by decide +kernel
theorem dX12_fitting_66 : decode cX12_fitting 66 = .ok (.aload_n 0, 1) := by decide +kernel
theorem dX12_fitting_67 : decode cX12_fitting 67 = .ok (.iload 5, 2) := by decide +kernel
theorem dX12_fitting_69 : decode cX12_fitting 69 = .ok (.invokevirtual 310, 3) := by decide +kernel
theorem dX12_fitting_72 : decode cX12_fitting 72 = .ok (.ifCond .eq 7, 3) := by decide +kernel
theorem dX12_fitting_75 : decode cX12_fitting 75 = .ok (.iconst 1, 1) := by decide +kernel
theorem dX12_fitting_76 : decode cX12_fitting 76 = .ok (.goto 4, 3) := by decide +kernel
theorem dX12_fitting_79 : decode cX12_fitting 79 = .ok (.iconst 0, 1) := by decide +kernel
theorem dX12_fitting_80 : decode cX12_fitting 80 = .ok (.istore 4, 2) := by decide +kernel
theorem dX12_fitting_82 : decode cX12_fitting 82 = .ok (.iinc 5 1, 3) := by decide +kernel
theorem dX12_fitting_85 : decode cX12_fitting 85 = .ok (.goto (-42), 3) := by decide +kernel
theorem dX12_fitting_88 : decode cX12_fitting 88 = .ok (.iload_n 2, 1) := by decide +kernel
theorem dX12_fitting_89 : decode cX12_fitting 89 = .ok (.iload 4, 2) := by decide +kernel
theorem dX12_fitting_91 : decode cX12_fitting 91 = .ok (.ifCond .eq 7, 3) := by decide +kernel
theorem dX12_fitting_94 : decode cX12_fitting 94 = .ok (.iconst 1, 1) := by decide +kernel
theorem dX12_fitting_95 : decode cX12_fitting 95 = .ok (.goto 4, 3) := by decide +kernel
theorem dX12_fitting_98 : decode cX12_fitting 98 = .ok (.iconst 0, 1) := by decide +kernel
theorem dX12_fitting_99 : decode cX12_fitting 99 = .ok (.iadd, 1) := by decide +kernel
theorem dX12_fitting_100 : decode cX12_fitting 100 = .ok (.istore_n 2, 1) := by decide +kernel
theorem dX12_fitting_101 : decode cX12_fitting 101 = .ok (.aload_n 0, 1) := by decide +kernel
theorem dX12_fitting_102 : decode cX12_fitting 102 = .ok (.iload 4, 2) := by decide +kernel
theorem dX12_fitting_104 : decode cX12_fitting 104 = .ok (.ifCond .eq 14, 3) := by decide +kernel
theorem dX12_fitting_107 : decode cX12_fitting 107 = .ok (.aload_n 0, 1) := by decide +kernel
theorem dX12_fitting_108 : decode cX12_fitting 108 = .ok (.getfield 304, 3) := by decide +kernel
theorem dX12_fitting_111 : decode cX12_fitting 111 = .ok (.ifCond .ge 7, 3) := by decide +kernel
theorem dX12_fitting_114 : decode cX12_fitting 114 = .ok (.iload_n 3, 1) := by decide +kernel
theorem dX12_fitting_115 : decode cX12_fitting 115 = .ok (.goto 7, 3) := by decide +kernel
theorem dX12_fitting_118 : decode cX12_fitting 118 = .ok (.aload_n 0, 1) := by decide +kernel
theorem dX12_fitting_119 : decode cX12_fitting 119 = .ok (.getfield 304, 3) := by decide +kernel
theorem dX12_fitting_122 : decode cX12_fitting 122 = .ok (.putfield 304, 3) := by decide +kernel
theorem dX12_fitting_125 : decode cX12_fitting 125 = .ok (.iinc 3 1, 3) := by decide +kernel
theorem dX12_fitting_128 : decode cX12_fitting 128 = .ok (.goto (-119), 3) := by decide +kernel
theorem dX12_fitting_131 : decode cX12_fitting 131 = .ok (.iload_n 2, 1) := by decide +kernel
theorem dX12_fitting_132 : decode cX12_fitting 132 = .ok (.ireturn, 1) := by decide +kernel
def r_fitting_80 (a1 : Int32) (a2 : Int32) (a3 : Int32) (a5 : Int32) (s0 : Int32) (m : M) : Option ((Int32 × Int32) ⊕ ((Int32))) :=
  lt (a5 + (1 : Int32)) (fun w1 : Int32 => some (.inl (s0, w1)))
set_option maxRecDepth 20000 in
theorem t_r_fitting_80 {G : GG} {x : Cx} {K : ((Int32 × Int32) ⊕ ((Int32))) → Option (Option Value × M)} (E : En G x cX12_fitting "WreckBoardModel" 3 (some .int)) (hn : xn x = 6) (a1 : Int32) (a2 : Int32) (a3 : Int32) (a5 : Int32) (s0 : Int32) (m : M) (hb : ∀ z : Int32 × Int32, Sm G x 43 [(0, .ref (G.2.1 76)), (1, .int a1), (2, .int a2), (3, .int a3), (4, .int z.1), (5, .int z.2)] [] m (some (.inl z)) K) (hx0 : ∀ z : Int32, Sm G x 88 [(0, .ref (G.2.1 76)), (1, .int a1), (2, .int a2), (3, .int a3), (4, .int z)] [] m (some (.inr z)) K) : Sm G x 80 [(0, .ref (G.2.1 76)), (1, .int a1), (2, .int a2), (3, .int a3), (5, .int a5)] [.int s0] m (r_fitting_80 a1 a2 a3 a5 s0 m) K := by
  unfold r_fitting_80
  refine s_istore (lv' := [(0, .ref (G.2.1 76)), (1, .int a1), (2, .int a2), (3, .int a3), (4, .int s0), (5, .int a5)]) [1, 2, 3, 4, 0, 5] E dX12_fitting_80 (by rw [hn]; decide) rfl ?_
  refine s_iincL (v := (1 : Int32)) 5 [1, 2, 3, 4, 5, 0] (fun w1 => [(0, .ref (G.2.1 76)), (1, .int a1), (2, .int a2), (3, .int a3), (4, .int s0), (5, .int w1)]) E dX12_fitting_82 rfl (by decide) (by rw [hn]; decide) (fun _ => rfl) (fun w1 => ?_)
  refine s_goto 43 E dX12_fitting_85 (by decide) ?_
  exact hb (s0, w1)
def r_fitting_75 (a1 : Int32) (a2 : Int32) (a3 : Int32) (a5 : Int32) (m : M) : Option ((Int32 × Int32) ⊕ ((Int32))) :=
  r_fitting_80 a1 a2 a3 a5 (1 : Int32) m
set_option maxRecDepth 20000 in
theorem t_r_fitting_75 {G : GG} {x : Cx} {K : ((Int32 × Int32) ⊕ ((Int32))) → Option (Option Value × M)} (E : En G x cX12_fitting "WreckBoardModel" 3 (some .int)) (hn : xn x = 6) (a1 : Int32) (a2 : Int32) (a3 : Int32) (a5 : Int32) (m : M) (hb : ∀ z : Int32 × Int32, Sm G x 43 [(0, .ref (G.2.1 76)), (1, .int a1), (2, .int a2), (3, .int a3), (4, .int z.1), (5, .int z.2)] [] m (some (.inl z)) K) (hx0 : ∀ z : Int32, Sm G x 88 [(0, .ref (G.2.1 76)), (1, .int a1), (2, .int a2), (3, .int a3), (4, .int z)] [] m (some (.inr z)) K) : Sm G x 75 [(0, .ref (G.2.1 76)), (1, .int a1), (2, .int a2), (3, .int a3), (5, .int a5)] [] m (r_fitting_75 a1 a2 a3 a5 m) K := by
  unfold r_fitting_75
  refine s_iconst (v := (1 : Int32)) E dX12_fitting_75 (by decide) ?_
  refine s_goto 80 E dX12_fitting_76 (by decide) ?_
  exact t_r_fitting_80 E hn a1 a2 a3 a5 (1 : Int32) m hb hx0
def r_fitting_43b (a1 : Int32) (a2 : Int32) (a3 : Int32) (a4 : Int32) (a5 : Int32) (m : M) : Option ((Int32 × Int32) ⊕ ((Int32))) :=
  Option.bind (rdI m 77 (8 : Int32)) (fun v1 => (if v1 ≤ a5 then some (.inr a4) else (if a4 = 0 then some (.inr a4) else (if a5 = a1 then r_fitting_75 a1 a2 a3 a5 m else Option.bind (r_isSo a5 m) (fun v2 => (if v2 = 0 then r_fitting_80 a1 a2 a3 a5 (0 : Int32) m else r_fitting_75 a1 a2 a3 a5 m))))))
set_option maxRecDepth 20000 in
theorem t_r_fitting_43b {G : GG} {x : Cx} {K : ((Int32 × Int32) ⊕ ((Int32))) → Option (Option Value × M)} (E : En G x cX12_fitting "WreckBoardModel" 3 (some .int)) (hn : xn x = 6) (a1 : Int32) (a2 : Int32) (a3 : Int32) (a4 : Int32) (a5 : Int32) (m : M) (hb : ∀ z : Int32 × Int32, Sm G x 43 [(0, .ref (G.2.1 76)), (1, .int a1), (2, .int a2), (3, .int a3), (4, .int z.1), (5, .int z.2)] [] m (some (.inl z)) K) (hx0 : ∀ z : Int32, Sm G x 88 [(0, .ref (G.2.1 76)), (1, .int a1), (2, .int a2), (3, .int a3), (4, .int z)] [] m (some (.inr z)) K) : Sm G x 43 [(0, .ref (G.2.1 76)), (1, .int a1), (2, .int a2), (3, .int a3), (4, .int a4), (5, .int a5)] [] m (r_fitting_43b a1 a2 a3 a4 a5 m) K := by
  unfold r_fitting_43b
  refine s_iload 5 E dX12_fitting_43 rfl ?_
  refine s_aload_n 0 E dX12_fitting_45 rfl rfl ?_
  refine s_getr (k := 0) (T := TX12) 76 E rfl rfl rfl inX12 (by decide) W1239 dX12_fitting_46 ?_
  refine s_bipush (v := (8 : Int32)) E dX12_fitting_49 (by decide) ?_
  refine s_iald E dX12_fitting_51 (fun v1 => ?_)
  refine s_icmp_ge 88 E dX12_fitting_52 (by decide) ?_ ?_
  · refine s_sub (lv' := [(0, .ref (G.2.1 76)), (1, .int a1), (2, .int a2), (3, .int a3), (4, .int a4)]) [0, 1, 2, 3, 4] rfl ?_
    exact hx0 a4
  · refine s_iload 4 E dX12_fitting_55 rfl ?_
    refine s_if_eq 88 E dX12_fitting_57 (by decide) ?_ ?_
    · refine s_sub (lv' := [(0, .ref (G.2.1 76)), (1, .int a1), (2, .int a2), (3, .int a3), (4, .int a4)]) [0, 1, 2, 3, 4] rfl ?_
      exact hx0 a4
    · refine s_iload 5 E dX12_fitting_60 rfl ?_
      refine s_iload_n 1 E dX12_fitting_62 rfl rfl ?_
      refine s_icmp_eq 75 E dX12_fitting_63 (by decide) ?_ ?_
      · refine s_sub (lv' := [(0, .ref (G.2.1 76)), (1, .int a1), (2, .int a2), (3, .int a3), (5, .int a5)]) [0, 1, 2, 3, 5] rfl ?_
        exact t_r_fitting_75 E hn a1 a2 a3 a5 m hb hx0
      · refine s_aload_n 0 E dX12_fitting_66 rfl rfl ?_
        refine s_iload 5 E dX12_fitting_67 rfl ?_
        refine s_bd (fun v2 hz => ?_)
        refine s_cV (rest := []) E (C_r_isSo (xl x) G a5 m hz) mdX12_isSo W1720 W1722 W78 W103 W1723 rfl rfl rfl rfl (Nat.le_of_ble_eq_true rfl) ⟨by decide, by decide⟩ dX12_fitting_69 ?_
        refine s_if_eq 79 E dX12_fitting_72 (by decide) ?_ ?_
        · refine s_iconst (v := (0 : Int32)) E dX12_fitting_79 (by decide) ?_
          refine s_sub (lv' := [(0, .ref (G.2.1 76)), (1, .int a1), (2, .int a2), (3, .int a3), (5, .int a5)]) [0, 1, 2, 3, 5] rfl ?_
          exact t_r_fitting_80 E hn a1 a2 a3 a5 (0 : Int32) m hb hx0
        · refine s_sub (lv' := [(0, .ref (G.2.1 76)), (1, .int a1), (2, .int a2), (3, .int a3), (5, .int a5)]) [0, 1, 2, 3, 5] rfl ?_
          exact t_r_fitting_75 E hn a1 a2 a3 a5 m hb hx0
def r_fitting_122 (a1 : Int32) (a2 : Int32) (a3 : Int32) (s1 : Int32) (m : M) : Option ((Int32 × Int32 × M) ⊕ ((Int32 × M))) :=
  lt (wrF m 76 26 s1) (fun m1 => lt (a3 + (1 : Int32)) (fun w2 : Int32 => some (.inl (a2, w2, m1))))
set_option maxRecDepth 20000 in
theorem t_r_fitting_122 {G : GG} {x : Cx} {K : ((Int32 × Int32 × M) ⊕ ((Int32 × M))) → Option (Option Value × M)} (E : En G x cX12_fitting "WreckBoardModel" 3 (some .int)) (hn : xn x = 6) (a1 : Int32) (a2 : Int32) (a3 : Int32) (s1 : Int32) (m : M) (hb : ∀ z : Int32 × Int32 × M, Sm G x 9 [(0, .ref (G.2.1 76)), (1, .int a1), (2, .int z.1), (3, .int z.2.1)] [] z.2.2 (some (.inl z)) K) (hx0 : ∀ z : Int32 × M, Sm G x 131 [(2, .int z.1)] [] z.2 (some (.inr z)) K) : Sm G x 122 [(0, .ref (G.2.1 76)), (1, .int a1), (2, .int a2), (3, .int a3)] [.int s1, .ref (G.2.1 76)] m (r_fitting_122 a1 a2 a3 s1 m) K := by
  unfold r_fitting_122
  refine s_put (k := 26) (T := TX12) (ty := .int) 76 E rfl rfl rfl inX12 tyX12 tyX12_ok nmX12 (by decide) W1265 rfl (by decide +kernel) rfl rfl dX12_fitting_122 ?_
  refine s_ltm rfl (fun m1 => ?_)
  refine s_iincL (v := (1 : Int32)) 3 [1, 2, 3, 0] (fun w2 => [(0, .ref (G.2.1 76)), (1, .int a1), (2, .int a2), (3, .int w2)]) E dX12_fitting_125 rfl (by decide) (by rw [hn]; decide) (fun _ => rfl) (fun w2 => ?_)
  refine s_goto 9 E dX12_fitting_128 (by decide) ?_
  exact hb (a2, w2, m1)
def r_fitting_118 (a1 : Int32) (a2 : Int32) (a3 : Int32) (m : M) : Option ((Int32 × Int32 × M) ⊕ ((Int32 × M))) :=
  r_fitting_122 a1 a2 a3 (m 76 26) m
set_option maxRecDepth 20000 in
theorem t_r_fitting_118 {G : GG} {x : Cx} {K : ((Int32 × Int32 × M) ⊕ ((Int32 × M))) → Option (Option Value × M)} (E : En G x cX12_fitting "WreckBoardModel" 3 (some .int)) (hn : xn x = 6) (a1 : Int32) (a2 : Int32) (a3 : Int32) (m : M) (hb : ∀ z : Int32 × Int32 × M, Sm G x 9 [(0, .ref (G.2.1 76)), (1, .int a1), (2, .int z.1), (3, .int z.2.1)] [] z.2.2 (some (.inl z)) K) (hx0 : ∀ z : Int32 × M, Sm G x 131 [(2, .int z.1)] [] z.2 (some (.inr z)) K) : Sm G x 118 [(0, .ref (G.2.1 76)), (1, .int a1), (2, .int a2), (3, .int a3)] [.ref (G.2.1 76)] m (r_fitting_118 a1 a2 a3 m) K := by
  unfold r_fitting_118
  refine s_aload_n 0 E dX12_fitting_118 rfl rfl ?_
  refine s_geti (k := 26) (T := TX12) 76 E rfl rfl rfl inX12 (by decide) W1265 dX12_fitting_119 ?_
  exact t_r_fitting_122 E hn a1 a2 a3 (m 76 26) m hb hx0
def r_fitting_99 (a1 : Int32) (a3 : Int32) (a4 : Int32) (s0 : Int32) (s1 : Int32) (m : M) : Option ((Int32 × Int32 × M) ⊕ ((Int32 × M))) :=
  lt (s0 + s1) (fun w1 : Int32 => (if a4 = 0 then r_fitting_118 a1 w1 a3 m else (if 0 ≤ (m 76 26) then r_fitting_118 a1 w1 a3 m else r_fitting_122 a1 w1 a3 a3 m)))
set_option maxRecDepth 20000 in
theorem t_r_fitting_99 {G : GG} {x : Cx} {K : ((Int32 × Int32 × M) ⊕ ((Int32 × M))) → Option (Option Value × M)} (E : En G x cX12_fitting "WreckBoardModel" 3 (some .int)) (hn : xn x = 6) (a1 : Int32) (a3 : Int32) (a4 : Int32) (s0 : Int32) (s1 : Int32) (m : M) (hb : ∀ z : Int32 × Int32 × M, Sm G x 9 [(0, .ref (G.2.1 76)), (1, .int a1), (2, .int z.1), (3, .int z.2.1)] [] z.2.2 (some (.inl z)) K) (hx0 : ∀ z : Int32 × M, Sm G x 131 [(2, .int z.1)] [] z.2 (some (.inr z)) K) : Sm G x 99 [(0, .ref (G.2.1 76)), (1, .int a1), (3, .int a3), (4, .int a4)] [.int s1, .int s0] m (r_fitting_99 a1 a3 a4 s0 s1 m) K := by
  unfold r_fitting_99
  refine s_iadd E dX12_fitting_99 ?_
  refine s_lt (fun w1 => [(0, .ref (G.2.1 76)), (1, .int a1), (3, .int a3), (4, .int a4)]) (fun w1 => [.int w1]) rfl rfl (fun w1 => ?_)
  refine s_istore_n (lv' := [(0, .ref (G.2.1 76)), (1, .int a1), (2, .int w1), (3, .int a3), (4, .int a4)]) [1, 2, 0, 3, 4] E dX12_fitting_100 rfl (by rw [hn]; decide) rfl ?_
  refine s_aload_n 0 E dX12_fitting_101 rfl rfl ?_
  refine s_iload 4 E dX12_fitting_102 rfl ?_
  refine s_if_eq 118 E dX12_fitting_104 (by decide) ?_ ?_
  · refine s_sub (lv' := [(0, .ref (G.2.1 76)), (1, .int a1), (2, .int w1), (3, .int a3)]) [0, 1, 2, 3] rfl ?_
    exact t_r_fitting_118 E hn a1 w1 a3 m hb hx0
  · refine s_aload_n 0 E dX12_fitting_107 rfl rfl ?_
    refine s_geti (k := 26) (T := TX12) 76 E rfl rfl rfl inX12 (by decide) W1265 dX12_fitting_108 ?_
    refine s_if_ge 118 E dX12_fitting_111 (by decide) ?_ ?_
    · refine s_sub (lv' := [(0, .ref (G.2.1 76)), (1, .int a1), (2, .int w1), (3, .int a3)]) [0, 1, 2, 3] rfl ?_
      exact t_r_fitting_118 E hn a1 w1 a3 m hb hx0
    · refine s_iload_n 3 E dX12_fitting_114 rfl rfl ?_
      refine s_goto 122 E dX12_fitting_115 (by decide) ?_
      refine s_sub (lv' := [(0, .ref (G.2.1 76)), (1, .int a1), (2, .int w1), (3, .int a3)]) [0, 1, 2, 3] rfl ?_
      exact t_r_fitting_122 E hn a1 w1 a3 a3 m hb hx0
def r_fitting_88 (a1 : Int32) (a2 : Int32) (a3 : Int32) (a4 : Int32) (m : M) : Option ((Int32 × Int32 × M) ⊕ ((Int32 × M))) :=
  (if a4 = 0 then r_fitting_99 a1 a3 a4 a2 (0 : Int32) m else r_fitting_99 a1 a3 a4 a2 (1 : Int32) m)
set_option maxRecDepth 20000 in
theorem t_r_fitting_88 {G : GG} {x : Cx} {K : ((Int32 × Int32 × M) ⊕ ((Int32 × M))) → Option (Option Value × M)} (E : En G x cX12_fitting "WreckBoardModel" 3 (some .int)) (hn : xn x = 6) (a1 : Int32) (a2 : Int32) (a3 : Int32) (a4 : Int32) (m : M) (hb : ∀ z : Int32 × Int32 × M, Sm G x 9 [(0, .ref (G.2.1 76)), (1, .int a1), (2, .int z.1), (3, .int z.2.1)] [] z.2.2 (some (.inl z)) K) (hx0 : ∀ z : Int32 × M, Sm G x 131 [(2, .int z.1)] [] z.2 (some (.inr z)) K) : Sm G x 88 [(0, .ref (G.2.1 76)), (1, .int a1), (2, .int a2), (3, .int a3), (4, .int a4)] [] m (r_fitting_88 a1 a2 a3 a4 m) K := by
  unfold r_fitting_88
  refine s_iload_n 2 E dX12_fitting_88 rfl rfl ?_
  refine s_iload 4 E dX12_fitting_89 rfl ?_
  refine s_if_eq 98 E dX12_fitting_91 (by decide) ?_ ?_
  · refine s_iconst (v := (0 : Int32)) E dX12_fitting_98 (by decide) ?_
    refine s_sub (lv' := [(0, .ref (G.2.1 76)), (1, .int a1), (3, .int a3), (4, .int a4)]) [0, 1, 3, 4] rfl ?_
    exact t_r_fitting_99 E hn a1 a3 a4 a2 (0 : Int32) m hb hx0
  · refine s_iconst (v := (1 : Int32)) E dX12_fitting_94 (by decide) ?_
    refine s_goto 99 E dX12_fitting_95 (by decide) ?_
    refine s_sub (lv' := [(0, .ref (G.2.1 76)), (1, .int a1), (3, .int a3), (4, .int a4)]) [0, 1, 3, 4] rfl ?_
    exact t_r_fitting_99 E hn a1 a3 a4 a2 (1 : Int32) m hb hx0
def r_fitting_43 (a1 : Int32) (a2 : Int32) (a3 : Int32) (a4 : Int32) (a5 : Int32) (m : M) : Option ((Int32 × Int32 × M) ⊕ ((Int32 × M))) :=
  Option.bind (iter (fun z => r_fitting_43b a1 a2 a3 z.1 z.2 m) FU (a4, a5)) (fun r => r_fitting_88 a1 a2 a3 r m)
set_option maxRecDepth 20000 in
theorem t_r_fitting_43 {G : GG} {x : Cx} {K : ((Int32 × Int32 × M) ⊕ ((Int32 × M))) → Option (Option Value × M)} (E : En G x cX12_fitting "WreckBoardModel" 3 (some .int)) (hn : xn x = 6) (a1 : Int32) (a2 : Int32) (a3 : Int32) (a4 : Int32) (a5 : Int32) (m : M) (hb : ∀ z : Int32 × Int32 × M, Sm G x 9 [(0, .ref (G.2.1 76)), (1, .int a1), (2, .int z.1), (3, .int z.2.1)] [] z.2.2 (some (.inl z)) K) (hx0 : ∀ z : Int32 × M, Sm G x 131 [(2, .int z.1)] [] z.2 (some (.inr z)) K) : Sm G x 43 [(0, .ref (G.2.1 76)), (1, .int a1), (2, .int a2), (3, .int a3), (4, .int a4), (5, .int a5)] [] m (r_fitting_43 a1 a2 a3 a4 a5 m) K := by
  unfold r_fitting_43
  refine s_loop (fun z => [(0, .ref (G.2.1 76)), (1, .int a1), (2, .int a2), (3, .int a3), (4, .int z.1), (5, .int z.2)]) (fun z => m) (fun K2 hb2 hr2 z => ?_) FU (a4, a5)
  refine t_r_fitting_43b (K := K2) E hn a1 a2 a3 z.1 z.2 m hb2 (fun r => s_out (hr2 r) ?_)
  · exact t_r_fitting_88 E hn a1 a2 a3 r m hb hx0
def r_fitting_9b (a1 : Int32) (a2 : Int32) (a3 : Int32) (m : M) : Option ((Int32 × Int32 × M) ⊕ ((Int32 × M))) :=
  (if (500 : Int32) ≤ a3 then some (.inr (a2, m)) else Option.bind (r_tellsLone ((1 : Int32) + (a3 / (100 : Int32))) ((a3 / (10 : Int32)) - (a3 / (10 : Int32)) / (10 : Int32) * (10 : Int32)) (a3 - a3 / (10 : Int32) * (10 : Int32)) m) (fun m1 => r_fitting_43 a1 a2 a3 (1 : Int32) (0 : Int32) m1))
set_option maxRecDepth 20000 in
theorem t_r_fitting_9b {G : GG} {x : Cx} {K : ((Int32 × Int32 × M) ⊕ ((Int32 × M))) → Option (Option Value × M)} (E : En G x cX12_fitting "WreckBoardModel" 3 (some .int)) (hn : xn x = 6) (a1 : Int32) (a2 : Int32) (a3 : Int32) (m : M) (hb : ∀ z : Int32 × Int32 × M, Sm G x 9 [(0, .ref (G.2.1 76)), (1, .int a1), (2, .int z.1), (3, .int z.2.1)] [] z.2.2 (some (.inl z)) K) (hx0 : ∀ z : Int32 × M, Sm G x 131 [(2, .int z.1)] [] z.2 (some (.inr z)) K) : Sm G x 9 [(0, .ref (G.2.1 76)), (1, .int a1), (2, .int a2), (3, .int a3)] [] m (r_fitting_9b a1 a2 a3 m) K := by
  unfold r_fitting_9b
  refine s_iload_n 3 E dX12_fitting_9 rfl rfl ?_
  refine s_sipush (v := (500 : Int32)) E dX12_fitting_10 (by decide) ?_
  refine s_icmp_ge 131 E dX12_fitting_13 (by decide) ?_ ?_
  · refine s_sub (lv' := [(2, .int a2)]) [2] rfl ?_
    exact hx0 (a2, m)
  · refine s_aload_n 0 E dX12_fitting_16 rfl rfl ?_
    refine s_iconst (v := (1 : Int32)) E dX12_fitting_17 (by decide) ?_
    refine s_iload_n 3 E dX12_fitting_18 rfl rfl ?_
    refine s_bipush (v := (100 : Int32)) E dX12_fitting_19 (by decide) ?_
    refine s_idivc E dX12_fitting_21 (by decide) ?_
    refine s_iadd E dX12_fitting_22 ?_
    refine s_iload_n 3 E dX12_fitting_23 rfl rfl ?_
    refine s_bipush (v := (10 : Int32)) E dX12_fitting_24 (by decide) ?_
    refine s_idivc E dX12_fitting_26 (by decide) ?_
    refine s_bipush (v := (10 : Int32)) E dX12_fitting_27 (by decide) ?_
    refine s_iremc E dX12_fitting_29 (by decide) ?_
    refine s_iload_n 3 E dX12_fitting_30 rfl rfl ?_
    refine s_bipush (v := (10 : Int32)) E dX12_fitting_31 (by decide) ?_
    refine s_iremc E dX12_fitting_33 (by decide) ?_
    refine s_bd (fun m1 hz => ?_)
    refine s_cV (rest := []) E (C_r_tellsLone (xl x) G ((1 : Int32) + (a3 / (100 : Int32))) ((a3 / (10 : Int32)) - (a3 / (10 : Int32)) / (10 : Int32) * (10 : Int32)) (a3 - a3 / (10 : Int32) * (10 : Int32)) m hz) mdX12_tellsLone W1716 W1718 W77 W103 W1719 rfl rfl rfl rfl (Nat.le_of_ble_eq_true rfl) ⟨by decide, by decide⟩ dX12_fitting_34 ?_
    refine s_iconst (v := (1 : Int32)) E dX12_fitting_37 (by decide) ?_
    refine s_istore (lv' := [(0, .ref (G.2.1 76)), (1, .int a1), (2, .int a2), (3, .int a3), (4, .int (1 : Int32))]) [1, 2, 3, 4, 0] E dX12_fitting_38 (by rw [hn]; decide) rfl ?_
    refine s_iconst (v := (0 : Int32)) E dX12_fitting_40 (by decide) ?_
    refine s_istore (lv' := [(0, .ref (G.2.1 76)), (1, .int a1), (2, .int a2), (3, .int a3), (4, .int (1 : Int32)), (5, .int (0 : Int32))]) [1, 2, 3, 4, 5, 0] E dX12_fitting_41 (by rw [hn]; decide) rfl ?_
    exact t_r_fitting_43 E hn a1 a2 a3 (1 : Int32) (0 : Int32) m1 hb hx0
def r_fitting_9 (a1 : Int32) (a2 : Int32) (a3 : Int32) (m : M) : Option (Int32 × M) :=
  Option.bind (iter (fun z => r_fitting_9b a1 z.1 z.2.1 z.2.2) FU (a2, a3, m)) (fun r => some (r.1, r.2))
set_option maxRecDepth 20000 in
theorem t_r_fitting_9 {G : GG} {x : Cx} (E : En G x cX12_fitting "WreckBoardModel" 3 (some .int)) (hn : xn x = 6) (a1 : Int32) (a2 : Int32) (a3 : Int32) (m : M) : Sm G x 9 [(0, .ref (G.2.1 76)), (1, .int a1), (2, .int a2), (3, .int a3)] [] m (r_fitting_9 a1 a2 a3 m) KWi := by
  unfold r_fitting_9
  refine s_loop (fun z => [(0, .ref (G.2.1 76)), (1, .int a1), (2, .int z.1), (3, .int z.2.1)]) (fun z => z.2.2) (fun K2 hb2 hr2 z => ?_) FU (a2, a3, m)
  refine t_r_fitting_9b (K := K2) E hn a1 z.1 z.2.1 z.2.2 hb2 (fun r => s_out (hr2 r) ?_)
  · refine s_iload_n 0 E dX12_fitting_131 rfl rfl ?_
    exact s_iret E rfl dX12_fitting_132
def r_fitting (a1 : Int32) (m : M) : Option (Int32 × M) :=
  lt (wrF m 76 26 (-1 : Int32)) (fun m1 => r_fitting_9 a1 (0 : Int32) (0 : Int32) m1)
set_option maxRecDepth 20000 in
theorem t_r_fitting {G : GG} {x : Cx} (E : En G x cX12_fitting "WreckBoardModel" 3 (some .int)) (hn : xn x = 6) (a1 : Int32) (m : M) : Sm G x 0 [(0, .ref (G.2.1 76)), (1, .int a1)] [] m (r_fitting a1 m) KWi := by
  unfold r_fitting
  refine s_iconst (v := (0 : Int32)) E dX12_fitting_0 (by decide) ?_
  refine s_istore_n (lv' := [(0, .ref (G.2.1 76)), (1, .int a1), (2, .int (0 : Int32))]) [1, 2, 0] E dX12_fitting_1 rfl (by rw [hn]; decide) rfl ?_
  refine s_aload_n 0 E dX12_fitting_2 rfl rfl ?_
  refine s_iconst (v := (-1 : Int32)) E dX12_fitting_3 (by decide) ?_
  refine s_put (k := 26) (T := TX12) (ty := .int) 76 E rfl rfl rfl inX12 tyX12 tyX12_ok nmX12 (by decide) W1265 rfl (by decide +kernel) rfl rfl dX12_fitting_4 ?_
  refine s_ltm rfl (fun m1 => ?_)
  refine s_iconst (v := (0 : Int32)) E dX12_fitting_7 (by decide) ?_
  refine s_istore_n (lv' := [(0, .ref (G.2.1 76)), (1, .int a1), (2, .int (0 : Int32)), (3, .int (0 : Int32))]) [1, 2, 3, 0] E dX12_fitting_8 rfl (by rw [hn]; decide) rfl ?_
  exact t_r_fitting_9 E hn a1 (0 : Int32) (0 : Int32) m1
set_option maxRecDepth 20000 in
theorem C_r_fitting (l : Launch) (G : GG) (a1 : Int32) (m : M) {z : Int32 × M} (hz : r_fitting a1 m = some z) : Ct l G yX12_fitting cX12_fitting 6 (some .int) 3 [.ref (G.2.1 76), .int a1] m (some (.int z.1)) z.2 :=
  ct_of (K := KWi) (by decide) (Nat.le_of_ble_eq_true rfl) (congrArg (fun q => Option.bind q _) hz) (fun x hl hn E => (t_r_fitting E hn a1 m))
theorem mdX12_fitting : mdq yX12_fitting 1 := ⟨by decide, by decide, by decide +kernel⟩
theorem dX12_lone_0 : decode cX12_lone 0 = .ok (.iload_n 1, 1) := by decide +kernel
theorem dX12_lone_1 : decode cX12_lone 1 = .ok (.iconst 0, 1) := by decide +kernel
theorem dX12_lone_2 : decode cX12_lone 2 = .ok (.iconst 3, 1) := by decide +kernel
theorem dX12_lone_3 : decode cX12_lone 3 = .ok (.invokestatic 71, 3) := by decide +kernel
theorem dX12_lone_6 : decode cX12_lone 6 = .ok (.ifCond .ne 5, 3) := by decide +kernel
theorem dX12_lone_9 : decode cX12_lone 9 = .ok (.iconst (-1), 1) := by decide +kernel
theorem dX12_lone_10 : decode cX12_lone 10 = .ok (.ireturn, 1) := by decide +kernel
theorem dX12_lone_11 : decode cX12_lone 11 = .ok (.aload_n 0, 1) := by decide +kernel
theorem dX12_lone_12 : decode cX12_lone 12 = .ok (.iconst (-1), 1) := by decide +kernel
theorem dX12_lone_13 : decode cX12_lone 13 = .ok (.invokevirtual 313, 3) := by decide +kernel
theorem dX12_lone_16 : decode cX12_lone 16 = .ok (.istore_n 2, 1) := by decide +kernel
theorem dX12_lone_17 : decode cX12_lone 17 = .ok (.iload_n 1, 1) := by decide +kernel
theorem dX12_lone_18 : decode cX12_lone 18 = .ok (.ifCond .le 10, 3) := by decide +kernel
theorem dX12_lone_21 : decode cX12_lone 21 = .ok (.iload_n 2, 1) := by decide +kernel
theorem dX12_lone_22 : decode cX12_lone 22 = .ok (.ifCond .ne 6, 3) := by decide +kernel
theorem dX12_lone_25 : decode cX12_lone 25 = .ok (.bipush (-3), 2) := by decide +kernel
theorem dX12_lone_27 : decode cX12_lone 27 = .ok (.ireturn, 1) := by decide +kernel
theorem dX12_lone_28 : decode cX12_lone 28 = .ok (.iload_n 1, 1) := by decide +kernel
theorem dX12_lone_29 : decode cX12_lone 29 = .ok (.ifCond .ne 7, 3) := by decide +kernel
theorem dX12_lone_32 : decode cX12_lone 32 = .ok (.iload_n 2, 1) := by decide +kernel
theorem dX12_lone_33 : decode cX12_lone 33 = .ok (.goto 45, 3) := by decide +kernel
theorem dX12_lone_36 : decode cX12_lone 36 = .ok (.iload_n 1, 1) := by decide +kernel
theorem dX12_lone_37 : decode cX12_lone 37 = .ok (.iconst 1, 1) := by decide +kernel
theorem dX12_lone_38 : decode cX12_lone 38 = .ok (.if_icmp .ne 15, 3) := by decide +kernel
theorem dX12_lone_41 : decode cX12_lone 41 = .ok (.iconst 1, 1) := by decide +kernel
theorem dX12_lone_42 : decode cX12_lone 42 = .ok (.aload_n 0, 1) := by decide +kernel
theorem dX12_lone_43 : decode cX12_lone 43 = .ok (.getfield 304, 3) := by decide +kernel
theorem dX12_lone_46 : decode cX12_lone 46 = .ok (.bipush 100, 2) := by decide +kernel
theorem dX12_lone_48 : decode cX12_lone 48 = .ok (.idiv, 1) := by decide +kernel
theorem dX12_lone_49 : decode cX12_lone 49 = .ok (.iadd, 1) := by decide +kernel
theorem dX12_lone_50 : decode cX12_lone 50 = .ok (.goto 28, 3) := by decide +kernel
theorem dX12_lone_53 : decode cX12_lone 53 = .ok (.iload_n 1, 1) := by decide +kernel
theorem dX12_lone_54 : decode cX12_lone 54 = .ok (.iconst 2, 1) := by decide +kernel
theorem dX12_lone_55 : decode cX12_lone 55 = .ok (.if_icmp .ne 16, 3) := by decide +kernel
theorem dX12_lone_58 : decode cX12_lone 58 = .ok (.aload_n 0, 1) := by decide +kernel
theorem dX12_lone_59 : decode cX12_lone 59 = .ok (.getfield 304, 3) := by decide +kernel
theorem dX12_lone_62 : decode cX12_lone 62 = .ok (.bipush 10, 2) := by decide +kernel
theorem dX12_lone_64 : decode cX12_lone 64 = .ok (.idiv, 1) := by decide +kernel
theorem dX12_lone_65 : decode cX12_lone 65 = .ok (.bipush 10, 2) := by decide +kernel
theorem dX12_lone_67 : decode cX12_lone 67 = .ok (.irem, 1) := by decide +kernel
theorem dX12_lone_68 : decode cX12_lone 68 = .ok (.goto 10, 3) := by decide +kernel
theorem dX12_lone_71 : decode cX12_lone 71 = .ok (.aload_n 0, 1) := by decide +kernel
theorem dX12_lone_72 : decode cX12_lone 72 = .ok (.getfield 304, 3) := by decide +kernel
theorem dX12_lone_75 : decode cX12_lone 75 = .ok (.bipush 10, 2) := by decide +kernel
theorem dX12_lone_77 : decode cX12_lone 77 = .ok (.irem, 1) := by decide +kernel
theorem dX12_lone_78 : decode cX12_lone 78 = .ok (.ireturn, 1) := by decide +kernel
def r_lone_28 (a1 : Int32) (a2 : Int32) (m : M) : Option (Int32 × M) :=
  (if a1 = 0 then some (a2, m) else (if a1 = (1 : Int32) then some (((1 : Int32) + ((m 76 26) / (100 : Int32))), m) else (if a1 = (2 : Int32) then some ((((m 76 26) / (10 : Int32)) - ((m 76 26) / (10 : Int32)) / (10 : Int32) * (10 : Int32)), m) else some (((m 76 26) - (m 76 26) / (10 : Int32) * (10 : Int32)), m))))
set_option maxRecDepth 20000 in
theorem t_r_lone_28 {G : GG} {x : Cx} (E : En G x cX12_lone "WreckBoardModel" 4 (some .int)) (hn : xn x = 3) (a1 : Int32) (a2 : Int32) (m : M) : Sm G x 28 [(0, .ref (G.2.1 76)), (1, .int a1), (2, .int a2)] [] m (r_lone_28 a1 a2 m) KWi := by
  unfold r_lone_28
  refine s_iload_n 1 E dX12_lone_28 rfl rfl ?_
  refine s_if_ne 36 E dX12_lone_29 (by decide) ?_ ?_
  · refine s_iload_n 1 E dX12_lone_36 rfl rfl ?_
    refine s_iconst (v := (1 : Int32)) E dX12_lone_37 (by decide) ?_
    refine s_icmp_ne 53 E dX12_lone_38 (by decide) ?_ ?_
    · refine s_iload_n 1 E dX12_lone_53 rfl rfl ?_
      refine s_iconst (v := (2 : Int32)) E dX12_lone_54 (by decide) ?_
      refine s_icmp_ne 71 E dX12_lone_55 (by decide) ?_ ?_
      · refine s_aload_n 0 E dX12_lone_71 rfl rfl ?_
        refine s_geti (k := 26) (T := TX12) 76 E rfl rfl rfl inX12 (by decide) W1265 dX12_lone_72 ?_
        refine s_bipush (v := (10 : Int32)) E dX12_lone_75 (by decide) ?_
        refine s_iremc E dX12_lone_77 (by decide) ?_
        exact s_iret E rfl dX12_lone_78
      · refine s_aload_n 0 E dX12_lone_58 rfl rfl ?_
        refine s_geti (k := 26) (T := TX12) 76 E rfl rfl rfl inX12 (by decide) W1265 dX12_lone_59 ?_
        refine s_bipush (v := (10 : Int32)) E dX12_lone_62 (by decide) ?_
        refine s_idivc E dX12_lone_64 (by decide) ?_
        refine s_bipush (v := (10 : Int32)) E dX12_lone_65 (by decide) ?_
        refine s_iremc E dX12_lone_67 (by decide) ?_
        refine s_goto 78 E dX12_lone_68 (by decide) ?_
        exact s_iret E rfl dX12_lone_78
    · refine s_iconst (v := (1 : Int32)) E dX12_lone_41 (by decide) ?_
      refine s_aload_n 0 E dX12_lone_42 rfl rfl ?_
      refine s_geti (k := 26) (T := TX12) 76 E rfl rfl rfl inX12 (by decide) W1265 dX12_lone_43 ?_
      refine s_bipush (v := (100 : Int32)) E dX12_lone_46 (by decide) ?_
      refine s_idivc E dX12_lone_48 (by decide) ?_
      refine s_iadd E dX12_lone_49 ?_
      refine s_goto 78 E dX12_lone_50 (by decide) ?_
      exact s_iret E rfl dX12_lone_78
  · refine s_iload_n 2 E dX12_lone_32 rfl rfl ?_
    refine s_goto 78 E dX12_lone_33 (by decide) ?_
    exact s_iret E rfl dX12_lone_78
def r_lone (a1 : Int32) (m : M) : Option (Int32 × M) :=
  Option.bind (r_in1 a1 (0 : Int32) (3 : Int32) m) (fun v1 => (if v1 = 0 then some ((-1 : Int32), m) else Option.bind (r_fitting (-1 : Int32) m) (fun z2 => (if a1 ≤ 0 then r_lone_28 a1 z2.1 z2.2 else (if z2.1 = 0 then some ((-3 : Int32), z2.2) else r_lone_28 a1 z2.1 z2.2)))))
set_option maxRecDepth 20000 in
theorem t_r_lone {G : GG} {x : Cx} (E : En G x cX12_lone "WreckBoardModel" 4 (some .int)) (hn : xn x = 3) (a1 : Int32) (m : M) : Sm G x 0 [(0, .ref (G.2.1 76)), (1, .int a1)] [] m (r_lone a1 m) KWi := by
  unfold r_lone
  refine s_iload_n 1 E dX12_lone_0 rfl rfl ?_
  refine s_iconst (v := (0 : Int32)) E dX12_lone_1 (by decide) ?_
  refine s_iconst (v := (3 : Int32)) E dX12_lone_2 (by decide) ?_
  refine s_bd (fun v1 hz => ?_)
  refine s_cS (rest := []) E (C_r_in1 (xl x) G a1 (0 : Int32) (3 : Int32) m hz) mdX12_in1 W1359 W1360 W103 W1361 rfl rfl (Nat.le_of_ble_eq_true rfl) ⟨by decide, by decide⟩ dX12_lone_3 ?_
  refine s_if_ne 11 E dX12_lone_6 (by decide) ?_ ?_
  · refine s_aload_n 0 E dX12_lone_11 rfl rfl ?_
    refine s_iconst (v := (-1 : Int32)) E dX12_lone_12 (by decide) ?_
    refine s_bd (fun z2 hz => ?_)
    refine s_cV (rest := []) E (C_r_fitting (xl x) G (-1 : Int32) m hz) mdX12_fitting W1712 W1714 W76 W103 W1715 rfl rfl rfl rfl (Nat.le_of_ble_eq_true rfl) ⟨by decide, by decide⟩ dX12_lone_13 ?_
    refine s_istore_n (lv' := [(0, .ref (G.2.1 76)), (1, .int a1), (2, .int z2.1)]) [1, 2, 0] E dX12_lone_16 rfl (by rw [hn]; decide) rfl ?_
    refine s_iload_n 1 E dX12_lone_17 rfl rfl ?_
    refine s_if_le 28 E dX12_lone_18 (by decide) ?_ ?_
    · exact t_r_lone_28 E hn a1 z2.1 z2.2
    · refine s_iload_n 2 E dX12_lone_21 rfl rfl ?_
      refine s_if_ne 28 E dX12_lone_22 (by decide) ?_ ?_
      · exact t_r_lone_28 E hn a1 z2.1 z2.2
      · refine s_bipush (v := (-3 : Int32)) E dX12_lone_25 (by decide) ?_
        exact s_iret E rfl dX12_lone_27
  · refine s_iconst (v := (-1 : Int32)) E dX12_lone_9 (by decide) ?_
    exact s_iret E rfl dX12_lone_10
set_option maxRecDepth 20000 in
theorem C_r_lone (l : Launch) (G : GG) (a1 : Int32) (m : M) {z : Int32 × M} (hz : r_lone a1 m = some z) : Ct l G yX12_lone cX12_lone 3 (some .int) 4 [.ref (G.2.1 76), .int a1] m (some (.int z.1)) z.2 :=
  ct_of (K := KWi) (by decide) (Nat.le_of_ble_eq_true rfl) (congrArg (fun q => Option.bind q _) hz) (fun x hl hn E => (t_r_lone E hn a1 m))
theorem dX12_liar_0 : decode cX12_liar 0 = .ok (.aload_n 0, 1) := by decide +kernel
theorem dX12_liar_1 : decode cX12_liar 1 = .ok (.iconst (-1), 1) := by decide +kernel
theorem dX12_liar_2 : decode cX12_liar 2 = .ok (.invokevirtual 313, 3) := by decide +kernel
theorem dX12_liar_5 : decode cX12_liar 5 = .ok (.ifCond .le 6, 3) := by decide +kernel
theorem dX12_liar_8 : decode cX12_liar 8 = .ok (.bipush (-3), 2) := by decide +kernel
theorem dX12_liar_10 : decode cX12_liar 10 = .ok (.ireturn, 1) := by decide +kernel
theorem dX12_liar_11 : decode cX12_liar 11 = .ok (.iconst 0, 1) := by decide +kernel
theorem dX12_liar_12 : decode cX12_liar 12 = .ok (.istore_n 1, 1) := by decide +kernel
theorem dX12_liar_13 : decode cX12_liar 13 = .ok (.iload_n 1, 1) := by decide +kernel
theorem dX12_liar_14 : decode cX12_liar 14 = .ok (.aload_n 0, 1) := by decide +kernel
theorem dX12_liar_15 : decode cX12_liar 15 = .ok (.getfield 9, 3) := by decide +kernel
theorem dX12_liar_18 : decode cX12_liar 18 = .ok (.bipush 8, 2) := by decide +kernel
theorem dX12_liar_20 : decode cX12_liar 20 = .ok (.iaload, 1) := by decide +kernel
theorem dX12_liar_21 : decode cX12_liar 21 = .ok (.if_icmp .ge 19, 3) := by decide +kernel
theorem dX12_liar_24 : decode cX12_liar 24 = .ok (.aload_n 0, 1) := by decide +kernel
theorem dX12_liar_25 : decode cX12_liar 25 = .ok (.iload_n 1, 1) := by decide +kernel
theorem dX12_liar_26 : decode cX12_liar 26 = .ok (.invokevirtual 313, 3) := by decide +kernel
theorem dX12_liar_29 : decode cX12_liar 29 = .ok (.ifCond .le 5, 3) := by decide +kernel
theorem dX12_liar_32 : decode cX12_liar 32 = .ok (.iload_n 1, 1) := by decide +kernel
theorem dX12_liar_33 : decode cX12_liar 33 = .ok (.ireturn, 1) := by decide +kernel
theorem dX12_liar_34 : decode cX12_liar 34 = .ok (.iinc 1 1, 3) := by decide +kernel
theorem dX12_liar_37 : decode cX12_liar 37 = .ok (.goto (-24), 3) := by decide +kernel
theorem dX12_liar_40 : decode cX12_liar 40 = .ok (.bipush (-3), 2) := by decide +kernel
theorem dX12_liar_42 : decode cX12_liar 42 = .ok (.ireturn, 1) := by decide +kernel
def r_liar_13b (a1 : Int32) (m : M) : Option ((Int32 × M) ⊕ ((M) ⊕ ((Int32 × M)))) :=
  Option.bind (rdI m 77 (8 : Int32)) (fun v1 => (if v1 ≤ a1 then some (.inr (.inl m)) else Option.bind (r_fitting a1 m) (fun z2 => (if z2.1 ≤ 0 then lt (a1 + (1 : Int32)) (fun w3 : Int32 => some (.inl (w3, z2.2))) else some (.inr (.inr (a1, z2.2)))))))
set_option maxRecDepth 20000 in
theorem t_r_liar_13b {G : GG} {x : Cx} {K : ((Int32 × M) ⊕ ((M) ⊕ ((Int32 × M)))) → Option (Option Value × M)} (E : En G x cX12_liar "WreckBoardModel" 4 (some .int)) (hn : xn x = 2) (a1 : Int32) (m : M) (hb : ∀ z : Int32 × M, Sm G x 13 [(0, .ref (G.2.1 76)), (1, .int z.1)] [] z.2 (some (.inl z)) K) (hx0 : ∀ z : M, Sm G x 40 [] [] z (some (.inr (.inl z))) K) (hx1 : ∀ z : Int32 × M, Sm G x 32 [(1, .int z.1)] [] z.2 (some (.inr (.inr z))) K) : Sm G x 13 [(0, .ref (G.2.1 76)), (1, .int a1)] [] m (r_liar_13b a1 m) K := by
  unfold r_liar_13b
  refine s_iload_n 1 E dX12_liar_13 rfl rfl ?_
  refine s_aload_n 0 E dX12_liar_14 rfl rfl ?_
  refine s_getr (k := 0) (T := TX12) 76 E rfl rfl rfl inX12 (by decide) W1239 dX12_liar_15 ?_
  refine s_bipush (v := (8 : Int32)) E dX12_liar_18 (by decide) ?_
  refine s_iald E dX12_liar_20 (fun v1 => ?_)
  refine s_icmp_ge 40 E dX12_liar_21 (by decide) ?_ ?_
  · refine s_sub (lv' := []) [] rfl ?_
    exact hx0 m
  · refine s_aload_n 0 E dX12_liar_24 rfl rfl ?_
    refine s_iload_n 1 E dX12_liar_25 rfl rfl ?_
    refine s_bd (fun z2 hz => ?_)
    refine s_cV (rest := []) E (C_r_fitting (xl x) G a1 m hz) mdX12_fitting W1712 W1714 W76 W103 W1715 rfl rfl rfl rfl (Nat.le_of_ble_eq_true rfl) ⟨by decide, by decide⟩ dX12_liar_26 ?_
    refine s_if_le 34 E dX12_liar_29 (by decide) ?_ ?_
    · refine s_iincL (v := (1 : Int32)) 1 [1, 0] (fun w3 => [(0, .ref (G.2.1 76)), (1, .int w3)]) E dX12_liar_34 rfl (by decide) (by rw [hn]; decide) (fun _ => rfl) (fun w3 => ?_)
      refine s_goto 13 E dX12_liar_37 (by decide) ?_
      exact hb (w3, z2.2)
    · refine s_sub (lv' := [(1, .int a1)]) [1] rfl ?_
      exact hx1 (a1, z2.2)
def r_liar_13 (a1 : Int32) (m : M) : Option (Int32 × M) :=
  Option.bind (iter (fun z => r_liar_13b z.1 z.2) FU (a1, m)) (fun r => (match r with
  | .inl r => some ((-3 : Int32), r)
  | .inr r => some (r.1, r.2)))
set_option maxRecDepth 20000 in
theorem t_r_liar_13 {G : GG} {x : Cx} (E : En G x cX12_liar "WreckBoardModel" 4 (some .int)) (hn : xn x = 2) (a1 : Int32) (m : M) : Sm G x 13 [(0, .ref (G.2.1 76)), (1, .int a1)] [] m (r_liar_13 a1 m) KWi := by
  unfold r_liar_13
  refine s_loop (fun z => [(0, .ref (G.2.1 76)), (1, .int z.1)]) (fun z => z.2) (fun K2 hb2 hr2 z => ?_) FU (a1, m)
  refine t_r_liar_13b (K := K2) E hn z.1 z.2 hb2 (fun r => s_out (hr2 (.inl r)) ?_) (fun r => s_out (hr2 (.inr r)) ?_)
  · refine s_bipush (v := (-3 : Int32)) E dX12_liar_40 (by decide) ?_
    exact s_iret E rfl dX12_liar_42
  · refine s_iload_n 0 E dX12_liar_32 rfl rfl ?_
    exact s_iret E rfl dX12_liar_33
def r_liar  (m : M) : Option (Int32 × M) :=
  Option.bind (r_fitting (-1 : Int32) m) (fun z1 => (if z1.1 ≤ 0 then r_liar_13 (0 : Int32) z1.2 else some ((-3 : Int32), z1.2)))
set_option maxRecDepth 20000 in
theorem t_r_liar {G : GG} {x : Cx} (E : En G x cX12_liar "WreckBoardModel" 4 (some .int)) (hn : xn x = 2)  (m : M) : Sm G x 0 [(0, .ref (G.2.1 76))] [] m (r_liar m) KWi := by
  unfold r_liar
  refine s_aload_n 0 E dX12_liar_0 rfl rfl ?_
  refine s_iconst (v := (-1 : Int32)) E dX12_liar_1 (by decide) ?_
  refine s_bd (fun z1 hz => ?_)
  refine s_cV (rest := []) E (C_r_fitting (xl x) G (-1 : Int32) m hz) mdX12_fitting W1712 W1714 W76 W103 W1715 rfl rfl rfl rfl (Nat.le_of_ble_eq_true rfl) ⟨by decide, by decide⟩ dX12_liar_2 ?_
  refine s_if_le 11 E dX12_liar_5 (by decide) ?_ ?_
  · refine s_iconst (v := (0 : Int32)) E dX12_liar_11 (by decide) ?_
    refine s_istore_n (lv' := [(0, .ref (G.2.1 76)), (1, .int (0 : Int32))]) [1, 0] E dX12_liar_12 rfl (by rw [hn]; decide) rfl ?_
    exact t_r_liar_13 E hn (0 : Int32) z1.2
  · refine s_bipush (v := (-3 : Int32)) E dX12_liar_8 (by decide) ?_
    exact s_iret E rfl dX12_liar_10
set_option maxRecDepth 20000 in
theorem C_r_liar (l : Launch) (G : GG)  (m : M) {z : Int32 × M} (hz : r_liar m = some z) : Ct l G yX12_liar cX12_liar 2 (some .int) 4 [.ref (G.2.1 76)] m (some (.int z.1)) z.2 :=
  ct_of (K := KWi) (by decide) (Nat.le_of_ble_eq_true rfl) (congrArg (fun q => Option.bind q _) hz) (fun x hl hn E => (t_r_liar E hn  m))
theorem dX12_seed_0 : decode cX12_seed 0 = .ok (.aload_n 0, 1) := by decide +kernel
theorem dX12_seed_1 : decode cX12_seed 1 = .ok (.iconst 5, 1) := by decide +kernel
theorem dX12_seed_2 : decode cX12_seed 2 = .ok (.iload_n 1, 1) := by decide +kernel
theorem dX12_seed_3 : decode cX12_seed 3 = .ok (.invokevirtual 229, 3) := by decide +kernel
theorem dX12_seed_6 : decode cX12_seed 6 = .ok (.ireturn, 1) := by decide +kernel
def r_seed (a1 : Int32) (m : M) : Option (Int32 × M) :=
  Option.bind (r_becomes (5 : Int32) a1 m) (fun z1 => some (z1.1, z1.2))
set_option maxRecDepth 20000 in
theorem t_r_seed {G : GG} {x : Cx} (E : En G x cX12_seed "WreckBoardModel" 2 (some .int)) (hn : xn x = 2) (a1 : Int32) (m : M) : Sm G x 0 [(0, .ref (G.2.1 76)), (1, .int a1)] [] m (r_seed a1 m) KWi := by
  unfold r_seed
  refine s_aload_n 0 E dX12_seed_0 rfl rfl ?_
  refine s_iconst (v := (5 : Int32)) E dX12_seed_1 (by decide) ?_
  refine s_iload_n 1 E dX12_seed_2 rfl rfl ?_
  refine s_bd (fun z1 hz => ?_)
  refine s_cV (rest := []) E (C_r_becomes (xl x) G (5 : Int32) a1 m hz) mdX12_becomes W1509 W1511 W56 W103 W1512 rfl rfl rfl rfl (Nat.le_of_ble_eq_true rfl) ⟨by decide, by decide⟩ dX12_seed_3 ?_
  exact s_iret E rfl dX12_seed_6
set_option maxRecDepth 20000 in
theorem C_r_seed (l : Launch) (G : GG) (a1 : Int32) (m : M) {z : Int32 × M} (hz : r_seed a1 m = some z) : Ct l G yX12_seed cX12_seed 2 (some .int) 2 [.ref (G.2.1 76), .int a1] m (some (.int z.1)) z.2 :=
  ct_of (K := KWi) (by decide) (Nat.le_of_ble_eq_true rfl) (congrArg (fun q => Option.bind q _) hz) (fun x hl hn E => (t_r_seed E hn a1 m))
theorem dX12_byLot_0 : decode cX12_byLot 0 = .ok (.aload_n 0, 1) := by decide +kernel
theorem dX12_byLot_1 : decode cX12_byLot 1 = .ok (.getfield 9, 3) := by decide +kernel
theorem dX12_byLot_4 : decode cX12_byLot 4 = .ok (.iconst 5, 1) := by decide +kernel
theorem dX12_byLot_5 : decode cX12_byLot 5 = .ok (.aload_n 0, 1) := by decide +kernel
theorem dX12_byLot_6 : decode cX12_byLot 6 = .ok (.getfield 9, 3) := by decide +kernel
theorem dX12_byLot_9 : decode cX12_byLot 9 = .ok (.iconst 5, 1) := by decide +kernel
theorem dX12_byLot_10 : decode cX12_byLot 10 = .ok (.iaload, 1) := by decide +kernel
theorem dX12_byLot_11 : decode cX12_byLot 11 = .ok (.ldc_w 316, 3) := by decide +kernel
theorem dX12_byLot_14 : decode cX12_byLot 14 = .ok (.imul, 1) := by decide +kernel
theorem dX12_byLot_15 : decode cX12_byLot 15 = .ok (.sipush 12345, 3) := by decide +kernel
theorem dX12_byLot_18 : decode cX12_byLot 18 = .ok (.iadd, 1) := by decide +kernel
theorem dX12_byLot_19 : decode cX12_byLot 19 = .ok (.iastore, 1) := by decide +kernel
theorem dX12_byLot_20 : decode cX12_byLot 20 = .ok (.aload_n 0, 1) := by decide +kernel
theorem dX12_byLot_21 : decode cX12_byLot 21 = .ok (.aload_n 0, 1) := by decide +kernel
theorem dX12_byLot_22 : decode cX12_byLot 22 = .ok (.getfield 9, 3) := by decide +kernel
theorem dX12_byLot_25 : decode cX12_byLot 25 = .ok (.iconst 5, 1) := by decide +kernel
theorem dX12_byLot_26 : decode cX12_byLot 26 = .ok (.iaload, 1) := by decide +kernel
theorem dX12_byLot_27 : decode cX12_byLot 27 = .ok (.bipush 16, 2) := by decide +kernel
theorem dX12_byLot_29 : decode cX12_byLot 29 = .ok (.iushr, 1) := by decide +kernel
theorem dX12_byLot_30 : decode cX12_byLot 30 = .ok (.aload_n 0, 1) := by decide +kernel
theorem dX12_byLot_31 : decode cX12_byLot 31 = .ok (.getfield 9, 3) := by decide +kernel
theorem dX12_byLot_34 : decode cX12_byLot 34 = .ok (.bipush 6, 2) := by decide +kernel
theorem dX12_byLot_36 : decode cX12_byLot 36 = .ok (.iaload, 1) := by decide +kernel
theorem dX12_byLot_37 : decode cX12_byLot 37 = .ok (.iconst 1, 1) := by decide +kernel
theorem dX12_byLot_38 : decode cX12_byLot 38 = .ok (.iadd, 1) := by decide +kernel
theorem dX12_byLot_39 : decode cX12_byLot 39 = .ok (.irem, 1) := by decide +kernel
theorem dX12_byLot_40 : decode cX12_byLot 40 = .ok (.invokevirtual 238, 3) := by decide +kernel
theorem dX12_byLot_43 : decode cX12_byLot 43 = .ok (.ireturn, 1) := by decide +kernel
def r_byLot  (m : M) : Option (Int32 × M) :=
  Option.bind (rdI m 77 (5 : Int32)) (fun v1 => Option.bind (wrI m 77 (5 : Int32) ((v1 * (1103515245 : Int32)) + (12345 : Int32))) (fun m2 => Option.bind (rdI m2 77 (5 : Int32)) (fun v3 => Option.bind (rdI m2 77 (6 : Int32)) (fun v4 => Option.bind (rmI ((Int32.toUInt32 v3 >>> (Int32.toUInt32 (16 : Int32) &&& Int32.toUInt32 31)).toInt32) (v4 + (1 : Int32))) (fun q5 => Option.bind (r_goesBy q5 m2) (fun z6 => some (z6.1, z6.2)))))))
set_option maxRecDepth 20000 in
theorem t_r_byLot {G : GG} {x : Cx} (E : En G x cX12_byLot "WreckBoardModel" 9 (some .int)) (hn : xn x = 1)  (m : M) : Sm G x 0 [(0, .ref (G.2.1 76))] [] m (r_byLot m) KWi := by
  unfold r_byLot
  refine s_aload_n 0 E dX12_byLot_0 rfl rfl ?_
  refine s_getr (k := 0) (T := TX12) 76 E rfl rfl rfl inX12 (by decide) W1239 dX12_byLot_1 ?_
  refine s_iconst (v := (5 : Int32)) E dX12_byLot_4 (by decide) ?_
  refine s_aload_n 0 E dX12_byLot_5 rfl rfl ?_
  refine s_getr (k := 0) (T := TX12) 76 E rfl rfl rfl inX12 (by decide) W1239 dX12_byLot_6 ?_
  refine s_iconst (v := (5 : Int32)) E dX12_byLot_9 (by decide) ?_
  refine s_iald E dX12_byLot_10 (fun v1 => ?_)
  refine s_ldcw (v := (1103515245 : Int32)) E dX12_byLot_11 W1740 ?_
  refine s_imul E dX12_byLot_14 ?_
  refine s_sipush (v := (12345 : Int32)) E dX12_byLot_15 (by decide) ?_
  refine s_iadd E dX12_byLot_18 ?_
  refine s_iast E dX12_byLot_19 (fun m2 => ?_)
  refine s_aload_n 0 E dX12_byLot_20 rfl rfl ?_
  refine s_aload_n 0 E dX12_byLot_21 rfl rfl ?_
  refine s_getr (k := 0) (T := TX12) 76 E rfl rfl rfl inX12 (by decide) W1239 dX12_byLot_22 ?_
  refine s_iconst (v := (5 : Int32)) E dX12_byLot_25 (by decide) ?_
  refine s_iald E dX12_byLot_26 (fun v3 => ?_)
  refine s_bipush (v := (16 : Int32)) E dX12_byLot_27 (by decide) ?_
  refine s_iushr E dX12_byLot_29 ?_
  refine s_aload_n 0 E dX12_byLot_30 rfl rfl ?_
  refine s_getr (k := 0) (T := TX12) 76 E rfl rfl rfl inX12 (by decide) W1239 dX12_byLot_31 ?_
  refine s_bipush (v := (6 : Int32)) E dX12_byLot_34 (by decide) ?_
  refine s_iald E dX12_byLot_36 (fun v4 => ?_)
  refine s_iconst (v := (1 : Int32)) E dX12_byLot_37 (by decide) ?_
  refine s_iadd E dX12_byLot_38 ?_
  refine s_irem E dX12_byLot_39 (fun q5 => ?_)
  refine s_bd (fun z6 hz => ?_)
  refine s_cV (rest := []) E (C_r_goesBy (xl x) G q5 m2 hz) mdX12_goesBy W1557 W1559 W59 W103 W1560 rfl rfl rfl rfl (Nat.le_of_ble_eq_true rfl) ⟨by decide, by decide⟩ dX12_byLot_40 ?_
  exact s_iret E rfl dX12_byLot_43
set_option maxRecDepth 20000 in
theorem C_r_byLot (l : Launch) (G : GG)  (m : M) {z : Int32 × M} (hz : r_byLot m = some z) : Ct l G yX12_byLot cX12_byLot 1 (some .int) 9 [.ref (G.2.1 76)] m (some (.int z.1)) z.2 :=
  ct_of (K := KWi) (by decide) (Nat.le_of_ble_eq_true rfl) (congrArg (fun q => Option.bind q _) hz) (fun x hl hn E => (t_r_byLot E hn  m))
theorem mdX12_byLot : mdq yX12_byLot 0 := ⟨by decide, by decide, by decide +kernel⟩
theorem dX12_lot_0 : decode cX12_lot 0 = .ok (.aload_n 0, 1) := by decide +kernel
theorem dX12_lot_1 : decode cX12_lot 1 = .ok (.invokevirtual 232, 3) := by decide +kernel
theorem dX12_lot_4 : decode cX12_lot 4 = .ok (.ifCond .eq 8, 3) := by decide +kernel
theorem dX12_lot_7 : decode cX12_lot 7 = .ok (.bipush (-4), 2) := by decide +kernel
theorem dX12_lot_9 : decode cX12_lot 9 = .ok (.goto 7, 3) := by decide +kernel
theorem dX12_lot_12 : decode cX12_lot 12 = .ok (.aload_n 0, 1) := by decide +kernel
theorem dX12_lot_13 : decode cX12_lot 13 = .ok (.invokevirtual 317, 3) := by decide +kernel
theorem dX12_lot_16 : decode cX12_lot 16 = .ok (.ireturn, 1) := by decide +kernel
def r_lot  (m : M) : Option (Int32 × M) :=
  Option.bind (r_isOver m) (fun v1 => (if v1 = 0 then Option.bind (r_byLot m) (fun z2 => some (z2.1, z2.2)) else some ((-4 : Int32), m)))
set_option maxRecDepth 20000 in
theorem t_r_lot {G : GG} {x : Cx} (E : En G x cX12_lot "WreckBoardModel" 10 (some .int)) (hn : xn x = 1)  (m : M) : Sm G x 0 [(0, .ref (G.2.1 76))] [] m (r_lot m) KWi := by
  unfold r_lot
  refine s_aload_n 0 E dX12_lot_0 rfl rfl ?_
  refine s_bd (fun v1 hz => ?_)
  refine s_cV (rest := []) E (C_r_isOver (xl x) G  m hz) mdX12_isOver W1545 W1547 W57 W103 W1548 rfl rfl rfl rfl (Nat.le_of_ble_eq_true rfl) ⟨by decide, by decide⟩ dX12_lot_1 ?_
  refine s_if_eq 12 E dX12_lot_4 (by decide) ?_ ?_
  · refine s_aload_n 0 E dX12_lot_12 rfl rfl ?_
    refine s_bd (fun z2 hz => ?_)
    refine s_cV (rest := []) E (C_r_byLot (xl x) G  m hz) mdX12_byLot W1736 W1738 W79 W103 W1739 rfl rfl rfl rfl (Nat.le_of_ble_eq_true rfl) ⟨by decide, by decide⟩ dX12_lot_13 ?_
    exact s_iret E rfl dX12_lot_16
  · refine s_bipush (v := (-4 : Int32)) E dX12_lot_7 (by decide) ?_
    refine s_goto 16 E dX12_lot_9 (by decide) ?_
    exact s_iret E rfl dX12_lot_16
set_option maxRecDepth 20000 in
theorem C_r_lot (l : Launch) (G : GG)  (m : M) {z : Int32 × M} (hz : r_lot m = some z) : Ct l G yX12_lot cX12_lot 1 (some .int) 10 [.ref (G.2.1 76)] m (some (.int z.1)) z.2 :=
  ct_of (K := KWi) (by decide) (Nat.le_of_ble_eq_true rfl) (congrArg (fun q => Option.bind q _) hz) (fun x hl hn E => (t_r_lot E hn  m))
theorem dX12_times_0 : decode cX12_times 0 = .ok (.iload_n 1, 1) := by decide +kernel
theorem dX12_times_1 : decode cX12_times 1 = .ok (.iconst 1, 1) := by decide +kernel
theorem dX12_times_2 : decode cX12_times 2 = .ok (.bipush 40, 2) := by decide +kernel
theorem dX12_times_4 : decode cX12_times 4 = .ok (.invokestatic 71, 3) := by decide +kernel
theorem dX12_times_7 : decode cX12_times 7 = .ok (.ifCond .eq 14, 3) := by decide +kernel
theorem dX12_times_10 : decode cX12_times 10 = .ok (.iload_n 2, 1) := by decide +kernel
theorem dX12_times_11 : decode cX12_times 11 = .ok (.iconst 0, 1) := by decide +kernel
theorem dX12_times_12 : decode cX12_times 12 = .ok (.sipush 999, 3) := by decide +kernel
theorem dX12_times_15 : decode cX12_times 15 = .ok (.invokestatic 71, 3) := by decide +kernel
theorem dX12_times_18 : decode cX12_times 18 = .ok (.ifCond .ne 5, 3) := by decide +kernel
theorem dX12_times_21 : decode cX12_times 21 = .ok (.iconst (-1), 1) := by decide +kernel
theorem dX12_times_22 : decode cX12_times 22 = .ok (.ireturn, 1) := by decide +kernel
theorem dX12_times_23 : decode cX12_times 23 = .ok (.aload_n 0, 1) := by decide +kernel
theorem dX12_times_24 : decode cX12_times 24 = .ok (.invokevirtual 241, 3) := by decide +kernel
theorem dX12_times_27 : decode cX12_times 27 = .ok (.iconst 0, 1) := by decide +kernel
theorem dX12_times_28 : decode cX12_times 28 = .ok (.istore_n 3, 1) := by decide +kernel
theorem dX12_times_29 : decode cX12_times 29 = .ok (.iconst 0, 1) := by decide +kernel
theorem dX12_times_30 : decode cX12_times 30 = .ok (.istore 4, 2) := by decide +kernel
theorem dX12_times_32 : decode cX12_times 32 = .ok (.iload 4, 2) := by decide +kernel
theorem dX12_times_34 : decode cX12_times 34 = .ok (.iload_n 1, 1) := by decide +kernel
theorem dX12_times_35 : decode cX12_times 35 = .ok (.if_icmp .ge 65, 3) := by decide +kernel
theorem dX12_times_38 : decode cX12_times 38 = .ok (.iconst 0, 1) := by decide +kernel
theorem dX12_times_39 : decode cX12_times 39 = .ok (.istore 5, 2) := by decide +kernel
theorem dX12_times_41 : decode cX12_times 41 = .ok (.aload_n 0, 1) := by decide +kernel
theorem dX12_times_42 : decode cX12_times 42 = .ok (.invokevirtual 232, 3) := by decide +kernel
theorem dX12_times_45 : decode cX12_times 45 = .ok (.ifCond .ne 15, 3) := by decide +kernel
theorem dX12_times_48 : decode cX12_times 48 = .ok (.iload 5, 2) := by decide +kernel
theorem dX12_times_50 : decode cX12_times 50 = .ok (.aload_n 0, 1) := by decide +kernel
theorem dX12_times_51 : decode cX12_times 51 = .ok (.invokevirtual 317, 3) := by decide +kernel
theorem dX12_times_54 : decode cX12_times 54 = .ok (.iadd, 1) := by decide +kernel
theorem dX12_times_55 : decode cX12_times 55 = .ok (.istore 5, 2) := by decide +kernel
theorem dX12_times_57 : decode cX12_times 57 = .ok (.goto (-16), 3) := by decide +kernel
theorem dX12_times_60 : decode cX12_times 60 = .ok (.iload_n 3, 1) := by decide +kernel
theorem dX12_times_61 : decode cX12_times 61 = .ok (.iload 5, 2) := by decide +kernel
theorem dX12_times_63 : decode cX12_times 63 = .ok (.iload_n 2, 1) := by decide +kernel
theorem dX12_times_64 : decode cX12_times 64 = .ok (.if_icmp .lt 7, 3) := by decide +kernel
theorem dX12_times_67 : decode cX12_times 67 = .ok (.iconst 1, 1) := by decide +kernel
theorem dX12_times_68 : decode cX12_times 68 = .ok (.goto 4, 3) := by decide +kernel
theorem dX12_times_71 : decode cX12_times 71 = .ok (.iconst 0, 1) := by decide +kernel
theorem dX12_times_72 : decode cX12_times 72 = .ok (.iadd, 1) := by decide +kernel
theorem dX12_times_73 : decode cX12_times 73 = .ok (.istore_n 3, 1) := by decide +kernel
theorem dX12_times_74 : decode cX12_times 74 = .ok (.aload_n 0, 1) := by decide +kernel
theorem dX12_times_75 : decode cX12_times 75 = .ok (.getfield 9, 3) := by decide +kernel
theorem dX12_times_78 : decode cX12_times 78 = .ok (.iconst 5, 1) := by decide +kernel
theorem dX12_times_79 : decode cX12_times 79 = .ok (.iaload, 1) := by decide +kernel
theorem dX12_times_80 : decode cX12_times 80 = .ok (.istore 6, 2) := by decide +kernel
theorem dX12_times_82 : decode cX12_times 82 = .ok (.aload_n 0, 1) := by decide +kernel
theorem dX12_times_83 : decode cX12_times 83 = .ok (.invokevirtual 247, 3) := by decide +kernel
theorem dX12_times_86 : decode cX12_times 86 = .ok (.aload_n 0, 1) := by decide +kernel
theorem dX12_times_87 : decode cX12_times 87 = .ok (.getfield 9, 3) := by decide +kernel
theorem dX12_times_90 : decode cX12_times 90 = .ok (.iconst 5, 1) := by decide +kernel
theorem dX12_times_91 : decode cX12_times 91 = .ok (.iload 6, 2) := by decide +kernel
theorem dX12_times_93 : decode cX12_times 93 = .ok (.iastore, 1) := by decide +kernel
theorem dX12_times_94 : decode cX12_times 94 = .ok (.iinc 4 1, 3) := by decide +kernel
theorem dX12_times_97 : decode cX12_times 97 = .ok (.goto (-65), 3) := by decide +kernel
theorem dX12_times_100 : decode cX12_times 100 = .ok (.aload_n 0, 1) := by decide +kernel
theorem dX12_times_101 : decode cX12_times 101 = .ok (.invokevirtual 247, 3) := by decide +kernel
theorem dX12_times_104 : decode cX12_times 104 = .ok (.iload_n 3, 1) := by decide +kernel
theorem dX12_times_105 : decode cX12_times 105 = .ok (.ireturn, 1) := by decide +kernel
def r_times_41b (a1 : Int32) (a2 : Int32) (a3 : Int32) (a4 : Int32) (a5 : Int32) (m : M) : Option ((Int32 × M) ⊕ ((Int32 × M))) :=
  Option.bind (r_isOver m) (fun v1 => (if v1 = 0 then Option.bind (r_byLot m) (fun z2 => lt (a5 + z2.1) (fun w3 : Int32 => some (.inl (w3, z2.2)))) else some (.inr (a5, m))))
set_option maxRecDepth 20000 in
theorem t_r_times_41b {G : GG} {x : Cx} {K : ((Int32 × M) ⊕ ((Int32 × M))) → Option (Option Value × M)} (E : En G x cX12_times "WreckBoardModel" 10 (some .int)) (hn : xn x = 7) (a1 : Int32) (a2 : Int32) (a3 : Int32) (a4 : Int32) (a5 : Int32) (m : M) (hb : ∀ z : Int32 × M, Sm G x 41 [(0, .ref (G.2.1 76)), (1, .int a1), (2, .int a2), (3, .int a3), (4, .int a4), (5, .int z.1)] [] z.2 (some (.inl z)) K) (hx0 : ∀ z : Int32 × M, Sm G x 60 [(0, .ref (G.2.1 76)), (1, .int a1), (2, .int a2), (3, .int a3), (4, .int a4), (5, .int z.1)] [] z.2 (some (.inr z)) K) : Sm G x 41 [(0, .ref (G.2.1 76)), (1, .int a1), (2, .int a2), (3, .int a3), (4, .int a4), (5, .int a5)] [] m (r_times_41b a1 a2 a3 a4 a5 m) K := by
  unfold r_times_41b
  refine s_aload_n 0 E dX12_times_41 rfl rfl ?_
  refine s_bd (fun v1 hz => ?_)
  refine s_cV (rest := []) E (C_r_isOver (xl x) G  m hz) mdX12_isOver W1545 W1547 W57 W103 W1548 rfl rfl rfl rfl (Nat.le_of_ble_eq_true rfl) ⟨by decide, by decide⟩ dX12_times_42 ?_
  refine s_if_ne 60 E dX12_times_45 (by decide) ?_ ?_
  · exact hx0 (a5, m)
  · refine s_iload 5 E dX12_times_48 rfl ?_
    refine s_aload_n 0 E dX12_times_50 rfl rfl ?_
    refine s_bd (fun z2 hz => ?_)
    refine s_cV (rest := [.int a5]) E (C_r_byLot (xl x) G  m hz) mdX12_byLot W1736 W1738 W79 W103 W1739 rfl rfl rfl rfl (Nat.le_of_ble_eq_true rfl) ⟨by decide, by decide⟩ dX12_times_51 ?_
    refine s_iadd E dX12_times_54 ?_
    refine s_lt (fun w3 => [(0, .ref (G.2.1 76)), (1, .int a1), (2, .int a2), (3, .int a3), (4, .int a4), (5, .int a5)]) (fun w3 => [.int w3]) rfl rfl (fun w3 => ?_)
    refine s_istore (lv' := [(0, .ref (G.2.1 76)), (1, .int a1), (2, .int a2), (3, .int a3), (4, .int a4), (5, .int w3)]) [1, 2, 3, 4, 5, 0] E dX12_times_55 (by rw [hn]; decide) rfl ?_
    refine s_goto 41 E dX12_times_57 (by decide) ?_
    exact hb (w3, z2.2)
def r_times_72 (a1 : Int32) (a2 : Int32) (a4 : Int32) (s0 : Int32) (s1 : Int32) (m : M) : Option ((Int32 × Int32 × M) ⊕ ((Int32 × M))) :=
  lt (s0 + s1) (fun w1 : Int32 => Option.bind (rdI m 77 (5 : Int32)) (fun v2 => Option.bind (r_layBack m) (fun m3 => Option.bind (wrI m3 77 (5 : Int32) v2) (fun m4 => lt (a4 + (1 : Int32)) (fun w5 : Int32 => some (.inl (w1, w5, m4)))))))
set_option maxRecDepth 20000 in
theorem t_r_times_72 {G : GG} {x : Cx} {K : ((Int32 × Int32 × M) ⊕ ((Int32 × M))) → Option (Option Value × M)} (E : En G x cX12_times "WreckBoardModel" 10 (some .int)) (hn : xn x = 7) (a1 : Int32) (a2 : Int32) (a4 : Int32) (s0 : Int32) (s1 : Int32) (m : M) (hb : ∀ z : Int32 × Int32 × M, Sm G x 32 [(0, .ref (G.2.1 76)), (1, .int a1), (2, .int a2), (3, .int z.1), (4, .int z.2.1)] [] z.2.2 (some (.inl z)) K) (hx0 : ∀ z : Int32 × M, Sm G x 100 [(0, .ref (G.2.1 76)), (3, .int z.1)] [] z.2 (some (.inr z)) K) : Sm G x 72 [(0, .ref (G.2.1 76)), (1, .int a1), (2, .int a2), (4, .int a4)] [.int s1, .int s0] m (r_times_72 a1 a2 a4 s0 s1 m) K := by
  unfold r_times_72
  refine s_iadd E dX12_times_72 ?_
  refine s_lt (fun w1 => [(0, .ref (G.2.1 76)), (1, .int a1), (2, .int a2), (4, .int a4)]) (fun w1 => [.int w1]) rfl rfl (fun w1 => ?_)
  refine s_istore_n (lv' := [(0, .ref (G.2.1 76)), (1, .int a1), (2, .int a2), (3, .int w1), (4, .int a4)]) [1, 2, 3, 0, 4] E dX12_times_73 rfl (by rw [hn]; decide) rfl ?_
  refine s_aload_n 0 E dX12_times_74 rfl rfl ?_
  refine s_getr (k := 0) (T := TX12) 76 E rfl rfl rfl inX12 (by decide) W1239 dX12_times_75 ?_
  refine s_iconst (v := (5 : Int32)) E dX12_times_78 (by decide) ?_
  refine s_iald E dX12_times_79 (fun v2 => ?_)
  refine s_istore (lv' := [(0, .ref (G.2.1 76)), (1, .int a1), (2, .int a2), (3, .int w1), (4, .int a4), (6, .int v2)]) [1, 2, 3, 4, 5, 0] E dX12_times_80 (by rw [hn]; decide) rfl ?_
  refine s_aload_n 0 E dX12_times_82 rfl rfl ?_
  refine s_bd (fun m3 hz => ?_)
  refine s_cV (rest := []) E (C_r_layBack (xl x) G  m hz) mdX12_layBack W1590 W1592 W64 W103 W1593 rfl rfl rfl rfl (Nat.le_of_ble_eq_true rfl) ⟨by decide, by decide⟩ dX12_times_83 ?_
  refine s_aload_n 0 E dX12_times_86 rfl rfl ?_
  refine s_getr (k := 0) (T := TX12) 76 E rfl rfl rfl inX12 (by decide) W1239 dX12_times_87 ?_
  refine s_iconst (v := (5 : Int32)) E dX12_times_90 (by decide) ?_
  refine s_iload 5 E dX12_times_91 rfl ?_
  refine s_iast E dX12_times_93 (fun m4 => ?_)
  refine s_iincL (v := (1 : Int32)) 4 [1, 2, 3, 4, 0] (fun w5 => [(0, .ref (G.2.1 76)), (1, .int a1), (2, .int a2), (3, .int w1), (4, .int w5)]) E dX12_times_94 rfl (by decide) (by rw [hn]; decide) (fun _ => rfl) (fun w5 => ?_)
  refine s_goto 32 E dX12_times_97 (by decide) ?_
  exact hb (w1, w5, m4)
def r_times_41 (a1 : Int32) (a2 : Int32) (a3 : Int32) (a4 : Int32) (a5 : Int32) (m : M) : Option ((Int32 × Int32 × M) ⊕ ((Int32 × M))) :=
  Option.bind (iter (fun z => r_times_41b a1 a2 a3 a4 z.1 z.2) FU (a5, m)) (fun r => (if r.1 < a2 then r_times_72 a1 a2 a4 a3 (0 : Int32) r.2 else r_times_72 a1 a2 a4 a3 (1 : Int32) r.2))
set_option maxRecDepth 20000 in
theorem t_r_times_41 {G : GG} {x : Cx} {K : ((Int32 × Int32 × M) ⊕ ((Int32 × M))) → Option (Option Value × M)} (E : En G x cX12_times "WreckBoardModel" 10 (some .int)) (hn : xn x = 7) (a1 : Int32) (a2 : Int32) (a3 : Int32) (a4 : Int32) (a5 : Int32) (m : M) (hb : ∀ z : Int32 × Int32 × M, Sm G x 32 [(0, .ref (G.2.1 76)), (1, .int a1), (2, .int a2), (3, .int z.1), (4, .int z.2.1)] [] z.2.2 (some (.inl z)) K) (hx0 : ∀ z : Int32 × M, Sm G x 100 [(0, .ref (G.2.1 76)), (3, .int z.1)] [] z.2 (some (.inr z)) K) : Sm G x 41 [(0, .ref (G.2.1 76)), (1, .int a1), (2, .int a2), (3, .int a3), (4, .int a4), (5, .int a5)] [] m (r_times_41 a1 a2 a3 a4 a5 m) K := by
  unfold r_times_41
  refine s_loop (fun z => [(0, .ref (G.2.1 76)), (1, .int a1), (2, .int a2), (3, .int a3), (4, .int a4), (5, .int z.1)]) (fun z => z.2) (fun K2 hb2 hr2 z => ?_) FU (a5, m)
  refine t_r_times_41b (K := K2) E hn a1 a2 a3 a4 z.1 z.2 hb2 (fun r => s_out (hr2 r) ?_)
  · refine s_iload_n 3 E dX12_times_60 rfl rfl ?_
    refine s_iload 5 E dX12_times_61 rfl ?_
    refine s_iload_n 2 E dX12_times_63 rfl rfl ?_
    refine s_icmp_lt 71 E dX12_times_64 (by decide) ?_ ?_
    · refine s_iconst (v := (0 : Int32)) E dX12_times_71 (by decide) ?_
      refine s_sub (lv' := [(0, .ref (G.2.1 76)), (1, .int a1), (2, .int a2), (4, .int a4)]) [0, 1, 2, 4] rfl ?_
      exact t_r_times_72 E hn a1 a2 a4 a3 (0 : Int32) r.2 hb hx0
    · refine s_iconst (v := (1 : Int32)) E dX12_times_67 (by decide) ?_
      refine s_goto 72 E dX12_times_68 (by decide) ?_
      refine s_sub (lv' := [(0, .ref (G.2.1 76)), (1, .int a1), (2, .int a2), (4, .int a4)]) [0, 1, 2, 4] rfl ?_
      exact t_r_times_72 E hn a1 a2 a4 a3 (1 : Int32) r.2 hb hx0
def r_times_32b (a1 : Int32) (a2 : Int32) (a3 : Int32) (a4 : Int32) (m : M) : Option ((Int32 × Int32 × M) ⊕ ((Int32 × M))) :=
  (if a1 ≤ a4 then some (.inr (a3, m)) else r_times_41 a1 a2 a3 a4 (0 : Int32) m)
set_option maxRecDepth 20000 in
theorem t_r_times_32b {G : GG} {x : Cx} {K : ((Int32 × Int32 × M) ⊕ ((Int32 × M))) → Option (Option Value × M)} (E : En G x cX12_times "WreckBoardModel" 10 (some .int)) (hn : xn x = 7) (a1 : Int32) (a2 : Int32) (a3 : Int32) (a4 : Int32) (m : M) (hb : ∀ z : Int32 × Int32 × M, Sm G x 32 [(0, .ref (G.2.1 76)), (1, .int a1), (2, .int a2), (3, .int z.1), (4, .int z.2.1)] [] z.2.2 (some (.inl z)) K) (hx0 : ∀ z : Int32 × M, Sm G x 100 [(0, .ref (G.2.1 76)), (3, .int z.1)] [] z.2 (some (.inr z)) K) : Sm G x 32 [(0, .ref (G.2.1 76)), (1, .int a1), (2, .int a2), (3, .int a3), (4, .int a4)] [] m (r_times_32b a1 a2 a3 a4 m) K := by
  unfold r_times_32b
  refine s_iload 4 E dX12_times_32 rfl ?_
  refine s_iload_n 1 E dX12_times_34 rfl rfl ?_
  refine s_icmp_ge 100 E dX12_times_35 (by decide) ?_ ?_
  · refine s_sub (lv' := [(0, .ref (G.2.1 76)), (3, .int a3)]) [0, 3] rfl ?_
    exact hx0 (a3, m)
  · refine s_iconst (v := (0 : Int32)) E dX12_times_38 (by decide) ?_
    refine s_istore (lv' := [(0, .ref (G.2.1 76)), (1, .int a1), (2, .int a2), (3, .int a3), (4, .int a4), (5, .int (0 : Int32))]) [1, 2, 3, 4, 5, 0] E dX12_times_39 (by rw [hn]; decide) rfl ?_
    exact t_r_times_41 E hn a1 a2 a3 a4 (0 : Int32) m hb hx0
def r_times_32 (a1 : Int32) (a2 : Int32) (a3 : Int32) (a4 : Int32) (m : M) : Option (Int32 × M) :=
  Option.bind (iter (fun z => r_times_32b a1 a2 z.1 z.2.1 z.2.2) FU (a3, a4, m)) (fun r => Option.bind (r_layBack r.2) (fun m1 => some (r.1, m1)))
set_option maxRecDepth 20000 in
theorem t_r_times_32 {G : GG} {x : Cx} (E : En G x cX12_times "WreckBoardModel" 10 (some .int)) (hn : xn x = 7) (a1 : Int32) (a2 : Int32) (a3 : Int32) (a4 : Int32) (m : M) : Sm G x 32 [(0, .ref (G.2.1 76)), (1, .int a1), (2, .int a2), (3, .int a3), (4, .int a4)] [] m (r_times_32 a1 a2 a3 a4 m) KWi := by
  unfold r_times_32
  refine s_loop (fun z => [(0, .ref (G.2.1 76)), (1, .int a1), (2, .int a2), (3, .int z.1), (4, .int z.2.1)]) (fun z => z.2.2) (fun K2 hb2 hr2 z => ?_) FU (a3, a4, m)
  refine t_r_times_32b (K := K2) E hn a1 a2 z.1 z.2.1 z.2.2 hb2 (fun r => s_out (hr2 r) ?_)
  · refine s_aload_n 0 E dX12_times_100 rfl rfl ?_
    refine s_bd (fun m1 hz => ?_)
    refine s_cV (rest := []) E (C_r_layBack (xl x) G  r.2 hz) mdX12_layBack W1590 W1592 W64 W103 W1593 rfl rfl rfl rfl (Nat.le_of_ble_eq_true rfl) ⟨by decide, by decide⟩ dX12_times_101 ?_
    refine s_iload_n 1 E dX12_times_104 rfl rfl ?_
    exact s_iret E rfl dX12_times_105
def r_times (a1 : Int32) (a2 : Int32) (m : M) : Option (Int32 × M) :=
  Option.bind (r_in1 a1 (1 : Int32) (40 : Int32) m) (fun v1 => (if v1 = 0 then some ((-1 : Int32), m) else Option.bind (r_in1 a2 (0 : Int32) (999 : Int32) m) (fun v2 => (if v2 = 0 then some ((-1 : Int32), m) else Option.bind (r_layDown m) (fun m3 => r_times_32 a1 a2 (0 : Int32) (0 : Int32) m3)))))
set_option maxRecDepth 20000 in
theorem t_r_times {G : GG} {x : Cx} (E : En G x cX12_times "WreckBoardModel" 10 (some .int)) (hn : xn x = 7) (a1 : Int32) (a2 : Int32) (m : M) : Sm G x 0 [(0, .ref (G.2.1 76)), (1, .int a1), (2, .int a2)] [] m (r_times a1 a2 m) KWi := by
  unfold r_times
  refine s_iload_n 1 E dX12_times_0 rfl rfl ?_
  refine s_iconst (v := (1 : Int32)) E dX12_times_1 (by decide) ?_
  refine s_bipush (v := (40 : Int32)) E dX12_times_2 (by decide) ?_
  refine s_bd (fun v1 hz => ?_)
  refine s_cS (rest := []) E (C_r_in1 (xl x) G a1 (1 : Int32) (40 : Int32) m hz) mdX12_in1 W1359 W1360 W103 W1361 rfl rfl (Nat.le_of_ble_eq_true rfl) ⟨by decide, by decide⟩ dX12_times_4 ?_
  refine s_if_eq 21 E dX12_times_7 (by decide) ?_ ?_
  · refine s_iconst (v := (-1 : Int32)) E dX12_times_21 (by decide) ?_
    exact s_iret E rfl dX12_times_22
  · refine s_iload_n 2 E dX12_times_10 rfl rfl ?_
    refine s_iconst (v := (0 : Int32)) E dX12_times_11 (by decide) ?_
    refine s_sipush (v := (999 : Int32)) E dX12_times_12 (by decide) ?_
    refine s_bd (fun v2 hz => ?_)
    refine s_cS (rest := []) E (C_r_in1 (xl x) G a2 (0 : Int32) (999 : Int32) m hz) mdX12_in1 W1359 W1360 W103 W1361 rfl rfl (Nat.le_of_ble_eq_true rfl) ⟨by decide, by decide⟩ dX12_times_15 ?_
    refine s_if_ne 23 E dX12_times_18 (by decide) ?_ ?_
    · refine s_aload_n 0 E dX12_times_23 rfl rfl ?_
      refine s_bd (fun m3 hz => ?_)
      refine s_cV (rest := []) E (C_r_layDown (xl x) G  m hz) mdX12_layDown W1582 W1584 W62 W103 W1585 rfl rfl rfl rfl (Nat.le_of_ble_eq_true rfl) ⟨by decide, by decide⟩ dX12_times_24 ?_
      refine s_iconst (v := (0 : Int32)) E dX12_times_27 (by decide) ?_
      refine s_istore_n (lv' := [(0, .ref (G.2.1 76)), (1, .int a1), (2, .int a2), (3, .int (0 : Int32))]) [1, 2, 3, 0] E dX12_times_28 rfl (by rw [hn]; decide) rfl ?_
      refine s_iconst (v := (0 : Int32)) E dX12_times_29 (by decide) ?_
      refine s_istore (lv' := [(0, .ref (G.2.1 76)), (1, .int a1), (2, .int a2), (3, .int (0 : Int32)), (4, .int (0 : Int32))]) [1, 2, 3, 4, 0] E dX12_times_30 (by rw [hn]; decide) rfl ?_
      exact t_r_times_32 E hn a1 a2 (0 : Int32) (0 : Int32) m3
    · refine s_iconst (v := (-1 : Int32)) E dX12_times_21 (by decide) ?_
      exact s_iret E rfl dX12_times_22
set_option maxRecDepth 20000 in
theorem C_r_times (l : Launch) (G : GG) (a1 : Int32) (a2 : Int32) (m : M) {z : Int32 × M} (hz : r_times a1 a2 m = some z) : Ct l G yX12_times cX12_times 7 (some .int) 10 [.ref (G.2.1 76), .int a1, .int a2] m (some (.int z.1)) z.2 :=
  ct_of (K := KWi) (by decide) (Nat.le_of_ble_eq_true rfl) (congrArg (fun q => Option.bind q _) hz) (fun x hl hn E => (t_r_times E hn a1 a2 m))
theorem dX12_prove_0 : decode cX12_prove 0 = .ok (.iload_n 1, 1) := by decide +kernel
theorem dX12_prove_1 : decode cX12_prove 1 = .ok (.invokestatic 291, 3) := by decide +kernel
theorem dX12_prove_4 : decode cX12_prove 4 = .ok (.ifCond .ne 5, 3) := by decide +kernel
theorem dX12_prove_7 : decode cX12_prove 7 = .ok (.iconst (-1), 1) := by decide +kernel
theorem dX12_prove_8 : decode cX12_prove 8 = .ok (.ireturn, 1) := by decide +kernel
theorem dX12_prove_9 : decode cX12_prove 9 = .ok (.aload_n 0, 1) := by decide +kernel
theorem dX12_prove_10 : decode cX12_prove 10 = .ok (.iload_n 1, 1) := by decide +kernel
theorem dX12_prove_11 : decode cX12_prove 11 = .ok (.iconst 0, 1) := by decide +kernel
theorem dX12_prove_12 : decode cX12_prove 12 = .ok (.invokevirtual 294, 3) := by decide +kernel
theorem dX12_prove_15 : decode cX12_prove 15 = .ok (.aload_n 0, 1) := by decide +kernel
theorem dX12_prove_16 : decode cX12_prove 16 = .ok (.aload_n 0, 1) := by decide +kernel
theorem dX12_prove_17 : decode cX12_prove 17 = .ok (.iload_n 1, 1) := by decide +kernel
theorem dX12_prove_18 : decode cX12_prove 18 = .ok (.invokevirtual 288, 3) := by decide +kernel
theorem dX12_prove_21 : decode cX12_prove 21 = .ok (.putfield 320, 3) := by decide +kernel
theorem dX12_prove_24 : decode cX12_prove 24 = .ok (.aload_n 0, 1) := by decide +kernel
theorem dX12_prove_25 : decode cX12_prove 25 = .ok (.invokevirtual 241, 3) := by decide +kernel
theorem dX12_prove_28 : decode cX12_prove 28 = .ok (.iconst 0, 1) := by decide +kernel
theorem dX12_prove_29 : decode cX12_prove 29 = .ok (.istore_n 2, 1) := by decide +kernel
theorem dX12_prove_30 : decode cX12_prove 30 = .ok (.iload_n 2, 1) := by decide +kernel
theorem dX12_prove_31 : decode cX12_prove 31 = .ok (.aload_n 0, 1) := by decide +kernel
theorem dX12_prove_32 : decode cX12_prove 32 = .ok (.getfield 320, 3) := by decide +kernel
theorem dX12_prove_35 : decode cX12_prove 35 = .ok (.if_icmp .ge 58, 3) := by decide +kernel
theorem dX12_prove_38 : decode cX12_prove 38 = .ok (.aload_n 0, 1) := by decide +kernel
theorem dX12_prove_39 : decode cX12_prove 39 = .ok (.getfield 50, 3) := by decide +kernel
theorem dX12_prove_42 : decode cX12_prove 42 = .ok (.iconst 3, 1) := by decide +kernel
theorem dX12_prove_43 : decode cX12_prove 43 = .ok (.iload_n 2, 1) := by decide +kernel
theorem dX12_prove_44 : decode cX12_prove 44 = .ok (.imul, 1) := by decide +kernel
theorem dX12_prove_45 : decode cX12_prove 45 = .ok (.aload_n 0, 1) := by decide +kernel
theorem dX12_prove_46 : decode cX12_prove 46 = .ok (.getfield 41, 3) := by decide +kernel
theorem dX12_prove_49 : decode cX12_prove 49 = .ok (.iload_n 2, 1) := by decide +kernel
theorem dX12_prove_50 : decode cX12_prove 50 = .ok (.iaload, 1) := by decide +kernel
theorem dX12_prove_51 : decode cX12_prove 51 = .ok (.iastore, 1) := by decide +kernel
theorem dX12_prove_52 : decode cX12_prove 52 = .ok (.aload_n 0, 1) := by decide +kernel
theorem dX12_prove_53 : decode cX12_prove 53 = .ok (.getfield 50, 3) := by decide +kernel
theorem dX12_prove_56 : decode cX12_prove 56 = .ok (.iconst 3, 1) := by decide +kernel
theorem dX12_prove_57 : decode cX12_prove 57 = .ok (.iload_n 2, 1) := by decide +kernel
theorem dX12_prove_58 : decode cX12_prove 58 = .ok (.imul, 1) := by decide +kernel
theorem dX12_prove_59 : decode cX12_prove 59 = .ok (.iconst 1, 1) := by decide +kernel
theorem dX12_prove_60 : decode cX12_prove 60 = .ok (.iadd, 1) := by decide +kernel
theorem dX12_prove_61 : decode cX12_prove 61 = .ok (.aload_n 0, 1) := by decide +kernel
theorem dX12_prove_62 : decode cX12_prove 62 = .ok (.aload_n 0, 1) := by decide +kernel
theorem dX12_prove_63 : decode cX12_prove 63 = .ok (.getfield 41, 3) := by decide +kernel
theorem dX12_prove_66 : decode cX12_prove 66 = .ok (.iload_n 2, 1) := by decide +kernel
theorem dX12_prove_67 : decode cX12_prove 67 = .ok (.iaload, 1) := by decide +kernel
theorem dX12_prove_68 : decode cX12_prove 68 = .ok (.invokevirtual 238, 3) := by decide +kernel
theorem dX12_prove_71 : decode cX12_prove 71 = .ok (.iastore, 1) := by decide +kernel
theorem dX12_prove_72 : decode cX12_prove 72 = .ok (.aload_n 0, 1) := by decide +kernel
theorem dX12_prove_73 : decode cX12_prove 73 = .ok (.getfield 50, 3) := by decide +kernel
theorem dX12_prove_76 : decode cX12_prove 76 = .ok (.iconst 3, 1) := by decide +kernel
theorem dX12_prove_77 : decode cX12_prove 77 = .ok (.iload_n 2, 1) := by decide +kernel
theorem dX12_prove_78 : decode cX12_prove 78 = .ok (.imul, 1) := by decide +kernel
theorem dX12_prove_79 : decode cX12_prove 79 = .ok (.iconst 2, 1) := by decide +kernel
theorem dX12_prove_80 : decode cX12_prove 80 = .ok (.iadd, 1) := by decide +kernel
theorem dX12_prove_81 : decode cX12_prove 81 = .ok (.aload_n 0, 1) := by decide +kernel
theorem dX12_prove_82 : decode cX12_prove 82 = .ok (.iconst 4, 1) := by decide +kernel
theorem dX12_prove_83 : decode cX12_prove 83 = .ok (.invokevirtual 235, 3) := by decide +kernel
theorem dX12_prove_86 : decode cX12_prove 86 = .ok (.iastore, 1) := by decide +kernel
theorem dX12_prove_87 : decode cX12_prove 87 = .ok (.iinc 2 1, 3) := by decide +kernel
theorem dX12_prove_90 : decode cX12_prove 90 = .ok (.goto (-60), 3) := by decide +kernel
theorem dX12_prove_93 : decode cX12_prove 93 = .ok (.aload_n 0, 1) := by decide +kernel
theorem dX12_prove_94 : decode cX12_prove 94 = .ok (.invokevirtual 247, 3) := by decide +kernel
theorem dX12_prove_97 : decode cX12_prove 97 = .ok (.aload_n 0, 1) := by decide +kernel
theorem dX12_prove_98 : decode cX12_prove 98 = .ok (.getfield 320, 3) := by decide +kernel
theorem dX12_prove_101 : decode cX12_prove 101 = .ok (.ireturn, 1) := by decide +kernel
def r_prove_30b (a2 : Int32) (m : M) : Option ((Int32 × M) ⊕ ((M))) :=
  (if (m 76 28) ≤ a2 then some (.inr m) else Option.bind (rdI m 87 a2) (fun v1 => Option.bind (wrI m 90 ((3 : Int32) * a2) v1) (fun m2 => Option.bind (rdI m2 87 a2) (fun v3 => Option.bind (r_goesBy v3 m2) (fun z4 => Option.bind (wrI z4.2 90 (((3 : Int32) * a2) + (1 : Int32)) z4.1) (fun m5 => Option.bind (r_those (4 : Int32) m5) (fun v6 => Option.bind (wrI m5 90 (((3 : Int32) * a2) + (2 : Int32)) v6) (fun m7 => lt (a2 + (1 : Int32)) (fun w8 : Int32 => some (.inl (w8, m7)))))))))))
set_option maxRecDepth 20000 in
theorem t_r_prove_30b {G : GG} {x : Cx} {K : ((Int32 × M) ⊕ ((M))) → Option (Option Value × M)} (E : En G x cX12_prove "WreckBoardModel" 18 (some .int)) (hn : xn x = 3) (a2 : Int32) (m : M) (hb : ∀ z : Int32 × M, Sm G x 30 [(0, .ref (G.2.1 76)), (2, .int z.1)] [] z.2 (some (.inl z)) K) (hx0 : ∀ z : M, Sm G x 93 [(0, .ref (G.2.1 76))] [] z (some (.inr z)) K) : Sm G x 30 [(0, .ref (G.2.1 76)), (2, .int a2)] [] m (r_prove_30b a2 m) K := by
  unfold r_prove_30b
  refine s_iload_n 1 E dX12_prove_30 rfl rfl ?_
  refine s_aload_n 0 E dX12_prove_31 rfl rfl ?_
  refine s_geti (k := 28) (T := TX12) 76 E rfl rfl rfl inX12 (by decide) W1267 dX12_prove_32 ?_
  refine s_icmp_ge 93 E dX12_prove_35 (by decide) ?_ ?_
  · refine s_sub (lv' := [(0, .ref (G.2.1 76))]) [0] rfl ?_
    exact hx0 m
  · refine s_aload_n 0 E dX12_prove_38 rfl rfl ?_
    refine s_getr (k := 27) (T := TX12) 76 E rfl rfl rfl inX12 (by decide) W1266 dX12_prove_39 ?_
    refine s_iconst (v := (3 : Int32)) E dX12_prove_42 (by decide) ?_
    refine s_iload_n 1 E dX12_prove_43 rfl rfl ?_
    refine s_imul E dX12_prove_44 ?_
    refine s_aload_n 0 E dX12_prove_45 rfl rfl ?_
    refine s_getr (k := 19) (T := TX12) 76 E rfl rfl rfl inX12 (by decide) W1258 dX12_prove_46 ?_
    refine s_iload_n 1 E dX12_prove_49 rfl rfl ?_
    refine s_iald E dX12_prove_50 (fun v1 => ?_)
    refine s_iast E dX12_prove_51 (fun m2 => ?_)
    refine s_aload_n 0 E dX12_prove_52 rfl rfl ?_
    refine s_getr (k := 27) (T := TX12) 76 E rfl rfl rfl inX12 (by decide) W1266 dX12_prove_53 ?_
    refine s_iconst (v := (3 : Int32)) E dX12_prove_56 (by decide) ?_
    refine s_iload_n 1 E dX12_prove_57 rfl rfl ?_
    refine s_imul E dX12_prove_58 ?_
    refine s_iconst (v := (1 : Int32)) E dX12_prove_59 (by decide) ?_
    refine s_iadd E dX12_prove_60 ?_
    refine s_aload_n 0 E dX12_prove_61 rfl rfl ?_
    refine s_aload_n 0 E dX12_prove_62 rfl rfl ?_
    refine s_getr (k := 19) (T := TX12) 76 E rfl rfl rfl inX12 (by decide) W1258 dX12_prove_63 ?_
    refine s_iload_n 1 E dX12_prove_66 rfl rfl ?_
    refine s_iald E dX12_prove_67 (fun v3 => ?_)
    refine s_bd (fun z4 hz => ?_)
    refine s_cV (rest := [.int (((3 : Int32) * a2) + (1 : Int32)), .ref (G.2.1 90)]) E (C_r_goesBy (xl x) G v3 m2 hz) mdX12_goesBy W1557 W1559 W59 W103 W1560 rfl rfl rfl rfl (Nat.le_of_ble_eq_true rfl) ⟨by decide, by decide⟩ dX12_prove_68 ?_
    refine s_iast E dX12_prove_71 (fun m5 => ?_)
    refine s_aload_n 0 E dX12_prove_72 rfl rfl ?_
    refine s_getr (k := 27) (T := TX12) 76 E rfl rfl rfl inX12 (by decide) W1266 dX12_prove_73 ?_
    refine s_iconst (v := (3 : Int32)) E dX12_prove_76 (by decide) ?_
    refine s_iload_n 1 E dX12_prove_77 rfl rfl ?_
    refine s_imul E dX12_prove_78 ?_
    refine s_iconst (v := (2 : Int32)) E dX12_prove_79 (by decide) ?_
    refine s_iadd E dX12_prove_80 ?_
    refine s_aload_n 0 E dX12_prove_81 rfl rfl ?_
    refine s_iconst (v := (4 : Int32)) E dX12_prove_82 (by decide) ?_
    refine s_bd (fun v6 hz => ?_)
    refine s_cV (rest := [.int (((3 : Int32) * a2) + (2 : Int32)), .ref (G.2.1 90)]) E (C_r_those (xl x) G (4 : Int32) m5 hz) mdX12_those W1549 W1551 W58 W103 W1552 rfl rfl rfl rfl (Nat.le_of_ble_eq_true rfl) ⟨by decide, by decide⟩ dX12_prove_83 ?_
    refine s_iast E dX12_prove_86 (fun m7 => ?_)
    refine s_iincL (v := (1 : Int32)) 1 [1, 0] (fun w8 => [(0, .ref (G.2.1 76)), (2, .int w8)]) E dX12_prove_87 rfl (by decide) (by rw [hn]; decide) (fun _ => rfl) (fun w8 => ?_)
    refine s_goto 30 E dX12_prove_90 (by decide) ?_
    exact hb (w8, m7)
def r_prove_30 (a2 : Int32) (m : M) : Option (Int32 × M) :=
  Option.bind (iter (fun z => r_prove_30b z.1 z.2) FU (a2, m)) (fun r => Option.bind (r_layBack r) (fun m9 => some ((m9 76 28), m9)))
set_option maxRecDepth 20000 in
theorem t_r_prove_30 {G : GG} {x : Cx} (E : En G x cX12_prove "WreckBoardModel" 18 (some .int)) (hn : xn x = 3) (a2 : Int32) (m : M) : Sm G x 30 [(0, .ref (G.2.1 76)), (2, .int a2)] [] m (r_prove_30 a2 m) KWi := by
  unfold r_prove_30
  refine s_loop (fun z => [(0, .ref (G.2.1 76)), (2, .int z.1)]) (fun z => z.2) (fun K2 hb2 hr2 z => ?_) FU (a2, m)
  refine t_r_prove_30b (K := K2) E hn z.1 z.2 hb2 (fun r => s_out (hr2 r) ?_)
  · refine s_aload_n 0 E dX12_prove_93 rfl rfl ?_
    refine s_bd (fun m9 hz => ?_)
    refine s_cV (rest := []) E (C_r_layBack (xl x) G  r hz) mdX12_layBack W1590 W1592 W64 W103 W1593 rfl rfl rfl rfl (Nat.le_of_ble_eq_true rfl) ⟨by decide, by decide⟩ dX12_prove_94 ?_
    refine s_aload_n 0 E dX12_prove_97 rfl rfl ?_
    refine s_geti (k := 28) (T := TX12) 76 E rfl rfl rfl inX12 (by decide) W1267 dX12_prove_98 ?_
    exact s_iret E rfl dX12_prove_101
def r_prove (a1 : Int32) (m : M) : Option (Int32 × M) :=
  Option.bind (r_isPlan a1 m) (fun v1 => (if v1 = 0 then some ((-1 : Int32), m) else Option.bind (r_triesAll a1 (0 : Int32) m) (fun m2 => Option.bind (r_daysOf a1 m2) (fun v3 => lt (wrF m2 76 28 v3) (fun m4 => Option.bind (r_layDown m4) (fun m5 => r_prove_30 (0 : Int32) m5))))))
set_option maxRecDepth 20000 in
theorem t_r_prove {G : GG} {x : Cx} (E : En G x cX12_prove "WreckBoardModel" 18 (some .int)) (hn : xn x = 3) (a1 : Int32) (m : M) : Sm G x 0 [(0, .ref (G.2.1 76)), (1, .int a1)] [] m (r_prove a1 m) KWi := by
  unfold r_prove
  refine s_iload_n 1 E dX12_prove_0 rfl rfl ?_
  refine s_bd (fun v1 hz => ?_)
  refine s_cS (rest := []) E (C_r_isPlan (xl x) G a1 m hz) mdX12_isPlan W1641 W1642 W103 W1643 rfl rfl (Nat.le_of_ble_eq_true rfl) ⟨by decide, by decide⟩ dX12_prove_1 ?_
  refine s_if_ne 9 E dX12_prove_4 (by decide) ?_ ?_
  · refine s_aload_n 0 E dX12_prove_9 rfl rfl ?_
    refine s_iload_n 1 E dX12_prove_10 rfl rfl ?_
    refine s_iconst (v := (0 : Int32)) E dX12_prove_11 (by decide) ?_
    refine s_bd (fun m2 hz => ?_)
    refine s_cV (rest := []) E (C_r_triesAll (xl x) G a1 (0 : Int32) m hz) mdX12_triesAll W1644 W1646 W68 W103 W1647 rfl rfl rfl rfl (Nat.le_of_ble_eq_true rfl) ⟨by decide, by decide⟩ dX12_prove_12 ?_
    refine s_aload_n 0 E dX12_prove_15 rfl rfl ?_
    refine s_aload_n 0 E dX12_prove_16 rfl rfl ?_
    refine s_iload_n 1 E dX12_prove_17 rfl rfl ?_
    refine s_bd (fun v3 hz => ?_)
    refine s_cV (rest := [.ref (G.2.1 76)]) E (C_r_daysOf (xl x) G a1 m2 hz) mdX12_daysOf W1648 W1650 W69 W103 W1651 rfl rfl rfl rfl (Nat.le_of_ble_eq_true rfl) ⟨by decide, by decide⟩ dX12_prove_18 ?_
    refine s_put (k := 28) (T := TX12) (ty := .int) 76 E rfl rfl rfl inX12 tyX12 tyX12_ok nmX12 (by decide) W1267 rfl (by decide +kernel) rfl rfl dX12_prove_21 ?_
    refine s_ltm rfl (fun m4 => ?_)
    refine s_aload_n 0 E dX12_prove_24 rfl rfl ?_
    refine s_bd (fun m5 hz => ?_)
    refine s_cV (rest := []) E (C_r_layDown (xl x) G  m4 hz) mdX12_layDown W1582 W1584 W62 W103 W1585 rfl rfl rfl rfl (Nat.le_of_ble_eq_true rfl) ⟨by decide, by decide⟩ dX12_prove_25 ?_
    refine s_iconst (v := (0 : Int32)) E dX12_prove_28 (by decide) ?_
    refine s_istore_n (lv' := [(0, .ref (G.2.1 76)), (2, .int (0 : Int32))]) [1, 0] E dX12_prove_29 rfl (by rw [hn]; decide) rfl ?_
    exact t_r_prove_30 E hn (0 : Int32) m5
  · refine s_iconst (v := (-1 : Int32)) E dX12_prove_7 (by decide) ?_
    exact s_iret E rfl dX12_prove_8
set_option maxRecDepth 20000 in
theorem C_r_prove (l : Launch) (G : GG) (a1 : Int32) (m : M) {z : Int32 × M} (hz : r_prove a1 m = some z) : Ct l G yX12_prove cX12_prove 3 (some .int) 18 [.ref (G.2.1 76), .int a1] m (some (.int z.1)) z.2 :=
  ct_of (K := KWi) (by decide) (Nat.le_of_ble_eq_true rfl) (congrArg (fun q => Option.bind q _) hz) (fun x hl hn E => (t_r_prove E hn a1 m))
theorem dX12_isRow_0 : decode cX12_isRow 0 = .ok (.iload_n 1, 1) := by decide +kernel
theorem dX12_isRow_1 : decode cX12_isRow 1 = .ok (.iconst 0, 1) := by decide +kernel
theorem dX12_isRow_2 : decode cX12_isRow 2 = .ok (.aload_n 0, 1) := by decide +kernel
theorem dX12_isRow_3 : decode cX12_isRow 3 = .ok (.getfield 320, 3) := by decide +kernel
theorem dX12_isRow_6 : decode cX12_isRow 6 = .ok (.iconst 1, 1) := by decide +kernel
theorem dX12_isRow_7 : decode cX12_isRow 7 = .ok (.isub, 1) := by decide +kernel
theorem dX12_isRow_8 : decode cX12_isRow 8 = .ok (.invokestatic 71, 3) := by decide +kernel
theorem dX12_isRow_11 : decode cX12_isRow 11 = .ok (.ifCond .eq 16, 3) := by decide +kernel
theorem dX12_isRow_14 : decode cX12_isRow 14 = .ok (.iload_n 2, 1) := by decide +kernel
theorem dX12_isRow_15 : decode cX12_isRow 15 = .ok (.iconst 0, 1) := by decide +kernel
theorem dX12_isRow_16 : decode cX12_isRow 16 = .ok (.iconst 2, 1) := by decide +kernel
theorem dX12_isRow_17 : decode cX12_isRow 17 = .ok (.invokestatic 71, 3) := by decide +kernel
theorem dX12_isRow_20 : decode cX12_isRow 20 = .ok (.ifCond .eq 7, 3) := by decide +kernel
theorem dX12_isRow_23 : decode cX12_isRow 23 = .ok (.iconst 1, 1) := by decide +kernel
theorem dX12_isRow_24 : decode cX12_isRow 24 = .ok (.goto 4, 3) := by decide +kernel
theorem dX12_isRow_27 : decode cX12_isRow 27 = .ok (.iconst 0, 1) := by decide +kernel
theorem dX12_isRow_28 : decode cX12_isRow 28 = .ok (.ireturn, 1) := by decide +kernel
def r_isRow (a1 : Int32) (a2 : Int32) (m : M) : Option (Int32) :=
  Option.bind (r_in1 a1 (0 : Int32) ((m 76 28) - (1 : Int32)) m) (fun v1 => (if v1 = 0 then some (0 : Int32) else Option.bind (r_in1 a2 (0 : Int32) (2 : Int32) m) (fun v2 => (if v2 = 0 then some (0 : Int32) else some (1 : Int32)))))
set_option maxRecDepth 20000 in
theorem t_r_isRow {G : GG} {x : Cx} (E : En G x cX12_isRow "WreckBoardModel" 2 (some .boolean)) (hn : xn x = 3) (a1 : Int32) (a2 : Int32) (m : M) : Sm G x 0 [(0, .ref (G.2.1 76)), (1, .int a1), (2, .int a2)] [] m (r_isRow a1 a2 m) (KRi m) := by
  unfold r_isRow
  refine s_iload_n 1 E dX12_isRow_0 rfl rfl ?_
  refine s_iconst (v := (0 : Int32)) E dX12_isRow_1 (by decide) ?_
  refine s_aload_n 0 E dX12_isRow_2 rfl rfl ?_
  refine s_geti (k := 28) (T := TX12) 76 E rfl rfl rfl inX12 (by decide) W1267 dX12_isRow_3 ?_
  refine s_iconst (v := (1 : Int32)) E dX12_isRow_6 (by decide) ?_
  refine s_isub E dX12_isRow_7 ?_
  refine s_bd (fun v1 hz => ?_)
  refine s_cS (rest := []) E (C_r_in1 (xl x) G a1 (0 : Int32) ((m 76 28) - (1 : Int32)) m hz) mdX12_in1 W1359 W1360 W103 W1361 rfl rfl (Nat.le_of_ble_eq_true rfl) ⟨by decide, by decide⟩ dX12_isRow_8 ?_
  refine s_if_eq 27 E dX12_isRow_11 (by decide) ?_ ?_
  · refine s_iconst (v := (0 : Int32)) E dX12_isRow_27 (by decide) ?_
    exact s_zret E (by decide) rfl dX12_isRow_28
  · refine s_iload_n 2 E dX12_isRow_14 rfl rfl ?_
    refine s_iconst (v := (0 : Int32)) E dX12_isRow_15 (by decide) ?_
    refine s_iconst (v := (2 : Int32)) E dX12_isRow_16 (by decide) ?_
    refine s_bd (fun v2 hz => ?_)
    refine s_cS (rest := []) E (C_r_in1 (xl x) G a2 (0 : Int32) (2 : Int32) m hz) mdX12_in1 W1359 W1360 W103 W1361 rfl rfl (Nat.le_of_ble_eq_true rfl) ⟨by decide, by decide⟩ dX12_isRow_17 ?_
    refine s_if_eq 27 E dX12_isRow_20 (by decide) ?_ ?_
    · refine s_iconst (v := (0 : Int32)) E dX12_isRow_27 (by decide) ?_
      exact s_zret E (by decide) rfl dX12_isRow_28
    · refine s_iconst (v := (1 : Int32)) E dX12_isRow_23 (by decide) ?_
      refine s_goto 28 E dX12_isRow_24 (by decide) ?_
      exact s_zret E (by decide) rfl dX12_isRow_28
