theorem law_loop {l : Launch} {p : Program} {e : Env} {s : State} {mi : MethodId} {below : List Frame} {meth : Method} {c : Code} {G : GG} {b L : Nat} {xs : Nat → Int32} {I : M → Prop} (E : LEn l p e s mi meth c G b L xs) (hstep : ∀ m, I m → StepOK I m) : ∀ (n i : Nat) (m : M), L + 5 ≤ i + n → i ≤ L + 5 → I m → Lm l p e s mi below meth c G b 97 3849 18 i [] m := by
  have hL : L ≤ 2560 := E.2.2.2.2.2.2.2.2.2.2.2.2.2
  intro n
  induction n with
  | zero =>
    intro i m h1 h2 hI
    refine l_iload3 E dL_law_18 ?_
    refine l_aload0 E dL_law_19 ?_
    refine l_alen E dL_law_20 ?_
    refine l_iconst (v := (5 : Int32)) E dL_law_21 (by decide) ?_
    refine l_isub E dL_law_22 ?_
    refine l_gt 1778 E dL_law_23 (by decide) (fun _ => ?_) (fun h => ?_)
    · refine l_iconst (v := (1 : Int32)) E dL_law_1778 (by decide) ?_
      exact l_end E dL_law_1779 (by decide)
    · exfalso
      apply h
      rw [Int32.lt_iff_toInt_lt, show (5 : Int32) = nI 5 from by decide, pk_sub_toInt (by omega) (by omega), nI_toInt (by omega)]
      omega
  | succ n ih =>
    intro i m h1 h2 hI
    refine l_iload3 E dL_law_18 ?_
    refine l_aload0 E dL_law_19 ?_
    refine l_alen E dL_law_20 ?_
    refine l_iconst (v := (5 : Int32)) E dL_law_21 (by decide) ?_
    refine l_isub E dL_law_22 ?_
    refine l_gt 1778 E dL_law_23 (by decide) (fun _ => ?_) (fun h => ?_)
    · refine l_iconst (v := (1 : Int32)) E dL_law_1778 (by decide) ?_
      exact l_end E dL_law_1779 (by decide)
    have hi : i + 5 ≤ L := by
      rcases Nat.lt_or_ge L (i + 5) with q | q
      · exfalso
        apply h
        rw [Int32.lt_iff_toInt_lt, show (5 : Int32) = nI 5 from by decide, pk_sub_toInt (by omega) (by omega), nI_toInt (by omega)]
        omega
      · exact q
    have hin : ∀ k : Nat, k < 5 → i + k < L := fun k hk => by omega
    have hgo : ∀ m1 : M, I m1 → Lm l p e s mi below meth c G b 97 3849 1772 i [] m1 := fun m1 h1 => by
      refine l_iinc E dL_law_1772 ?_
      refine l_goto 18 E dL_law_1775 (by decide) ?_
      exact ih (i + 5) m1 (by omega) (by omega) h1
    obtain ⟨o0, o1, o2, o3, o4, o5, o6, o7, o8, o9, o10, o11, o12, o13, o14, o15, o16, o17, o18, o19, o20, o21, o22, o23, o24, o25, o26, o27, o28, o29, o30, o31, o32, o33, o34, o35, o36, o37, o38, o39, o40, o41, o42, o43, o44, o45, o46, o47, o48, o49, o50, o51⟩ := hstep m hI
    refine l_aload0 E dL_law_26 ?_
    refine l_iload3 E dL_law_27 ?_
    refine l_iald0 E (by omega) dL_law_28 ?_
    refine l_bipush (v := (63 : Int32)) E dL_law_29 (by decide) ?_
    refine l_iand E dL_law_31 ?_
    generalize xs i &&& (63 : Int32) = x
    by_cases h0 : x = (0 : Int32)
    · refine l_tabIn 256 E dL_law_32 h0 (by decide) (by decide) rfl (by decide) ?_
      exact law_member E hin o0 hgo
    by_cases h1 : x = (1 : Int32)
    · refine l_tabIn 309 E dL_law_32 h1 (by decide) (by decide) rfl (by decide) ?_
      exact law_memberOf E hin o1 hgo
    by_cases h2 : x = (2 : Int32)
    · refine l_tabIn 342 E dL_law_32 h2 (by decide) (by decide) rfl (by decide) ?_
      exact law_change E hin o2 hgo
    by_cases h3 : x = (3 : Int32)
    · refine l_tabIn 385 E dL_law_32 h3 (by decide) (by decide) rfl (by decide) ?_
      exact law_remake E hin o3 hgo
    by_cases h4 : x = (4 : Int32)
    · refine l_tabIn 418 E dL_law_32 h4 (by decide) (by decide) rfl (by decide) ?_
      exact law_ship E hin o4 hgo
    by_cases h5 : x = (5 : Int32)
    · refine l_tabIn 451 E dL_law_32 h5 (by decide) (by decide) rfl (by decide) ?_
      exact law_bench E hin o5 hgo
    by_cases h6 : x = (6 : Int32)
    · refine l_tabIn 494 E dL_law_32 h6 (by decide) (by decide) rfl (by decide) ?_
      exact law_benchOf E hin o6 hgo
    by_cases h7 : x = (7 : Int32)
    · refine l_tabIn 527 E dL_law_32 h7 (by decide) (by decide) rfl (by decide) ?_
      exact law_rock E hin o7 hgo
    by_cases h8 : x = (8 : Int32)
    · refine l_tabIn 560 E dL_law_32 h8 (by decide) (by decide) rfl (by decide) ?_
      exact law_ends E hin o8 hgo
    by_cases h9 : x = (9 : Int32)
    · refine l_tabIn 583 E dL_law_32 h9 (by decide) (by decide) rfl (by decide) ?_
      exact law_anew E hin o9 hgo
    by_cases h10 : x = (10 : Int32)
    · refine l_tabIn 596 E dL_law_32 h10 (by decide) (by decide) rfl (by decide) ?_
      exact law_state E hin o10 hgo
    by_cases h11 : x = (11 : Int32)
    · refine l_tabIn 619 E dL_law_32 h11 (by decide) (by decide) rfl (by decide) ?_
      exact law_feed E hin o11 hgo
    by_cases h12 : x = (12 : Int32)
    · refine l_tabIn 682 E dL_law_32 h12 (by decide) (by decide) rfl (by decide) ?_
      exact law_rules E hin o12 hgo
    by_cases h13 : x = (13 : Int32)
    · refine l_tabIn 695 E dL_law_32 h13 (by decide) (by decide) rfl (by decide) ?_
      exact law_night E hin o13 hgo
    by_cases h14 : x = (14 : Int32)
    · refine l_tabIn 708 E dL_law_32 h14 (by decide) (by decide) rfl (by decide) ?_
      exact law_on E hin o14 hgo
    by_cases h15 : x = (15 : Int32)
    · refine l_tabIn 731 E dL_law_32 h15 (by decide) (by decide) rfl (by decide) ?_
      exact law_when E hin o15 hgo
    by_cases h16 : x = (16 : Int32)
    · refine l_tabIn 754 E dL_law_32 h16 (by decide) (by decide) rfl (by decide) ?_
      exact law_votesFor E hin o16 hgo
    by_cases h17 : x = (17 : Int32)
    · refine l_tabIn 777 E dL_law_32 h17 (by decide) (by decide) rfl (by decide) ?_
      exact law_benchFor E hin o17 hgo
    by_cases h18 : x = (18 : Int32)
    · refine l_tabIn 800 E dL_law_32 h18 (by decide) (by decide) rfl (by decide) ?_
      exact law_fund E hin o18 hgo
    by_cases h19 : x = (19 : Int32)
    · refine l_tabIn 823 E dL_law_32 h19 (by decide) (by decide) rfl (by decide) ?_
      exact law_wrecks E hin o19 hgo
    by_cases h20 : x = (20 : Int32)
    · refine l_tabIn 846 E dL_law_32 h20 (by decide) (by decide) rfl (by decide) ?_
      exact law_parties E hin o20 hgo
    by_cases h21 : x = (21 : Int32)
    · refine l_tabIn 869 E dL_law_32 h21 (by decide) (by decide) rfl (by decide) ?_
      exact law_power E hin o21 hgo
    by_cases h22 : x = (22 : Int32)
    · refine l_tabIn 892 E dL_law_32 h22 (by decide) (by decide) rfl (by decide) ?_
      exact law_best E hin o22 hgo
    by_cases h23 : x = (23 : Int32)
    · refine l_tabIn 915 E dL_law_32 h23 (by decide) (by decide) rfl (by decide) ?_
      exact law_ith E hin o23 hgo
    by_cases h24 : x = (24 : Int32)
    · refine l_tabIn 948 E dL_law_32 h24 (by decide) (by decide) rfl (by decide) ?_
      exact law_ways E hin o24 hgo
    by_cases h25 : x = (25 : Int32)
    · refine l_tabIn 971 E dL_law_32 h25 (by decide) (by decide) rfl (by decide) ?_
      exact law_agenda E hin o25 hgo
    by_cases h26 : x = (26 : Int32)
    · refine l_tabIn 1004 E dL_law_32 h26 (by decide) (by decide) rfl (by decide) ?_
      exact law_bars E hin o26 hgo
    by_cases h27 : x = (27 : Int32)
    · refine l_tabIn 1037 E dL_law_32 h27 (by decide) (by decide) rfl (by decide) ?_
      exact law_game E hin o27 hgo
    by_cases h28 : x = (28 : Int32)
    · refine l_tabIn 1060 E dL_law_32 h28 (by decide) (by decide) rfl (by decide) ?_
      exact law_play E hin o28 hgo
    by_cases h29 : x = (29 : Int32)
    · refine l_tabIn 1083 E dL_law_32 h29 (by decide) (by decide) rfl (by decide) ?_
      exact law_report E hin o29 hgo
    by_cases h30 : x = (30 : Int32)
    · refine l_tabIn 1136 E dL_law_32 h30 (by decide) (by decide) rfl (by decide) ?_
      exact law_forget E hin o30 hgo
    by_cases h31 : x = (31 : Int32)
    · refine l_tabIn 1149 E dL_law_32 h31 (by decide) (by decide) rfl (by decide) ?_
      exact law_lone E hin o31 hgo
    by_cases h32 : x = (32 : Int32)
    · refine l_tabIn 1172 E dL_law_32 h32 (by decide) (by decide) rfl (by decide) ?_
      exact law_liar E hin o32 hgo
    by_cases h33 : x = (33 : Int32)
    · refine l_tabIn 1185 E dL_law_32 h33 (by decide) (by decide) rfl (by decide) ?_
      exact law_seed E hin o33 hgo
    by_cases h34 : x = (34 : Int32)
    · refine l_tabIn 1208 E dL_law_32 h34 (by decide) (by decide) rfl (by decide) ?_
      exact law_lot E hin o34 hgo
    by_cases h35 : x = (35 : Int32)
    · refine l_tabIn 1221 E dL_law_32 h35 (by decide) (by decide) rfl (by decide) ?_
      exact law_times E hin o35 hgo
    by_cases h36 : x = (36 : Int32)
    · refine l_tabIn 1254 E dL_law_32 h36 (by decide) (by decide) rfl (by decide) ?_
      exact law_prove E hin o36 hgo
    by_cases h37 : x = (37 : Int32)
    · refine l_tabIn 1277 E dL_law_32 h37 (by decide) (by decide) rfl (by decide) ?_
      exact law_row E hin o37 hgo
    by_cases h38 : x = (38 : Int32)
    · refine l_tabIn 1310 E dL_law_32 h38 (by decide) (by decide) rfl (by decide) ?_
      exact law_alterRow E hin o38 hgo
    by_cases h39 : x = (39 : Int32)
    · refine l_tabIn 1353 E dL_law_32 h39 (by decide) (by decide) rfl (by decide) ?_
      exact law_judge E hin o39 hgo
    by_cases h40 : x = (40 : Int32)
    · refine l_tabIn 1366 E dL_law_32 h40 (by decide) (by decide) rfl (by decide) ?_
      exact law_sheet E hin o40 hgo
    by_cases h41 : x = (41 : Int32)
    · refine l_tabIn 1409 E dL_law_32 h41 (by decide) (by decide) rfl (by decide) ?_
      exact law_write E hin o41 hgo
    by_cases h42 : x = (42 : Int32)
    · refine l_tabIn 1452 E dL_law_32 h42 (by decide) (by decide) rfl (by decide) ?_
      exact law_item E hin o42 hgo
    by_cases h43 : x = (43 : Int32)
    · refine l_tabIn 1495 E dL_law_32 h43 (by decide) (by decide) rfl (by decide) ?_
      exact law_goAll E hin o43 hgo
    by_cases h44 : x = (44 : Int32)
    · refine l_tabIn 1538 E dL_law_32 h44 (by decide) (by decide) rfl (by decide) ?_
      exact law_wouldBe E hin o44 hgo
    by_cases h45 : x = (45 : Int32)
    · refine l_tabIn 1581 E dL_law_32 h45 (by decide) (by decide) rfl (by decide) ?_
      exact law_shelf E hin o45 hgo
    by_cases h46 : x = (46 : Int32)
    · refine l_tabIn 1624 E dL_law_32 h46 (by decide) (by decide) rfl (by decide) ?_
      exact law_taken E hin o46 hgo
    by_cases h47 : x = (47 : Int32)
    · refine l_tabIn 1657 E dL_law_32 h47 (by decide) (by decide) rfl (by decide) ?_
      exact law_act E hin o47 hgo
    by_cases h48 : x = (48 : Int32)
    · refine l_tabIn 1700 E dL_law_32 h48 (by decide) (by decide) rfl (by decide) ?_
      exact law_trace E hin o48 hgo
    by_cases h49 : x = (49 : Int32)
    · refine l_tabIn 1723 E dL_law_32 h49 (by decide) (by decide) rfl (by decide) ?_
      exact law_many E hin o49 hgo
    by_cases h50 : x = (50 : Int32)
    · refine l_tabIn 1746 E dL_law_32 h50 (by decide) (by decide) rfl (by decide) ?_
      exact law_keep E hin o50 hgo
    by_cases h51 : x = (51 : Int32)
    · refine l_tabIn 1759 E dL_law_32 h51 (by decide) (by decide) rfl (by decide) ?_
      exact law_again E hin o51 hgo
    refine l_tabOut 1772 E dL_law_32 ?_ (by decide) (hgo m hI)
    rcases Int.lt_or_le x.toInt 0 with q | q
    · exact Or.inl q
    · rcases Int.lt_or_le 51 x.toInt with q2 | q2
      · exact Or.inr q2
      · exfalso
        have hall : ∀ j : Nat, j < 52 → x.toInt ≠ (j : Int) := fun j hj => by
          match j, hj with
          | 0, _ => exact ne_toIntK h0 (by decide)
          | 1, _ => exact ne_toIntK h1 (by decide)
          | 2, _ => exact ne_toIntK h2 (by decide)
          | 3, _ => exact ne_toIntK h3 (by decide)
          | 4, _ => exact ne_toIntK h4 (by decide)
          | 5, _ => exact ne_toIntK h5 (by decide)
          | 6, _ => exact ne_toIntK h6 (by decide)
          | 7, _ => exact ne_toIntK h7 (by decide)
          | 8, _ => exact ne_toIntK h8 (by decide)
          | 9, _ => exact ne_toIntK h9 (by decide)
          | 10, _ => exact ne_toIntK h10 (by decide)
          | 11, _ => exact ne_toIntK h11 (by decide)
          | 12, _ => exact ne_toIntK h12 (by decide)
          | 13, _ => exact ne_toIntK h13 (by decide)
          | 14, _ => exact ne_toIntK h14 (by decide)
          | 15, _ => exact ne_toIntK h15 (by decide)
          | 16, _ => exact ne_toIntK h16 (by decide)
          | 17, _ => exact ne_toIntK h17 (by decide)
          | 18, _ => exact ne_toIntK h18 (by decide)
          | 19, _ => exact ne_toIntK h19 (by decide)
          | 20, _ => exact ne_toIntK h20 (by decide)
          | 21, _ => exact ne_toIntK h21 (by decide)
          | 22, _ => exact ne_toIntK h22 (by decide)
          | 23, _ => exact ne_toIntK h23 (by decide)
          | 24, _ => exact ne_toIntK h24 (by decide)
          | 25, _ => exact ne_toIntK h25 (by decide)
          | 26, _ => exact ne_toIntK h26 (by decide)
          | 27, _ => exact ne_toIntK h27 (by decide)
          | 28, _ => exact ne_toIntK h28 (by decide)
          | 29, _ => exact ne_toIntK h29 (by decide)
          | 30, _ => exact ne_toIntK h30 (by decide)
          | 31, _ => exact ne_toIntK h31 (by decide)
          | 32, _ => exact ne_toIntK h32 (by decide)
          | 33, _ => exact ne_toIntK h33 (by decide)
          | 34, _ => exact ne_toIntK h34 (by decide)
          | 35, _ => exact ne_toIntK h35 (by decide)
          | 36, _ => exact ne_toIntK h36 (by decide)
          | 37, _ => exact ne_toIntK h37 (by decide)
          | 38, _ => exact ne_toIntK h38 (by decide)
          | 39, _ => exact ne_toIntK h39 (by decide)
          | 40, _ => exact ne_toIntK h40 (by decide)
          | 41, _ => exact ne_toIntK h41 (by decide)
          | 42, _ => exact ne_toIntK h42 (by decide)
          | 43, _ => exact ne_toIntK h43 (by decide)
          | 44, _ => exact ne_toIntK h44 (by decide)
          | 45, _ => exact ne_toIntK h45 (by decide)
          | 46, _ => exact ne_toIntK h46 (by decide)
          | 47, _ => exact ne_toIntK h47 (by decide)
          | 48, _ => exact ne_toIntK h48 (by decide)
          | 49, _ => exact ne_toIntK h49 (by decide)
          | 50, _ => exact ne_toIntK h50 (by decide)
          | 51, _ => exact ne_toIntK h51 (by decide)
          | j + 52, h => exact absurd h (by omega)
        exact hall x.toInt.toNat (by omega) (by omega)
