/-! eight bytes fed to both tapes -/
def bt (a : Int64) (j : Nat) : Nat := a.toBitVec.toNat / 2 ^ (8 * j) % 256
theorem bt_lt (a : Int64) (j : Nat) : bt a j < 256 := Nat.mod_lt _ (by decide)
theorem shc_dec : ∀ j, j < 8 → ((Int32.toInt64 ((8 : Int32) * nI j)).toUInt64 &&& Int64.toUInt64 63).toNat % 64 = 8 * j := by decide +kernel
theorem shr_dec : ∀ j, j < 8 → ((Int32.toInt64 ((8 : Int32) * nI j) &&& 63).toBitVec.smod 64).toNat = 8 * j := by decide +kernel
theorem lo8_dec : ∀ i, i < 64 → (255#64).getLsbD i = decide (i < 8) := by decide +kernel
theorem byte_c (a : Int64) {j : Nat} (hj : j < 8) : (Int64.toInt32 ((Int64.toUInt64 a >>> ((Int32.toInt64 ((8 : Int32) * nI j)).toUInt64 &&& Int64.toUInt64 63)).toInt64)) &&& (255 : Int32) = nI (bt a j) := by
  have e : (Int64.toUInt64 a >>> ((Int32.toInt64 ((8 : Int32) * nI j)).toUInt64 &&& Int64.toUInt64 63)).toInt64 = lN (a.toBitVec.toNat / 2 ^ (8 * j)) := by
    apply Int64.toBitVec_inj.mp
    apply BitVec.eq_of_toNat_eq
    rw [lN_tn (Nat.lt_of_le_of_lt (Nat.div_le_self _ _) a.toBitVec.isLt)]
    show (Int64.toUInt64 a >>> _).toNat = _
    rw [UInt64.toNat_shiftRight, shc_dec j hj, Nat.shiftRight_eq_div_pow]
    rfl
  rw [e, lN_low 8 (by decide) (by decide)]
  rfl
theorem byte_r (a : Int64) {j : Nat} (hj : j < 8) : Int64.toInt32 ((a >>> (Int32.toInt64 ((8 : Int32) * nI j) &&& 63)) &&& (255 : Int64)) = nI (bt a j) := by
  have e : (a >>> (Int32.toInt64 ((8 : Int32) * nI j) &&& 63)) &&& (255 : Int64) = lN (bt a j) := by
    apply Int64.toBitVec_inj.mp
    apply BitVec.eq_of_getLsbD_eq
    intro i hi
    rw [Int64.toBitVec_and, BitVec.getLsbD_and]
    show ((a.toBitVec.sshiftRight ((Int32.toInt64 ((8 : Int32) * nI j) &&& 63).toBitVec.smod 64).toNat).getLsbD i && (255#64).getLsbD i) = (BitVec.ofNat 64 (bt a j)).getLsbD i
    rw [shr_dec j hj, BitVec.getLsbD_sshiftRight, lo8_dec i hi, BitVec.getLsbD_ofNat]
    unfold bt
    rw [show (256 : Nat) = 2 ^ 8 from rfl, Nat.testBit_mod_two_pow, Nat.testBit_div_two_pow]
    by_cases h8 : i < 8
    · rw [if_pos (by omega), decide_eq_true h8, decide_eq_true hi, decide_eq_false (by omega : ¬ 64 ≤ i), show 8 * j + i = i + 8 * j from by omega]
      simp [BitVec.getLsbD]
    · rw [decide_eq_false h8]
      simp
  rw [e, lN_i]
theorem len46 : len 46 = 200 := by decide
theorem len81 : len 81 = 200 := by decide
theorem take_loop (a : Int64) {k : Nat} (hk : k ≤ 8) : ∀ (d i n F : Nat) (m : M), i + d = k → m 7 0 = nI n → n + d ≤ 200 → d < F → ∃ m', iter (fun z => t_take_3b a (nI k) z.1 z.2) F (nI i, m) = some m' ∧ m' 7 0 = nI (n + d) ∧ (∀ j, j < d → m' 46 (n + j) = nI (bt a (i + j))) ∧ (∀ j, j < n → m' 46 j = m 46 j) ∧ (∀ p q, p ≠ 46 → ¬ (p = 7 ∧ q = 0) → m' p q = m p q) := by
  intro d
  induction d with
  | zero =>
    intro i n F m h1 h2 h3 h4
    obtain ⟨F', rfl⟩ : ∃ F', F = F' + 1 := ⟨F - 1, by omega⟩
    refine ⟨m, ?_, by rw [h2]; rfl, fun j hj => by omega, fun j hj => rfl, fun p q _ _ => rfl⟩
    show Option.bind (t_take_3b a (nI k) (nI i) m) _ = _
    unfold t_take_3b
    rw [if_pos ((nI_leI (by omega) (by omega)).mpr (by omega))]
    rfl
  | succ d ih =>
    intro i n F m h1 h2 h3 h4
    obtain ⟨F', rfl⟩ : ∃ F', F = F' + 1 := ⟨F - 1, by omega⟩
    obtain ⟨m1, hm1⟩ : ∃ m1, m1 = wrF (mset m 46 (upd (m 46) n (nI (bt a i)))) 7 0 (nI (n + 1)) := ⟨_, rfl⟩
    have hb : t_take_3b a (nI k) (nI i) m = some (.inl (nI (i + 1), m1)) := by
      unfold t_take_3b
      rw [if_neg (fun q => absurd ((nI_leI (by omega) (by omega)).mp q) (by omega)), byte_c a (by omega), h2, wrI_at (by rw [len46]; omega) (by rw [len46]; decide), Option.bind_some, ltE, ltE, mset_ne (by decide), h2, nI_1, nI_1, hm1]
    have e7 : m1 7 0 = nI (n + 1) := by rw [hm1, wrF_at]
    obtain ⟨m2, f1, f2, f3, f4, f5⟩ := ih (i + 1) (n + 1) F' m1 (by omega) e7 (by omega) (by omega)
    refine ⟨m2, ?_, ?_, ?_, ?_, ?_⟩
    · show Option.bind (t_take_3b a (nI k) (nI i) m) _ = _
      rw [hb]
      exact f1
    · rw [f2]; congr 1; omega
    · intro j hj
      by_cases e : j = 0
      · subst e
        rw [Nat.add_zero, Nat.add_zero, f4 n (by omega), hm1, wrF_ne (by decide), mset_same, upd_at]
      · have := f3 (j - 1) (by omega)
        rw [show n + 1 + (j - 1) = n + j by omega, show i + 1 + (j - 1) = i + j by omega] at this
        exact this
    · intro j hj
      rw [f4 j (by omega), hm1, wrF_ne (by decide), mset_same, upd_off (by omega)]
    · intro p q hp hq
      rw [f5 p q hp hq, hm1]
      by_cases e : p = 7
      · subst e; rw [wrF_off (fun y => hq ⟨rfl, y⟩), mset_ne hp]
      · rw [wrF_ne e, mset_ne hp]
theorem feed_loop (a : Int64) {k : Nat} (hk : k ≤ 8) : ∀ (d i n F : Nat) (m : M), i + d = k → m 76 6 = nI n → n + d ≤ 200 → d < F → ∃ m', iter (fun z => r_feed_30b a (nI k) z.1 z.2) F (nI i, m) = some m' ∧ m' 76 6 = nI (n + d) ∧ (∀ j, j < d → m' 81 (n + j) = nI (bt a (i + j))) ∧ (∀ j, j < n → m' 81 j = m 81 j) ∧ (∀ p q, p ≠ 81 → ¬ (p = 76 ∧ q = 6) → m' p q = m p q) := by
  intro d
  induction d with
  | zero =>
    intro i n F m h1 h2 h3 h4
    obtain ⟨F', rfl⟩ : ∃ F', F = F' + 1 := ⟨F - 1, by omega⟩
    refine ⟨m, ?_, by rw [h2]; rfl, fun j hj => by omega, fun j hj => rfl, fun p q _ _ => rfl⟩
    show Option.bind (r_feed_30b a (nI k) (nI i) m) _ = _
    unfold r_feed_30b
    rw [if_pos ((nI_leI (by omega) (by omega)).mpr (by omega))]
    rfl
  | succ d ih =>
    intro i n F m h1 h2 h3 h4
    obtain ⟨F', rfl⟩ : ∃ F', F = F' + 1 := ⟨F - 1, by omega⟩
    obtain ⟨m1, hm1⟩ : ∃ m1, m1 = wrF (mset m 81 (upd (m 81) n (nI (bt a i)))) 76 6 (nI (n + 1)) := ⟨_, rfl⟩
    have hb : r_feed_30b a (nI k) (nI i) m = some (.inl (nI (i + 1), m1)) := by
      unfold r_feed_30b
      rw [if_neg (fun q => absurd ((nI_leI (by omega) (by omega)).mp q) (by omega)), byte_r a (by omega), h2, wrI_at (by rw [len81]; omega) (by rw [len81]; decide), Option.bind_some, ltE, ltE, mset_ne (by decide), h2, nI_1, nI_1, hm1]
    have e7 : m1 76 6 = nI (n + 1) := by rw [hm1, wrF_at]
    obtain ⟨m2, f1, f2, f3, f4, f5⟩ := ih (i + 1) (n + 1) F' m1 (by omega) e7 (by omega) (by omega)
    refine ⟨m2, ?_, ?_, ?_, ?_, ?_⟩
    · show Option.bind (r_feed_30b a (nI k) (nI i) m) _ = _
      rw [hb]
      exact f1
    · rw [f2]; congr 1; omega
    · intro j hj
      by_cases e : j = 0
      · subst e
        rw [Nat.add_zero, Nat.add_zero, f4 n (by omega), hm1, wrF_ne (by decide), mset_same, upd_at]
      · have := f3 (j - 1) (by omega)
        rw [show n + 1 + (j - 1) = n + j by omega, show i + 1 + (j - 1) = i + j by omega] at this
        exact this
    · intro j hj
      rw [f4 j (by omega), hm1, wrF_ne (by decide), mset_same, upd_off (by omega)]
    · intro p q hp hq
      rw [f5 p q hp hq, hm1]
      by_cases e : p = 76
      · subst e; rw [wrF_off (fun y => hq ⟨rfl, y⟩), mset_ne hp]
      · rw [wrF_ne e, mset_ne hp]
theorem ok_feed {m : M} (hI : INV m) : OK_feed INV m := fun a y => by
  obtain ⟨n, h1, h2, h3, h4⟩ := hI.2.2.2.2.2.1
  unfold k_feed
  by_cases c : (1 : Int32) ≤ y ∧ y ≤ 8
  · obtain ⟨k, hk, rfl⟩ := (in_le (v := y) (n := 8) (by decide)).mp ⟨Int32.le_trans (by decide) c.1, c.2⟩
    rw [wi_t c, Option.bind_some, if_neg one_ne]
    unfold t_hasRoomFor
    rw [h2, nI_add]
    by_cases c2 : n + k ≤ 200
    · rw [if_neg (show ¬ (200 : Int32) < nI (n + k) from fun q => absurd ((nI_ltI (a := 200) (by omega) (by omega)).mp q) (by omega)), Option.bind_some, if_neg one_ne]
      obtain ⟨m1, f1, f2, f3, f4, f5⟩ := take_loop a hk k 0 n FU m (by omega) h2 c2 (by unfold FU; omega)
      have e6 : m1 76 6 = nI n := (f5 76 6 (by decide) (by decide)).trans h3
      obtain ⟨m2, g1, g2, g3, g4, g5⟩ := feed_loop a hk k 0 n FU m1 (by omega) e6 c2 (by unfold FU; omega)
      have ht : t_take a (nI k) m = some (nI (n + k), m1) := by
        unfold t_take t_take_3
        show Option.bind (iter (fun z => t_take_3b a (nI k) z.1 z.2) FU (nI 0, m)) _ = _
        rw [f1, Option.bind_some, f2]
      refine ⟨nI (n + k), m1, m2, by rw [ht]; rfl, ?_, ?_⟩
      · unfold r_feed
        rw [in1_t c, Option.bind_some, if_neg one_ne, e6, nI_add, if_pos (show nI (n + k) ≤ (200 : Int32) from (nI_leI (b := 200) (by omega) (by omega)).mpr c2)]
        unfold r_feed_30
        show Option.bind (iter (fun z => r_feed_30b a (nI k) z.1 z.2) FU (nI 0, m1)) _ = _
        rw [g1, Option.bind_some, g2]
      · refine hI.c6 (fun p q x1 x2 => ?_) ⟨n + k, c2, ?_, g2, fun j hj => ?_⟩
        · have hn : p ≠ 46 ∧ p ≠ 81 ∧ ¬ (p = 7 ∧ q = 0) ∧ ¬ (p = 76 ∧ q = 6) := by
            refine ⟨fun e => x1 ?_, fun e => x1 ?_, fun e => x1 ?_, fun e => x1 ?_⟩
            · subst e; exact cl_6 (scp (by omega)) (by omega)
            · subst e; exact cl_6 (scp (by omega)) (by omega)
            · obtain ⟨rfl, rfl⟩ := e; decide
            · obtain ⟨rfl, rfl⟩ := e; decide
          rw [g5 p q hn.2.1 hn.2.2.2, f5 p q hn.1 hn.2.2.1]
        · rw [g5 7 0 (by decide) (by decide), f2]
        · rw [g5 46 j (by decide) (by omega)]
          by_cases e : j < n
          · obtain ⟨c', hc1, hc2, hc3⟩ := h4 j e
            refine ⟨c', hc1, (f4 j e).trans hc2, ?_⟩
            rw [g4 j e, f5 81 j (by decide) (by omega), hc3]
          · have e1 := f3 (j - n) (by omega)
            have e2 := g3 (j - n) (by omega)
            rw [show n + (j - n) = j by omega] at e1 e2
            exact ⟨_, bt_lt a _, e1, e2⟩
    · rw [if_pos (show (200 : Int32) < nI (n + k) from (nI_ltI (a := 200) (by omega) (by omega)).mpr (by omega)), Option.bind_some, if_pos rfl]
      refine ⟨-2, m, m, rfl, ?_, hI⟩
      unfold r_feed
      rw [in1_t c, Option.bind_some, if_neg one_ne, h3, nI_add, if_neg (show ¬ nI (n + k) ≤ (200 : Int32) from fun q => absurd ((nI_leI (b := 200) (by omega) (by omega)).mp q) (by omega))]
  · rw [wi_f c, Option.bind_some, if_pos rfl]
    refine ⟨-1, m, m, rfl, ?_, hI⟩
    unfold r_feed
    rw [in1_f c, Option.bind_some, if_pos rfl]
