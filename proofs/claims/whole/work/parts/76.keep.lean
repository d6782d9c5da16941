/-! boards kept and taken again -/
def cpF (n p q : Nat) (m : M) : M := mset m q (fun j => if j < n then m p j else m q j)
theorem cpF_ne {n p q r : Nat} {m : M} (h : r ≠ q) : cpF n p q m r = m r := mset_ne h
theorem cpF_at {n p q j : Nat} {m : M} (h : j < n) : cpF n p q m q j = m p j := by
  unfold cpF
  rw [mset_same, if_pos h]
theorem wrF_ne {m : M} {p k q : Nat} {v : Int32} (h : q ≠ p) : (wrF m p k v) q = m q := mset_ne h
theorem wrF_at {m : M} {p k : Nat} {v : Int32} : (wrF m p k v) p k = v := by unfold wrF; rw [mset_same, upd_at]
theorem wrF_off {m : M} {p k j : Nat} {v : Int32} (h : j ≠ k) : (wrF m p k v) p j = m p j := by unfold wrF; rw [mset_same, upd_off h]
theorem b_copy_eq {m : M} {p q n : Nat} (hp : len p = n) (hq : len q = n) (h0 : 0 < n) (hn : n < 1000) : b_copy p q m = some (cpF n p q m) := by
  unfold b_copy
  rw [lenI_of hp h0, lenI_of hq h0, Option.bind_some, Option.bind_some, mn_nat (by omega) (by omega), Nat.min_self]
  unfold cpI
  rw [nI_clamp (by omega), show (0 : Int32).toNatClampNeg = 0 from by decide, hp, hq, if_neg (by
    rintro (h | h | h | h | h | h | h)
    · exact absurd h (by decide)
    · exact absurd h (by decide)
    · exact nI_pos (by omega) h
    · omega
    · omega
    · omega
    · omega)]
  rw [Option.bind_some]
  have : va_cpy (m p) (m q) 0 0 n = fun j => if j < n then m p j else m q j := by
    funext j
    by_cases e : j < n
    · rw [pk_cpy_in (by omega) (by omega), if_pos e]
      congr 1
      omega
    · rw [pk_cpy_out (by omega), if_neg e]
  rw [this]
  rfl
theorem NOW.fine {m m' : M} (h : NOW m) (h1 : ∀ k, k < 8 → m' 1 k = m 1 k) (h3 : m' 3 0 = m 3 0) (h4 : m' 4 0 = m 4 0) (hA : ∀ p, (p = 10 ∨ p = 11 ∨ p = 12 ∨ p = 13 ∨ p = 15 ∨ p = 16 ∨ p = 30 ∨ p = 31 ∨ p = 32 ∨ p = 33) → ∀ k, k < 6 → m' p k = m p k) (h14 : ∀ k, k < 16 → m' 14 k = m 14 k) (hB : ∀ p, (p = 26 ∨ p = 27 ∨ p = 28) → ∀ k, k < 8 → m' p k = m p k) (h29 : ∀ k, k < 200 → m' 29 k = m 29 k) (h77 : ∀ k, k < 315 → m' 77 k = m 77 k) : NOW m' := by
  obtain ⟨rs, a1, a2, a3, a4, a5, a6, a7⟩ := h
  have hrep : repN (m' 77) = repN (m 77) := by unfold repN; rw [h77 8 (by decide)]
  have hmany : (m' 77 6) = m 77 6 := h77 6 (by decide)
  refine ⟨rs, ?_, ?_, ?_, ?_, ?_, ?_, ?_⟩
  · refine ⟨⟨?_, ?_, ?_⟩, ?_, ?_, ?_, fun j hj => ?_, fun j hj => ?_, fun j hj => ?_, fun k hk => ⟨?_, ?_, ?_, ?_, ?_⟩, fun k q1 q2 => ?_⟩
    · rw [h77 0 (by decide)]; exact a1.night
    · rw [h77 1 (by decide)]; exact a1.fin
    · rw [h77 0 (by decide), h77 1 (by decide)]; exact a1.le
    · rw [h77 3 (by decide)]; exact a1.light
    · rw [h77 4 (by decide)]; exact a1.fund
    · rw [hmany]; exact a1.many
    · rw [h77 _ (by omega)]; exact a1.ship j hj
    · rw [h77 _ (by omega)]; exact a1.hush j hj
    · rw [h77 _ (by omega)]; exact a1.zeal j hj
    · rw [h77 _ (by omega)]; exact a1.kind hk
    · rw [h77 _ (by omega)]; exact a1.votes hk
    · rw [h77 _ (by omega)]; exact a1.greed hk
    · rw [h77 _ (by omega)]; exact a1.bench hk
    · rw [h77 _ (by omega)]; exact a1.heard hk
    · rw [h77 _ (by omega)]; rw [hmany] at q1; exact a1.over k q1 q2
  · obtain ⟨g1, g7⟩ := KB_iff.mp a2
    refine KB_iff.mpr ⟨fun p c j hp => ?_, ?_⟩
    · rw [h77 j (by unfold KBP at hp; omega), ← g1 p c j hp]
      by_cases e1 : p = 1
      · subst e1; exact h1 c (by unfold KBP at hp; omega)
      · by_cases e14 : p = 14
        · subst e14; exact h14 c (by unfold KBP at hp; omega)
        · exact hA p (by unfold KBP at hp; omega) c (by unfold KBP at hp; omega)
    · rw [h1 7 (by decide), g7]
      unfold heardN hN
      rw [h77 _ (by decide), h77 _ (by decide), h77 _ (by decide), h77 _ (by decide), h77 _ (by decide), h77 _ (by decide)]
  · rw [h1 4 (by decide), h77 2 (by decide)]; exact a3
  · exact ⟨(h77 7 (by decide)).trans a4.1, a4.2.congr (fun r hr => ⟨h77 _ (by omega), h77 _ (by omega), h77 _ (by omega)⟩) (fun j hj => h77 _ (by omega))⟩
  · exact ⟨h3.trans a5.1, a5.2.congr (fun r hr => ⟨hB 26 (by omega) r hr, hB 27 (by omega) r hr, hB 28 (by omega) r hr⟩) (fun j hj => h29 j hj)⟩
  · refine ⟨by rw [h77 8 (by decide)]; exact a6.1, fun r hr hr2 => ?_⟩
    rw [hrep] at hr2
    rw [h77 _ (by omega)]
    exact a6.2 r hr hr2
  · refine ⟨by rw [h4, h77 8 (by decide)]; exact a7.1, fun r hr hr2 => ?_⟩
    rw [hrep] at hr2
    rw [h77 _ (by omega), h77 _ (by omega), h77 _ (by omega), h77 _ (by omega), hA 30 (by omega) r hr, hA 31 (by omega) r hr, hA 32 (by omega) r hr, hA 33 (by omega) r hr]
    exact a7.2 r hr hr2
/-- fields of one board into another -/
def fl8 (a b : Nat) (m : M) : M := wrF (wrF (wrF (wrF (wrF (wrF (wrF (wrF m b 0 (m a 0)) b 1 (m a 1)) b 2 (m a 2)) b 3 (m a 3)) b 4 (m a 4)) b 5 (m a 5)) b 6 (m a 6)) b 7 (m a 7)
theorem fl8_ne {a b r : Nat} {m : M} (h : r ≠ b) : fl8 a b m r = m r := by
  unfold fl8
  rw [wrF_ne h, wrF_ne h, wrF_ne h, wrF_ne h, wrF_ne h, wrF_ne h, wrF_ne h, wrF_ne h]
theorem fl8_at {a b : Nat} {m : M} : ∀ k, k < 8 → fl8 a b m b k = m a k := by
  intro k hk
  unfold fl8 wrF
  simp only [mset_same, mset_mset]
  rcases (show k = 0 ∨ k = 1 ∨ k = 2 ∨ k = 3 ∨ k = 4 ∨ k = 5 ∨ k = 6 ∨ k = 7 by omega) with e | e | e | e | e | e | e | e <;> subst e <;> simp [upd]
def cpB (m : M) : M := cpF 6 16 24 (cpF 6 15 23 (cpF 16 14 22 (cpF 6 13 21 (cpF 6 12 20 (cpF 6 11 19 (cpF 6 10 18 (fl8 1 2 m)))))))
def cpU (m : M) : M := cpF 200 29 37 (cpF 8 28 36 (cpF 8 27 35 (cpF 8 26 34 (wrF (wrF m 5 0 (m 3 0)) 5 5 (m 3 5)))))
def cpP (m : M) : M := cpF 6 33 41 (cpF 6 32 40 (cpF 6 31 39 (cpF 6 30 38 (wrF m 6 0 (m 4 0)))))
def kpM (m : M) : M := wrF (cpP (cpU (cpB m))) 0 2 1
theorem k_keep_eq {m : M} : k_keep m = some (1, kpM m) := by
  have hu : ∀ mm : M, u_copyFrom_5_3 mm = some (cpU mm) := fun mm => by
    unfold u_copyFrom_5_3
    rw [ltE, ltE, b_copy_eq (n := 8) (by decide) (by decide) (by decide) (by decide), Option.bind_some, b_copy_eq (n := 8) (by decide) (by decide) (by decide) (by decide), Option.bind_some, b_copy_eq (n := 8) (by decide) (by decide) (by decide) (by decide), Option.bind_some, b_copy_eq (n := 200) (by decide) (by decide) (by decide) (by decide), Option.bind_some, wrF_ne (show (3 : Nat) ≠ 5 by decide)]
    rfl
  have hp : ∀ mm : M, p_copyFrom mm = some (cpP mm) := fun mm => by
    unfold p_copyFrom
    rw [ltE, b_copy_eq (n := 6) (by decide) (by decide) (by decide) (by decide), Option.bind_some, b_copy_eq (n := 6) (by decide) (by decide) (by decide) (by decide), Option.bind_some, b_copy_eq (n := 6) (by decide) (by decide) (by decide) (by decide), Option.bind_some, b_copy_eq (n := 6) (by decide) (by decide) (by decide) (by decide), Option.bind_some]
    rfl
  have hb : b_copyFrom m = some (cpP (cpU (cpB m))) := by
    unfold b_copyFrom
    simp only [ltE, wrF_ne (show (1 : Nat) ≠ 2 by decide)]
    rw [b_copy_eq (n := 6) (by decide) (by decide) (by decide) (by decide), Option.bind_some, b_copy_eq (n := 6) (by decide) (by decide) (by decide) (by decide), Option.bind_some, b_copy_eq (n := 6) (by decide) (by decide) (by decide) (by decide), Option.bind_some, b_copy_eq (n := 6) (by decide) (by decide) (by decide) (by decide), Option.bind_some, b_copy_eq (n := 16) (by decide) (by decide) (by decide) (by decide), Option.bind_some, b_copy_eq (n := 6) (by decide) (by decide) (by decide) (by decide), Option.bind_some, b_copy_eq (n := 6) (by decide) (by decide) (by decide) (by decide), Option.bind_some, hu, Option.bind_some, hp, Option.bind_some]
    rfl
  unfold k_keep
  rw [hb, Option.bind_some, ltE]
  rfl
theorem cpP_ne {m : M} {r : Nat} (h : r ≠ 6) (h2 : ¬ (38 ≤ r ∧ r ≤ 41)) : cpP m r = m r := by
  unfold cpP
  rw [cpF_ne (by omega), cpF_ne (by omega), cpF_ne (by omega), cpF_ne (by omega), wrF_ne h]
theorem cpU_ne {m : M} {r : Nat} (h : r ≠ 5) (h2 : ¬ (34 ≤ r ∧ r ≤ 37)) : cpU m r = m r := by
  unfold cpU
  rw [cpF_ne (by omega), cpF_ne (by omega), cpF_ne (by omega), cpF_ne (by omega), wrF_ne h, wrF_ne h]
theorem cpB_ne {m : M} {r : Nat} (h : r ≠ 2) (h2 : ¬ (18 ≤ r ∧ r ≤ 24)) : cpB m r = m r := by
  unfold cpB
  rw [cpF_ne (by omega), cpF_ne (by omega), cpF_ne (by omega), cpF_ne (by omega), cpF_ne (by omega), cpF_ne (by omega), cpF_ne (by omega), fl8_ne h]
theorem cpP_v {m : M} : cpP m 6 0 = m 4 0 ∧ (∀ k, k < 6 → cpP m 38 k = m 30 k) ∧ (∀ k, k < 6 → cpP m 39 k = m 31 k) ∧ (∀ k, k < 6 → cpP m 40 k = m 32 k) ∧ (∀ k, k < 6 → cpP m 41 k = m 33 k) := by
  unfold cpP
  refine ⟨?_, fun k hk => ?_, fun k hk => ?_, fun k hk => ?_, fun k hk => ?_⟩
  · rw [cpF_ne (by decide), cpF_ne (by decide), cpF_ne (by decide), cpF_ne (by decide), wrF_at]
  · rw [cpF_ne (by decide), cpF_ne (by decide), cpF_ne (by decide), cpF_at hk, wrF_ne (by decide)]
  · rw [cpF_ne (by decide), cpF_ne (by decide), cpF_at hk, cpF_ne (by decide), wrF_ne (by decide)]
  · rw [cpF_ne (by decide), cpF_at hk, cpF_ne (by decide), cpF_ne (by decide), wrF_ne (by decide)]
  · rw [cpF_at hk, cpF_ne (by decide), cpF_ne (by decide), cpF_ne (by decide), wrF_ne (by decide)]
theorem cpU_v {m : M} : cpU m 5 0 = m 3 0 ∧ (∀ k, k < 8 → cpU m 34 k = m 26 k) ∧ (∀ k, k < 8 → cpU m 35 k = m 27 k) ∧ (∀ k, k < 8 → cpU m 36 k = m 28 k) ∧ (∀ k, k < 200 → cpU m 37 k = m 29 k) := by
  unfold cpU
  refine ⟨?_, fun k hk => ?_, fun k hk => ?_, fun k hk => ?_, fun k hk => ?_⟩
  · rw [cpF_ne (by decide), cpF_ne (by decide), cpF_ne (by decide), cpF_ne (by decide), wrF_off (by decide), wrF_at]
  · rw [cpF_ne (by decide), cpF_ne (by decide), cpF_ne (by decide), cpF_at hk, wrF_ne (by decide), wrF_ne (by decide)]
  · rw [cpF_ne (by decide), cpF_ne (by decide), cpF_at hk, cpF_ne (by decide), wrF_ne (by decide), wrF_ne (by decide)]
  · rw [cpF_ne (by decide), cpF_at hk, cpF_ne (by decide), cpF_ne (by decide), wrF_ne (by decide), wrF_ne (by decide)]
  · rw [cpF_at hk, cpF_ne (by decide), cpF_ne (by decide), cpF_ne (by decide), wrF_ne (by decide), wrF_ne (by decide)]
theorem cpB_v {m : M} : (∀ k, k < 8 → cpB m 2 k = m 1 k) ∧ (∀ k, k < 6 → cpB m 18 k = m 10 k) ∧ (∀ k, k < 6 → cpB m 19 k = m 11 k) ∧ (∀ k, k < 6 → cpB m 20 k = m 12 k) ∧ (∀ k, k < 6 → cpB m 21 k = m 13 k) ∧ (∀ k, k < 16 → cpB m 22 k = m 14 k) ∧ (∀ k, k < 6 → cpB m 23 k = m 15 k) ∧ (∀ k, k < 6 → cpB m 24 k = m 16 k) := by
  unfold cpB
  refine ⟨fun k hk => ?_, fun k hk => ?_, fun k hk => ?_, fun k hk => ?_, fun k hk => ?_, fun k hk => ?_, fun k hk => ?_, fun k hk => ?_⟩
  · rw [cpF_ne (by decide), cpF_ne (by decide), cpF_ne (by decide), cpF_ne (by decide), cpF_ne (by decide), cpF_ne (by decide), cpF_ne (by decide), fl8_at k hk]
  · rw [cpF_ne (by decide), cpF_ne (by decide), cpF_ne (by decide), cpF_ne (by decide), cpF_ne (by decide), cpF_ne (by decide), cpF_at hk, fl8_ne (by decide)]
  · rw [cpF_ne (by decide), cpF_ne (by decide), cpF_ne (by decide), cpF_ne (by decide), cpF_ne (by decide), cpF_at hk, cpF_ne (by decide), fl8_ne (by decide)]
  · rw [cpF_ne (by decide), cpF_ne (by decide), cpF_ne (by decide), cpF_ne (by decide), cpF_at hk, cpF_ne (by decide), cpF_ne (by decide), fl8_ne (by decide)]
  · rw [cpF_ne (by decide), cpF_ne (by decide), cpF_ne (by decide), cpF_at hk, cpF_ne (by decide), cpF_ne (by decide), cpF_ne (by decide), fl8_ne (by decide)]
  · rw [cpF_ne (by decide), cpF_ne (by decide), cpF_at hk, cpF_ne (by decide), cpF_ne (by decide), cpF_ne (by decide), cpF_ne (by decide), fl8_ne (by decide)]
  · rw [cpF_ne (by decide), cpF_at hk, cpF_ne (by decide), cpF_ne (by decide), cpF_ne (by decide), cpF_ne (by decide), cpF_ne (by decide), fl8_ne (by decide)]
  · rw [cpF_at hk, cpF_ne (by decide), cpF_ne (by decide), cpF_ne (by decide), cpF_ne (by decide), cpF_ne (by decide), cpF_ne (by decide), fl8_ne (by decide)]
theorem len78 : len 78 = 315 := by decide
theorem r_keep_eq {m : M} : r_keep m = some (1, wrF (mset m 78 (cpT 315 (m 77) (m 78))) 76 3 1) := by
  unfold r_keep r_keep_2
  have hloop := iter_seq (body := fun z : Int32 × M => r_keep_2b z.1 z.2) (fun i => (nI i, mset m 78 (cpT i (m 77) (m 78)))) (r := mset m 78 (cpT 315 (m 77) (m 78))) 315 (fun i hi => by
    show r_keep_2b (nI i) (mset m 78 (cpT i (m 77) (m 78))) = _
    unfold r_keep_2b
    rw [show (315 : Int32) = nI 315 from rfl, if_neg (nI_ge hi (by decide)), rd77 hi, mset_ne (by decide), Option.bind_some, wrI_at (show i < len 78 by rw [len78]; exact hi) (by decide), Option.bind_some, ltE, nI_1, mset_mset, mset_same, cpT_step]) (by
    show r_keep_2b (nI 315) _ = _
    unfold r_keep_2b
    rw [if_pos (by decide)]) (by decide)
  rw [show ((0 : Int32), m) = (fun i => (nI i, mset m 78 (cpT i (m 77) (m 78)))) 0 from by show _ = (nI 0, mset m 78 (cpT 0 (m 77) (m 78))); rw [cpT_0, mset_self]; rfl, hloop]
  rfl
theorem ne2 {p k : Nat} (h1 : cl p k ≠ 2) (h0 : cl p k ≠ 0) : ¬ ((p = 0 ∧ k = 2) ∨ p = 2 ∨ p = 5 ∨ p = 6 ∨ (18 ≤ p ∧ p ≤ 24) ∨ (34 ≤ p ∧ p ≤ 41) ∨ p = 78 ∨ (p = 76 ∧ k = 3)) := fun q => h1 (cl_2 (cl_sc h0) q)
theorem kp_facts {m : M} : ∃ m1, k_keep m = some (1, m1) ∧ m1 0 2 = 1 ∧ (∀ p k, p ≠ 2 → p ≠ 5 → p ≠ 6 → ¬ (18 ≤ p ∧ p ≤ 24) → ¬ (34 ≤ p ∧ p ≤ 41) → ¬ (p = 0 ∧ k = 2) → m1 p k = m p k) ∧ (∀ k, k < 8 → m1 2 k = m 1 k) ∧ m1 5 0 = m 3 0 ∧ m1 6 0 = m 4 0 ∧ (∀ k, k < 6 → m1 18 k = m 10 k ∧ m1 19 k = m 11 k ∧ m1 20 k = m 12 k ∧ m1 21 k = m 13 k ∧ m1 23 k = m 15 k ∧ m1 24 k = m 16 k) ∧ (∀ k, k < 16 → m1 22 k = m 14 k) ∧ (∀ k, k < 8 → m1 34 k = m 26 k ∧ m1 35 k = m 27 k ∧ m1 36 k = m 28 k) ∧ (∀ k, k < 200 → m1 37 k = m 29 k) ∧ (∀ k, k < 6 → m1 38 k = m 30 k ∧ m1 39 k = m 31 k ∧ m1 40 k = m 32 k ∧ m1 41 k = m 33 k) := by
  obtain ⟨vb1, vb2, vb3, vb4, vb5, vb6, vb7, vb8⟩ := cpB_v (m := m)
  obtain ⟨vu1, vu2, vu3, vu4, vu5⟩ := cpU_v (m := cpB m)
  obtain ⟨vp1, vp2, vp3, vp4, vp5⟩ := cpP_v (m := cpU (cpB m))
  obtain ⟨m1, hm1⟩ : ∃ m1, m1 = kpM m := ⟨_, rfl⟩
  have h0 : ∀ p, p ≠ 0 → m1 p = cpP (cpU (cpB m)) p := fun p hp => by rw [hm1]; unfold kpM; rw [wrF_ne hp]
  have qb : ∀ p, p = 2 ∨ (18 ≤ p ∧ p ≤ 24) → m1 p = cpB m p := fun p hp => by rw [h0 p (by omega), cpP_ne (by omega) (by omega), cpU_ne (by omega) (by omega)]
  have qu : ∀ p, p = 5 ∨ (34 ≤ p ∧ p ≤ 37) → m1 p = cpU (cpB m) p := fun p hp => by rw [h0 p (by omega), cpP_ne (by omega) (by omega)]
  have qp : ∀ p, p = 6 ∨ (38 ≤ p ∧ p ≤ 41) → m1 p = cpP (cpU (cpB m)) p := fun p hp => h0 p (by omega)
  have qs : ∀ p, p = 3 ∨ p = 4 ∨ (26 ≤ p ∧ p ≤ 33) → cpU (cpB m) p = m p ∧ cpB m p = m p := fun p hp => ⟨by rw [cpU_ne (by omega) (by omega), cpB_ne (by omega) (by omega)], cpB_ne (by omega) (by omega)⟩
  refine ⟨m1, by rw [hm1]; exact k_keep_eq, ?_, fun p k x1 x2 x3 x4 x5 x6 => ?_, fun k hk => ?_, ?_, ?_, fun k hk => ⟨?_, ?_, ?_, ?_, ?_, ?_⟩, fun k hk => ?_, fun k hk => ⟨?_, ?_, ?_⟩, fun k hk => ?_, fun k hk => ⟨?_, ?_, ?_, ?_⟩⟩
  · rw [hm1]; unfold kpM; rw [wrF_at]
  · by_cases e0 : p = 0
    · subst e0
      rw [hm1]
      unfold kpM
      rw [wrF_off (by omega), cpP_ne (by decide) (by omega), cpU_ne (by decide) (by omega), cpB_ne (by decide) (by omega)]
    · rw [h0 p e0, cpP_ne x3 (by omega), cpU_ne x2 (by omega), cpB_ne x1 x4]
  · rw [qb 2 (by omega)]; exact vb1 k hk
  · rw [qu 5 (by omega), vu1, (qs 3 (by omega)).2]
  · rw [qp 6 (by omega), vp1, (qs 4 (by omega)).1]
  · rw [qb 18 (by omega)]; exact vb2 k hk
  · rw [qb 19 (by omega)]; exact vb3 k hk
  · rw [qb 20 (by omega)]; exact vb4 k hk
  · rw [qb 21 (by omega)]; exact vb5 k hk
  · rw [qb 23 (by omega)]; exact vb7 k hk
  · rw [qb 24 (by omega)]; exact vb8 k hk
  · rw [qb 22 (by omega)]; exact vb6 k hk
  · rw [qu 34 (by omega), vu2 k hk, (qs 26 (by omega)).2]
  · rw [qu 35 (by omega), vu3 k hk, (qs 27 (by omega)).2]
  · rw [qu 36 (by omega), vu4 k hk, (qs 28 (by omega)).2]
  · rw [qu 37 (by omega), vu5 k hk, (qs 29 (by omega)).2]
  · rw [qp 38 (by omega), vp2 k hk, (qs 30 (by omega)).1]
  · rw [qp 39 (by omega), vp3 k hk, (qs 31 (by omega)).1]
  · rw [qp 40 (by omega), vp4 k hk, (qs 32 (by omega)).1]
  · rw [qp 41 (by omega), vp5 k hk, (qs 33 (by omega)).1]
theorem ok_keep {m : M} (hI : INV m) : OK_keep INV m := by
  obtain ⟨m1, g0, g02, gf, v1, v3, v4, vA, v14, vB, v29, vC⟩ := kp_facts (m := m)
  obtain ⟨m2, hm2⟩ : ∃ m2, m2 = wrF (mset m1 78 (cpT 315 (m1 77) (m1 78))) 76 3 1 := ⟨_, rfl⟩
  have e : ∀ p, p ≠ 78 → p ≠ 76 → m2 p = m1 p := fun p x1 x2 => by rw [hm2, wrF_ne x2, mset_ne x1]
  have e78 : m2 78 = cpT 315 (m1 77) (m1 78) := by rw [hm2, wrF_ne (by decide), mset_same]
  have e763 : m2 76 3 = 1 := by rw [hm2, wrF_at]
  have e76 : ∀ k, k ≠ 3 → m2 76 k = m1 76 k := fun k hk => by rw [hm2, wrF_off hk, mset_ne (by decide)]
  refine ⟨1, m1, m2, g0, by rw [r_keep_eq, hm2], hI.c2 (fun p k q1 q0 => ?_) (Or.inr ⟨by rw [e 0 (by decide) (by decide)]; exact g02, e763, ?_⟩)⟩
  · have hn := ne2 q1 q0
    have hg := gf p k (by omega) (by omega) (by omega) (by omega) (by omega) (by omega)
    by_cases c : p = 76
    · subst c; rw [e76 k (by omega), hg]
    · rw [e p (by omega) c, hg]
  · refine hI.1.fine (fun k hk => ?_) ?_ ?_ (fun p hp k hk => ?_) (fun k hk => ?_) (fun p hp k hk => ?_) (fun k hk => ?_) (fun k hk => ?_)
    · show m2 2 k = _
      rw [e 2 (by decide) (by decide)]; exact v1 k hk
    · show m2 5 0 = _
      rw [e 5 (by decide) (by decide)]; exact v3
    · show m2 6 0 = _
      rw [e 6 (by decide) (by decide)]; exact v4
    · obtain ⟨a1, a2, a3, a4, a5, a6⟩ := vA k hk
      obtain ⟨c1, c2, c3, c4⟩ := vC k hk
      rcases hp with rfl | rfl | rfl | rfl | rfl | rfl | rfl | rfl | rfl | rfl
      · show m2 18 k = _; rw [e 18 (by decide) (by decide)]; exact a1
      · show m2 19 k = _; rw [e 19 (by decide) (by decide)]; exact a2
      · show m2 20 k = _; rw [e 20 (by decide) (by decide)]; exact a3
      · show m2 21 k = _; rw [e 21 (by decide) (by decide)]; exact a4
      · show m2 23 k = _; rw [e 23 (by decide) (by decide)]; exact a5
      · show m2 24 k = _; rw [e 24 (by decide) (by decide)]; exact a6
      · show m2 38 k = _; rw [e 38 (by decide) (by decide)]; exact c1
      · show m2 39 k = _; rw [e 39 (by decide) (by decide)]; exact c2
      · show m2 40 k = _; rw [e 40 (by decide) (by decide)]; exact c3
      · show m2 41 k = _; rw [e 41 (by decide) (by decide)]; exact c4
    · show m2 22 k = _; rw [e 22 (by decide) (by decide)]; exact v14 k hk
    · obtain ⟨a1, a2, a3⟩ := vB k hk
      rcases hp with rfl | rfl | rfl
      · show m2 34 k = _; rw [e 34 (by decide) (by decide)]; exact a1
      · show m2 35 k = _; rw [e 35 (by decide) (by decide)]; exact a2
      · show m2 36 k = _; rw [e 36 (by decide) (by decide)]; exact a3
    · show m2 37 k = _; rw [e 37 (by decide) (by decide)]; exact v29 k hk
    · show m2 78 k = _
      rw [e78]
      unfold cpT
      rw [if_pos hk]
      exact gf 77 k (by decide) (by decide) (by decide) (by omega) (by omega) (by omega)
def agB (m : M) : M := cpF 6 24 16 (cpF 6 23 15 (cpF 16 22 14 (cpF 6 21 13 (cpF 6 20 12 (cpF 6 19 11 (cpF 6 18 10 (fl8 2 1 m)))))))
def agU (m : M) : M := cpF 200 37 29 (cpF 8 36 28 (cpF 8 35 27 (cpF 8 34 26 (wrF (wrF m 3 0 (m 5 0)) 3 5 (m 5 5)))))
def agP (m : M) : M := cpF 6 41 33 (cpF 6 40 32 (cpF 6 39 31 (cpF 6 38 30 (wrF m 4 0 (m 6 0)))))
theorem k_again_eq {m : M} : b_copyFrom_1_2 m = some (agP (agU (agB m))) := by
  have hu : ∀ mm : M, u_copyFrom_3_5 mm = some (agU mm) := fun mm => by
    unfold u_copyFrom_3_5
    rw [ltE, ltE, b_copy_eq (n := 8) (by decide) (by decide) (by decide) (by decide), Option.bind_some, b_copy_eq (n := 8) (by decide) (by decide) (by decide) (by decide), Option.bind_some, b_copy_eq (n := 8) (by decide) (by decide) (by decide) (by decide), Option.bind_some, b_copy_eq (n := 200) (by decide) (by decide) (by decide) (by decide), Option.bind_some, wrF_ne (show (5 : Nat) ≠ 3 by decide)]
    rfl
  have hp : ∀ mm : M, p_copyFrom_4_6 mm = some (agP mm) := fun mm => by
    unfold p_copyFrom_4_6
    rw [ltE, b_copy_eq (n := 6) (by decide) (by decide) (by decide) (by decide), Option.bind_some, b_copy_eq (n := 6) (by decide) (by decide) (by decide) (by decide), Option.bind_some, b_copy_eq (n := 6) (by decide) (by decide) (by decide) (by decide), Option.bind_some, b_copy_eq (n := 6) (by decide) (by decide) (by decide) (by decide), Option.bind_some]
    rfl
  unfold b_copyFrom_1_2
  simp only [ltE, wrF_ne (show (2 : Nat) ≠ 1 by decide)]
  rw [b_copy_eq (n := 6) (by decide) (by decide) (by decide) (by decide), Option.bind_some, b_copy_eq (n := 6) (by decide) (by decide) (by decide) (by decide), Option.bind_some, b_copy_eq (n := 6) (by decide) (by decide) (by decide) (by decide), Option.bind_some, b_copy_eq (n := 6) (by decide) (by decide) (by decide) (by decide), Option.bind_some, b_copy_eq (n := 16) (by decide) (by decide) (by decide) (by decide), Option.bind_some, b_copy_eq (n := 6) (by decide) (by decide) (by decide) (by decide), Option.bind_some, b_copy_eq (n := 6) (by decide) (by decide) (by decide) (by decide), Option.bind_some, hu, Option.bind_some, hp, Option.bind_some]
  rfl
theorem agP_ne {m : M} {r : Nat} (h : r ≠ 4) (h2 : ¬ (30 ≤ r ∧ r ≤ 33)) : agP m r = m r := by
  unfold agP
  rw [cpF_ne (by omega), cpF_ne (by omega), cpF_ne (by omega), cpF_ne (by omega), wrF_ne h]
theorem agU_ne {m : M} {r : Nat} (h : r ≠ 3) (h2 : ¬ (26 ≤ r ∧ r ≤ 29)) : agU m r = m r := by
  unfold agU
  rw [cpF_ne (by omega), cpF_ne (by omega), cpF_ne (by omega), cpF_ne (by omega), wrF_ne h, wrF_ne h]
theorem agB_ne {m : M} {r : Nat} (h : r ≠ 1) (h2 : ¬ (10 ≤ r ∧ r ≤ 16)) : agB m r = m r := by
  unfold agB
  rw [cpF_ne (by omega), cpF_ne (by omega), cpF_ne (by omega), cpF_ne (by omega), cpF_ne (by omega), cpF_ne (by omega), cpF_ne (by omega), fl8_ne h]
theorem agP_v {m : M} : agP m 4 0 = m 6 0 ∧ (∀ k, k < 6 → agP m 30 k = m 38 k) ∧ (∀ k, k < 6 → agP m 31 k = m 39 k) ∧ (∀ k, k < 6 → agP m 32 k = m 40 k) ∧ (∀ k, k < 6 → agP m 33 k = m 41 k) := by
  unfold agP
  refine ⟨?_, fun k hk => ?_, fun k hk => ?_, fun k hk => ?_, fun k hk => ?_⟩
  · rw [cpF_ne (by decide), cpF_ne (by decide), cpF_ne (by decide), cpF_ne (by decide), wrF_at]
  · rw [cpF_ne (by decide), cpF_ne (by decide), cpF_ne (by decide), cpF_at hk, wrF_ne (by decide)]
  · rw [cpF_ne (by decide), cpF_ne (by decide), cpF_at hk, cpF_ne (by decide), wrF_ne (by decide)]
  · rw [cpF_ne (by decide), cpF_at hk, cpF_ne (by decide), cpF_ne (by decide), wrF_ne (by decide)]
  · rw [cpF_at hk, cpF_ne (by decide), cpF_ne (by decide), cpF_ne (by decide), wrF_ne (by decide)]
theorem agU_v {m : M} : agU m 3 0 = m 5 0 ∧ (∀ k, k < 8 → agU m 26 k = m 34 k) ∧ (∀ k, k < 8 → agU m 27 k = m 35 k) ∧ (∀ k, k < 8 → agU m 28 k = m 36 k) ∧ (∀ k, k < 200 → agU m 29 k = m 37 k) := by
  unfold agU
  refine ⟨?_, fun k hk => ?_, fun k hk => ?_, fun k hk => ?_, fun k hk => ?_⟩
  · rw [cpF_ne (by decide), cpF_ne (by decide), cpF_ne (by decide), cpF_ne (by decide), wrF_off (by decide), wrF_at]
  · rw [cpF_ne (by decide), cpF_ne (by decide), cpF_ne (by decide), cpF_at hk, wrF_ne (by decide), wrF_ne (by decide)]
  · rw [cpF_ne (by decide), cpF_ne (by decide), cpF_at hk, cpF_ne (by decide), wrF_ne (by decide), wrF_ne (by decide)]
  · rw [cpF_ne (by decide), cpF_at hk, cpF_ne (by decide), cpF_ne (by decide), wrF_ne (by decide), wrF_ne (by decide)]
  · rw [cpF_at hk, cpF_ne (by decide), cpF_ne (by decide), cpF_ne (by decide), wrF_ne (by decide), wrF_ne (by decide)]
theorem agB_v {m : M} : (∀ k, k < 8 → agB m 1 k = m 2 k) ∧ (∀ k, k < 6 → agB m 10 k = m 18 k) ∧ (∀ k, k < 6 → agB m 11 k = m 19 k) ∧ (∀ k, k < 6 → agB m 12 k = m 20 k) ∧ (∀ k, k < 6 → agB m 13 k = m 21 k) ∧ (∀ k, k < 16 → agB m 14 k = m 22 k) ∧ (∀ k, k < 6 → agB m 15 k = m 23 k) ∧ (∀ k, k < 6 → agB m 16 k = m 24 k) := by
  unfold agB
  refine ⟨fun k hk => ?_, fun k hk => ?_, fun k hk => ?_, fun k hk => ?_, fun k hk => ?_, fun k hk => ?_, fun k hk => ?_, fun k hk => ?_⟩
  · rw [cpF_ne (by decide), cpF_ne (by decide), cpF_ne (by decide), cpF_ne (by decide), cpF_ne (by decide), cpF_ne (by decide), cpF_ne (by decide), fl8_at k hk]
  · rw [cpF_ne (by decide), cpF_ne (by decide), cpF_ne (by decide), cpF_ne (by decide), cpF_ne (by decide), cpF_ne (by decide), cpF_at hk, fl8_ne (by decide)]
  · rw [cpF_ne (by decide), cpF_ne (by decide), cpF_ne (by decide), cpF_ne (by decide), cpF_ne (by decide), cpF_at hk, cpF_ne (by decide), fl8_ne (by decide)]
  · rw [cpF_ne (by decide), cpF_ne (by decide), cpF_ne (by decide), cpF_ne (by decide), cpF_at hk, cpF_ne (by decide), cpF_ne (by decide), fl8_ne (by decide)]
  · rw [cpF_ne (by decide), cpF_ne (by decide), cpF_ne (by decide), cpF_at hk, cpF_ne (by decide), cpF_ne (by decide), cpF_ne (by decide), fl8_ne (by decide)]
  · rw [cpF_ne (by decide), cpF_ne (by decide), cpF_at hk, cpF_ne (by decide), cpF_ne (by decide), cpF_ne (by decide), cpF_ne (by decide), fl8_ne (by decide)]
  · rw [cpF_ne (by decide), cpF_at hk, cpF_ne (by decide), cpF_ne (by decide), cpF_ne (by decide), cpF_ne (by decide), cpF_ne (by decide), fl8_ne (by decide)]
  · rw [cpF_at hk, cpF_ne (by decide), cpF_ne (by decide), cpF_ne (by decide), cpF_ne (by decide), cpF_ne (by decide), cpF_ne (by decide), fl8_ne (by decide)]
theorem r_again_12_eq {m : M} : r_again_12 0 m = some (cpT 315 (m 78) (m 77) 6, mset m 77 (cpT 315 (m 78) (m 77))) := by
  unfold r_again_12
  have hloop := iter_seq (body := fun z : Int32 × M => r_again_12b z.1 z.2) (fun i => (nI i, mset m 77 (cpT i (m 78) (m 77)))) (r := mset m 77 (cpT 315 (m 78) (m 77))) 315 (fun i hi => by
    show r_again_12b (nI i) (mset m 77 (cpT i (m 78) (m 77))) = _
    unfold r_again_12b
    rw [show (315 : Int32) = nI 315 from rfl, if_neg (nI_ge hi (by decide)), rdI_at (show i < len 78 by rw [len78]; exact hi) (by decide), mset_ne (by decide), Option.bind_some, wr77 hi, Option.bind_some, ltE, nI_1, mset_mset, mset_same, cpT_step]) (by
    show r_again_12b (nI 315) _ = _
    unfold r_again_12b
    rw [if_pos (by decide)]) (by decide)
  rw [show ((0 : Int32), m) = (fun i => (nI i, mset m 77 (cpT i (m 78) (m 77)))) 0 from by show _ = (nI 0, mset m 77 (cpT 0 (m 78) (m 77))); rw [cpT_0, mset_self]; rfl, hloop, Option.bind_some, rd77_6, mset_same]
  rfl
theorem ok_again {m : M} (hI : INV m) : OK_again INV m := by
  unfold OK_again k_again r_again
  rcases hI.2.1 with ⟨k1, k2⟩ | ⟨k1, k2, k3⟩
  · exact ⟨-3, m, m, by rw [if_pos k1], by rw [if_pos k2], hI⟩
  · obtain ⟨m1, hm1⟩ : ∃ m1, m1 = agP (agU (agB m)) := ⟨_, rfl⟩
    have hne : ∀ p, p ≠ 1 → p ≠ 3 → p ≠ 4 → ¬ (10 ≤ p ∧ p ≤ 16) → ¬ (26 ≤ p ∧ p ≤ 33) → m1 p = m p := fun p x1 x2 x3 x4 x5 => by
      rw [hm1, agP_ne x3 (by omega), agU_ne x2 (by omega), agB_ne x1 x4]
    obtain ⟨vb1, vb2, vb3, vb4, vb5, vb6, vb7, vb8⟩ := agB_v (m := m)
    obtain ⟨vu1, vu2, vu3, vu4, vu5⟩ := agU_v (m := agB m)
    obtain ⟨vp1, vp2, vp3, vp4, vp5⟩ := agP_v (m := agU (agB m))
    have qb : ∀ p, p = 1 ∨ (10 ≤ p ∧ p ≤ 16) → m1 p = agB m p := fun p hp => by rw [hm1, agP_ne (by omega) (by omega), agU_ne (by omega) (by omega)]
    have qu : ∀ p, p = 3 ∨ (26 ≤ p ∧ p ≤ 29) → m1 p = agU (agB m) p := fun p hp => by rw [hm1, agP_ne (by omega) (by omega)]
    have qs : ∀ p, p = 5 ∨ p = 6 ∨ (34 ≤ p ∧ p ≤ 41) → agU (agB m) p = m p ∧ agB m p = m p := fun p hp => ⟨by rw [agU_ne (by omega) (by omega), agB_ne (by omega) (by omega)], agB_ne (by omega) (by omega)⟩
    have h77 := hne 77 (by decide) (by decide) (by decide) (by omega) (by omega)
    have h78 := hne 78 (by decide) (by decide) (by decide) (by omega) (by omega)
    have h763 : m1 76 3 = 1 := by rw [hne 76 (by decide) (by decide) (by decide) (by omega) (by omega)]; exact k2
    have hnow : NOW (mset m1 77 (cpT 315 (m1 78) (m1 77))) := by
      generalize hm2 : mset m1 77 (cpT 315 (m1 78) (m1 77)) = m2
      have e : ∀ p, p ≠ 77 → m2 p = m1 p := fun p hp => by rw [← hm2, mset_ne hp]
      refine k3.fine (fun k hk => ?_) ?_ ?_ (fun p hp k hk => ?_) (fun k hk => ?_) (fun p hp k hk => ?_) (fun k hk => ?_) (fun k hk => ?_)
      · show _ = m 2 k
        rw [e 1 (by decide), qb 1 (by omega)]; exact vb1 k hk
      · show _ = m 5 0
        rw [e 3 (by decide), qu 3 (by omega), vu1, (qs 5 (by omega)).2]
      · show _ = m 6 0
        rw [e 4 (by decide), hm1, vp1, (qs 6 (by omega)).1]
      · rcases hp with rfl | rfl | rfl | rfl | rfl | rfl | rfl | rfl | rfl | rfl
        · show _ = m 18 k; rw [e 10 (by decide), qb 10 (by omega)]; exact vb2 k hk
        · show _ = m 19 k; rw [e 11 (by decide), qb 11 (by omega)]; exact vb3 k hk
        · show _ = m 20 k; rw [e 12 (by decide), qb 12 (by omega)]; exact vb4 k hk
        · show _ = m 21 k; rw [e 13 (by decide), qb 13 (by omega)]; exact vb5 k hk
        · show _ = m 23 k; rw [e 15 (by decide), qb 15 (by omega)]; exact vb7 k hk
        · show _ = m 24 k; rw [e 16 (by decide), qb 16 (by omega)]; exact vb8 k hk
        · show _ = m 38 k; rw [e 30 (by decide), hm1, vp2 k hk, (qs 38 (by omega)).1]
        · show _ = m 39 k; rw [e 31 (by decide), hm1, vp3 k hk, (qs 39 (by omega)).1]
        · show _ = m 40 k; rw [e 32 (by decide), hm1, vp4 k hk, (qs 40 (by omega)).1]
        · show _ = m 41 k; rw [e 33 (by decide), hm1, vp5 k hk, (qs 41 (by omega)).1]
      · show _ = m 22 k; rw [e 14 (by decide), qb 14 (by omega)]; exact vb6 k hk
      · rcases hp with rfl | rfl | rfl
        · show _ = m 34 k; rw [e 26 (by decide), qu 26 (by omega), vu2 k hk, (qs 34 (by omega)).2]
        · show _ = m 35 k; rw [e 27 (by decide), qu 27 (by omega), vu3 k hk, (qs 35 (by omega)).2]
        · show _ = m 36 k; rw [e 28 (by decide), qu 28 (by omega), vu4 k hk, (qs 36 (by omega)).2]
      · show _ = m 37 k; rw [e 29 (by decide), qu 29 (by omega), vu5 k hk, (qs 37 (by omega)).2]
      · show _ = m 78 k
        rw [← hm2, mset_same, h78]
        unfold cpT
        rw [if_pos hk]
    have h6 : cpT 315 (m1 78) (m1 77) 6 = m1 1 6 := by
      have hN := hnow
      obtain ⟨rs, a1, a2, a3⟩ := hN
      have := a2.f6
      rw [mset_same, mset_ne (by decide)] at this
      exact this.symm
    refine ⟨m1 1 6, m1, mset m1 77 (cpT 315 (m1 78) (m1 77)), ?_, ?_, hI.c1 (fun p k q1 q0 => ?_) hnow⟩
    · rw [if_neg (by rw [k1]; decide), k_again_eq, Option.bind_some, hm1]
    · rw [if_neg (by rw [h763]; decide), r_again_12_eq, h6]
    · have hn := ne1 q1 q0
      rw [mset_ne (by omega), hne p (by omega) (by omega) (by omega) (by omega) (by omega)]
