/-! nights by lot -/
def lotB (b : Nat → Int32) : Nat → Int32 := upd b 5 (b 5 * 1103515245 + 12345)
def lotA (b : Nat → Int32) : Nat := ((lotB b 5).toBitVec.toNat / 2 ^ 16) % (manyB b + 1)
theorem lotA_le {b : Nat → Int32} : lotA b ≤ manyB b := by
  have := Nat.mod_lt ((lotB b 5).toBitVec.toNat / 2 ^ 16) (show 0 < manyB b + 1 by omega)
  unfold lotA
  omega
theorem WF.upd5 {b : Nat → Int32} (h : WF b) (x : Int32) : WF (upd b 5 x) := WF_upd h
theorem many5 {b : Nat → Int32} {x : Int32} : manyB (upd b 5 x) = manyB b := manyB_upd (by decide)
theorem rm_lot {b : Nat → Int32} (h : WF b) : rmI ((Int32.toUInt32 (lotB b 5) >>> (Int32.toUInt32 16 &&& Int32.toUInt32 31)).toInt32) (nI (manyB b) + 1) = some (nI (lotA b)) := by
  have h6 := h.manyN.2
  have hx : ∀ x : Int32, (x.toUInt32 >>> (Int32.toUInt32 16 &&& Int32.toUInt32 31)).toInt32 = nI (x.toBitVec.toNat / 2 ^ 16) := fun x => by
    have e := pk_ushr x 16 16 (by decide)
    have hlt : x.toBitVec.toNat / 2 ^ 16 < 2 ^ 32 := Nat.lt_of_le_of_lt (Nat.div_le_self _ _) x.toBitVec.isLt
    apply Int32.toBitVec_inj.mp
    apply BitVec.eq_of_toNat_eq
    rw [e, pk_tn hlt]
  rw [hx]
  have hlt : (lotB b 5).toBitVec.toNat / 2 ^ 16 < 2 ^ 31 := by
    have := (lotB b 5).toBitVec.isLt
    omega
  unfold rmI
  rw [nI_1, if_neg (nI_ne0 (by omega) (by omega)), pk_rem hlt (by omega) (by omega)]
  rfl
theorem r_byLot_eq {m : M} {b : Nat → Int32} {rs : List Rl} (hW : WF b) (hR : RR b rs) (hb : m 77 = b) : ∃ m', r_byLot m = some (goW rs (lotA b) (lotB b), m') ∧ m' 77 = goB rs (lotA b) (lotB b) ∧ E76 m m' := by
  obtain ⟨h1, h2⟩ := hW.manyN
  have hWl : WF (lotB b) := hW.upd5 _
  have hRl : RR (lotB b) rs := RR_upd hR (by decide) (by decide)
  obtain ⟨m', g1, g2, g3, g4⟩ := r_goesBy_of (m := mset m 77 (lotB b)) (a := lotA b) mset_same hWl hRl (by show lotA b ≤ manyB (upd b 5 _); rw [many5]; exact lotA_le)
  refine ⟨m', ?_, g2, E76_77.trans g3⟩
  unfold r_byLot
  rw [rd77_5, hb, Option.bind_some, show wrI m 77 5 (b 5 * 1103515245 + 12345) = some (mset m 77 (lotB b)) from by rw [wr77_5, hb]; rfl, Option.bind_some, rd77_5, rd77_6, mset_same]
  simp only [Option.bind_some]
  rw [show lotB b 6 = nI (manyB b) from by rw [← h1]; exact upd_off (by decide), rm_lot hW, Option.bind_some, g1]
  rfl
theorem b_byLot_eq {m : M} {b : Nat → Int32} {rs : List Rl} (hW : WF b) (hR : KR m rs) (hK : KB m b) : ∃ m', b_nightByLot m = some (goW rs (lotA b) (lotB b), m') ∧ KB m' (goB rs (lotA b) (lotB b)) ∧ NP 1 5 m m' := by
  obtain ⟨h1, h2⟩ := hW.manyN
  have hWl : WF (lotB b) := hW.upd5 _
  have hK1 : KB (wrF m 1 5 (b 5 * 1103515245 + 12345)) (lotB b) := hK.wr (p := 1) (c := 5) (j := 5) (by unfold KBP; omega)
  have hq : NP 1 5 m (wrF m 1 5 (b 5 * 1103515245 + 12345)) := NP_wr
  have hR1 : KR (wrF m 1 5 (b 5 * 1103515245 + 12345)) rs := by
    unfold KR wrF at *
    rw [mset_ne (by decide), mset_ne (by decide), mset_ne (by decide), mset_ne (by decide), mset_ne (by decide)]
    exact hR
  obtain ⟨m', g1, g2, g3, g4⟩ := b_goesBy_eq (a := lotA b) hK1 hWl hR1 (by show lotA b ≤ manyB (upd b 5 _); rw [many5]; exact lotA_le)
  refine ⟨m', ?_, g2, hq.trans g3.NP⟩
  unfold b_nightByLot
  rw [ltE, hK.f5, hK1.f5, hK1.f6, show lotB b 6 = nI (manyB b) from by rw [← h1]; exact upd_off (by decide), rm_lot hW, Option.bind_some, b_count_eq hK1 hWl, Option.bind_some, g1]
  rfl
def lotW (rs : List Rl) : Nat → (Nat → Int32) → Int32
  | 0, _ => 0
  | d + 1, b => goW rs (lotA b) (lotB b) + lotW rs d (goB rs (lotA b) (lotB b))
def lotE (rs : List Rl) : Nat → (Nat → Int32) → (Nat → Int32)
  | 0, b => b
  | d + 1, b => lotE rs d (goB rs (lotA b) (lotB b))
theorem left5 {b : Nat → Int32} {x : Int32} : leftB (upd b 5 x) = leftB b := left_upd (by decide)
theorem left_lotB {b : Nat → Int32} : leftB (lotB b) = leftB b := left5
theorem WF.lot1 {b : Nat → Int32} (h : WF b) (hl : 0 < leftB b) (rs : List Rl) : WF (goB rs (lotA b) (lotB b)) := WF.go (b := lotB b) (h.upd5 _) (over0 (h.upd5 _) (by rw [left_lotB]; exact hl)) rs (by show lotA b ≤ manyB (upd b 5 _); rw [many5]; exact lotA_le)
theorem left_lot1 {b : Nat → Int32} (h : WF b) (hl : 0 < leftB b) (rs : List Rl) : leftB (goB rs (lotA b) (lotB b)) + 1 = leftB b := by
  have := left_go (rs := rs) (b := lotB b) (a := lotA b) (h.upd5 _) (by show 0 < leftB (upd b 5 _); rw [left5]; exact hl) (by show lotA b ≤ manyB (upd b 5 _); rw [many5]; exact lotA_le)
  rw [this]
  exact left5
theorem NB_lot1 {b : Nat → Int32} (h : WF b) (rs : List Rl) : NB (lotB b) (goB rs (lotA b) (lotB b)) := NB_go (by have := h.manyN.2; have := lotA_le (b := b); omega)
theorem NB_5 {b b1 : Nat → Int32} {x y : Int32} (h : NB (upd b 5 y) b1) : NB (upd b 5 x) (upd b1 5 x) := fun j h0 h2 h3 h4 hm => by
  by_cases e : j = 5
  · subst e; rw [upd_at, upd_at]
  · rw [upd_off e, upd_off e, h j h0 h2 h3 h4 hm, upd_off e]
theorem WF.lots {rs : List Rl} : ∀ (d : Nat) {b : Nat → Int32}, WF b → d ≤ leftB b → WF (lotE rs d b) ∧ NB (upd b 5 (lotE rs d b 5)) (lotE rs d b)
  | 0, b, h, _ => ⟨h, by show NB (upd b 5 (b 5)) b; rw [upd_self]; exact NB.rfl⟩
  | d + 1, b, h, hd => by
    have h1 := left_lot1 h (by omega) rs
    obtain ⟨a1, a2⟩ := WF.lots (rs := rs) d (h.lot1 (by omega) rs) (by omega)
    exact ⟨a1, (NB_5 (NB_lot1 h rs)).trans a2⟩
theorem rr5 {b b1 : Nat → Int32} {x : Int32} {rs : List Rl} (h : NB (upd b 5 x) b1) (hR : RR b rs) : RR b1 rs := h.rr (RR_upd hR (by decide) (by decide))
theorem NP.kr1 {m m' : M} {rs : List Rl} (h : NP 1 5 m m') (hR : KR m rs) : KR m' rs := by
  have e : ∀ q, (q = 3 ∨ q = 26 ∨ q = 27 ∨ q = 28 ∨ q = 29) → m' q = m q := fun q hq => funext fun j => h q j (by omega) (by omega) (by omega)
  unfold KR at *
  rw [e 3 (by omega), e 26 (by omega), e 27 (by omega), e 28 (by omega), e 29 (by omega)]
  exact hR
theorem r_lots_run {rs : List Rl} {a1 a2 a3 a4 : Int32} : ∀ (d : Nat) {b : Nat → Int32} {m : M} {acc : Int32}, WF b → RR b rs → m 77 = b → d = leftB b → ∃ m', (∀ F, d < F → iter (fun z : Int32 × M => r_times_41b a1 a2 a3 a4 z.1 z.2) F (acc, m) = some (acc + lotW rs d b, m')) ∧ m' 77 = lotE rs d b ∧ E76 m m' := by
  intro d
  induction d with
  | zero =>
    intro b m acc hW hR hb hd
    refine ⟨m, fun F hF => ?_, hb, E76.rfl⟩
    obtain ⟨F', rfl⟩ : ∃ F', F = F' + 1 := ⟨F - 1, by omega⟩
    show (r_times_41b a1 a2 a3 a4 acc m).bind _ = _
    unfold r_times_41b
    rw [isOverR hb hW, if_pos (by omega), Option.bind_some, if_neg (by decide), show lotW rs 0 b = 0 from rfl, Int32.add_zero]; rfl
  | succ d ih =>
    intro b m acc hW hR hb hd
    have hl : 0 < leftB b := by omega
    obtain ⟨m1, g1, g2, g3⟩ := r_byLot_eq hW hR hb
    have hst := left_lot1 hW hl rs
    obtain ⟨m', i1, i2, i3⟩ := ih (b := goB rs (lotA b) (lotB b)) (m := m1) (acc := acc + goW rs (lotA b) (lotB b)) (hW.lot1 hl rs) (rr5 (NB_lot1 hW rs) hR) g2 (by omega)
    refine ⟨m', fun F hF => ?_, i2, g3.trans i3⟩
    obtain ⟨F', rfl⟩ : ∃ F', F = F' + 1 := ⟨F - 1, by omega⟩
    show (r_times_41b a1 a2 a3 a4 acc m).bind _ = _
    unfold r_times_41b
    rw [isOverR hb hW, if_neg (by omega), Option.bind_some, if_pos rfl, g1, Option.bind_some, ltE]
    rw [show lotW rs (d + 1) b = goW rs (lotA b) (lotB b) + lotW rs d (goB rs (lotA b) (lotB b)) from rfl, ← Int32.add_assoc]
    exact i1 F' (by omega)
theorem b_lots_run {rs : List Rl} {a1 a2 a5 a6 a7 : Int32} {a3 : Int64} : ∀ (d : Nat) {b : Nat → Int32} {m : M} {acc : Int32}, WF b → KR m rs → KB m b → d = leftB b → ∃ m', (∀ F, d < F → iter (fun z : Int32 × Int32 × M => k_times_66b a1 a2 a3 a5 a6 a7 z.1 z.2.1 z.2.2) F (acc, nI d, m) = some (acc + lotW rs d b, m')) ∧ KB m' (lotE rs d b) ∧ NP 1 5 m m' := by
  intro d
  induction d with
  | zero =>
    intro b m acc hW hR hK hd
    refine ⟨m, fun F hF => ?_, hK, NP.rfl⟩
    obtain ⟨F', rfl⟩ : ∃ F', F = F' + 1 := ⟨F - 1, by omega⟩
    show (k_times_66b a1 a2 a3 a5 a6 a7 acc (nI 0) m).bind _ = _
    unfold k_times_66b
    rw [if_pos (by decide), show lotW rs 0 b = 0 from rfl, Int32.add_zero]; rfl
  | succ d ih =>
    intro b m acc hW hR hK hd
    have hl : 0 < leftB b := by omega
    have h16 := hW.left16
    obtain ⟨m1, g1, g2, g3⟩ := b_byLot_eq hW hR hK
    have hst := left_lot1 hW hl rs
    obtain ⟨m', i1, i2, i3⟩ := ih (b := goB rs (lotA b) (lotB b)) (m := m1) (acc := acc + goW rs (lotA b) (lotB b)) (hW.lot1 hl rs) (g3.kr1 hR) g2 (by omega)
    refine ⟨m', fun F hF => ?_, i2, g3.trans i3⟩
    obtain ⟨F', rfl⟩ : ∃ F', F = F' + 1 := ⟨F - 1, by omega⟩
    show (k_times_66b a1 a2 a3 a5 a6 a7 acc (nI (d + 1)) m).bind _ = _
    unfold k_times_66b
    rw [if_neg (nI_nle (by omega) (by omega)), g1, Option.bind_some, ltE, ltE, pk_m1]
    rw [show lotW rs (d + 1) b = goW rs (lotA b) (lotB b) + lotW rs d (goB rs (lotA b) (lotB b)) from rfl, ← Int32.add_assoc]
    exact i1 F' (by omega)
def timesS (rs : List Rl) (b : Nat → Int32) (y : Int32) (s : Int32 × Int32) : Int32 × Int32 := (if lotW rs (leftB b) (upd b 5 s.2) < y then s.1 else s.1 + 1, lotE rs (leftB b) (upd b 5 s.2) 5)
def timesF (rs : List Rl) (b : Nat → Int32) (y : Int32) (n : Nat) : Int32 × Int32 := foldN (fun _ s => timesS rs b y s) n (0, b 5)
def timesV (rs : List Rl) (b : Nat → Int32) (y z : Int32) : Int32 := if 1 ≤ y ∧ y ≤ 40 then (if 0 ≤ z ∧ z ≤ 999 then (timesF rs b z y.toNatClampNeg).1 else -1) else -1
theorem mom_5 {b : Nat → Int32} {v : Int32} : momN (upd b 5 v) = momN b := by
  have h0 : ∀ j, j < 6 → vN (upd b 5 v) j = vN b j := fun j hj => by unfold vN; rw [upd_off (by omega)]
  have h1 : heardN (upd b 5 v) = heardN b := heardN_off (fun j hj => by omega)
  unfold momN momP momP momP momP momP momP momP mom0
  rw [h0 0 (by decide), h0 1 (by decide), h0 2 (by decide), h0 3 (by decide), h0 4 (by decide), h0 5 (by decide), h1]
  unfold fundN lightN nightB
  rw [upd_off (by omega), upd_off (by omega), upd_off (by omega)]
theorem in_1 {v : Int32} {n : Nat} (hn : n < 2 ^ 31) : ((1 : Int32) ≤ v ∧ v ≤ nI n) → ∃ j : Nat, 1 ≤ j ∧ j ≤ n ∧ v = nI j := by
  rintro ⟨h1, h2⟩
  have h0 : (0 : Int32) ≤ v := Int32.le_trans (by decide) h1
  obtain ⟨j, hj, rfl⟩ := (in_le hn).mp ⟨h0, h2⟩
  exact ⟨j, (nI_leI (a := 1) (by decide) (by omega)).mp h1, hj, rfl⟩
theorem k_times_eq {m : M} {b : Nat → Int32} {rs : List Rl} (hW : WF b) (hK : KB m b) (hR : KR m rs) (y z : Int32) : ∃ m1, k_times y z m = some (timesV rs b y z, m1) ∧ SQ m m1 := by
  unfold k_times timesV
  rw [k_within_eq, Option.bind_some]
  by_cases h : 1 ≤ y ∧ y ≤ 40
  · rw [if_pos h, if_pos h, if_neg (by decide), k_within_eq, Option.bind_some]
    by_cases hz : 0 ≤ z ∧ z ≤ 999
    · rw [if_pos hz, if_pos hz, if_neg (by decide), b_moment_eq hK hW]
      simp only [Option.bind_some]
      obtain ⟨n, hn1, hn, rfl⟩ := in_1 (v := y) (n := 40) (by decide) h
      rw [ltE, hK.f5, nI_clamp (by omega)]
      have key : ∀ (d i : Nat) (mi : M), i + d = n → KB mi (upd b 5 (timesF rs b z i).2) → NP 1 5 m mi → ∃ m', (∀ F, d < F → iter (fun w : Int32 × Int32 × M => k_times_46b (nI n) z (lN (momN b)) (b 5) w.1 w.2.1 w.2.2) F ((timesF rs b z i).1, nI i, mi) = some ((timesF rs b z n).1, m')) ∧ (∃ x, KB m' (upd b 5 x)) ∧ NP 1 5 m m' := by
        intro d
        induction d with
        | zero =>
          intro i mi hi hKi hq
          refine ⟨mi, fun F hF => ?_, ⟨_, hKi⟩, hq⟩
          obtain ⟨F', rfl⟩ : ∃ F', F = F' + 1 := ⟨F - 1, by omega⟩
          show (k_times_46b (nI n) z (lN (momN b)) (b 5) _ (nI i) mi).bind _ = _
          unfold k_times_46b
          have : i = n := by omega
          subst this
          rw [if_pos (Int32.le_refl _)]; rfl
        | succ d ih =>
          intro i mi hi hKi hq
          have hW1 := hW.upd5 (timesF rs b z i).2
          obtain ⟨m2, g1, g2, g3⟩ := b_lots_run (rs := rs) (a1 := nI n) (a2 := z) (a3 := lN (momN b)) (a5 := b 5) (a6 := (timesF rs b z i).1) (a7 := nI i) (leftB b) (acc := 0) hW1 (hq.kr1 hR) hKi left5.symm
          obtain ⟨w1, w2⟩ := WF.lots (rs := rs) (leftB b) hW1 (by rw [left5]; exact Nat.le_refl _)
          rw [upd_upd] at w2
          obtain ⟨m3, t1, t2, t3, t4⟩ := b_goBackTo_eq (hW.upd5 _) g2 w2
          rw [mom_5] at t1
          have hs : timesF rs b z (i + 1) = timesS rs b z (timesF rs b z i) := rfl
          obtain ⟨m', i1, i2, i3⟩ := ih (i + 1) m3 (by omega) t2 ((hq.trans g3).trans t3.NP)
          refine ⟨m', fun F hF => ?_, i2, i3⟩
          obtain ⟨F', rfl⟩ : ∃ F', F = F' + 1 := ⟨F - 1, by omega⟩
          show (k_times_46b (nI n) z (lN (momN b)) (b 5) (timesF rs b z i).1 (nI i) mi).bind _ = _
          unfold k_times_46b
          rw [if_neg (nI_ge (by omega) (by omega)), nights16 hKi hW1, left5]
          simp only [Option.bind_some]
          unfold k_times_66 k_times_106
          rw [g1 FU (by have := hW.left16; show leftB b < 4000; omega), Int32.zero_add]
          simp only [Option.bind_some]
          rw [t1]
          simp only [Option.bind_some]
          rw [ltE, ltE, ltE, nI_1]
          have i1' := i1 F' (by omega)
          rw [hs] at i1'
          unfold timesS at i1'
          by_cases e : lotW rs (leftB b) (upd b 5 (timesF rs b z i).2) < z
          · rw [if_pos e] at i1' ⊢
            exact i1'
          · rw [if_neg e] at i1' ⊢
            exact i1'
      obtain ⟨m', i1, ⟨x, i2⟩, i3⟩ := key n 0 m (by omega) (by show KB m (upd b 5 (b 5)); rw [upd_self]; exact hK) NP.rfl
      unfold k_times_46
      have := i1 FU (by show n < 4000; omega)
      rw [nI_0] at this
      rw [show ((0 : Int32), (0 : Int32), m) = ((timesF rs b z 0).1, (0 : Int32), m) from rfl, this]
      simp only [Option.bind_some]
      rw [ltE]
      have hKe : KB (wrF m' 1 5 (b 5)) b := by
        have := i2.wr (p := 1) (c := 5) (j := 5) (v := b 5) (by unfold KBP; omega)
        rw [upd_upd, upd_self] at this
        exact this
      exact ⟨_, rfl, (i3.trans NP_wr).SQ hK hKe (c := 5) (by unfold KBP; omega)⟩
    · rw [if_neg hz, if_neg hz, if_pos rfl]
      exact ⟨m, rfl, SQ.rfl⟩
  · rw [if_neg h, if_neg h, if_pos rfl]
    exact ⟨m, rfl, SQ.rfl⟩
theorem r_times_eq {m : M} {b : Nat → Int32} {rs : List Rl} (hW : WF b) (hR : RR b rs) (hb : m 77 = b) (y z : Int32) : ∃ m1, r_times y z m = some (timesV rs b y z, m1) ∧ SQ m m1 := by
  unfold r_times timesV
  rw [r_in1_eq, Option.bind_some]
  by_cases h : 1 ≤ y ∧ y ≤ 40
  · rw [if_pos h, if_pos h, if_neg (by decide), r_in1_eq, Option.bind_some]
    by_cases hz : 0 ≤ z ∧ z ≤ 999
    · rw [if_pos hz, if_pos hz, if_neg (by decide), r_layDown_eq]
      simp only [Option.bind_some]
      obtain ⟨n, hn1, hn, rfl⟩ := in_1 (v := y) (n := 40) (by decide) h
      rw [nI_clamp (by omega)]
      obtain ⟨m0, hm0⟩ : ∃ m0, m0 = mset m 79 (cpT 67 (m 77) (m 79)) := ⟨_, rfl⟩
      have h79 : ∀ j, j < 67 → m0 79 j = b j := fun j hj => by rw [hm0, mset_same]; unfold cpT; rw [if_pos hj, hb]
      have h77 : m0 77 = b := by rw [hm0, mset_ne (by decide)]; exact hb
      rw [← hm0]
      have key : ∀ (d i : Nat) (mi : M), i + d = n → mi 77 = upd b 5 (timesF rs b z i).2 → E76 m0 mi → ∃ m', (∀ F, d < F → iter (fun w : Int32 × Int32 × M => r_times_32b (nI n) z w.1 w.2.1 w.2.2) F ((timesF rs b z i).1, nI i, mi) = some ((timesF rs b z n).1, m')) ∧ (∃ x, m' 77 = upd b 5 x) ∧ E76 m0 m' := by
        intro d
        induction d with
        | zero =>
          intro i mi hi hbi hq
          refine ⟨mi, fun F hF => ?_, ⟨_, hbi⟩, hq⟩
          obtain ⟨F', rfl⟩ : ∃ F', F = F' + 1 := ⟨F - 1, by omega⟩
          show (r_times_32b (nI n) z _ (nI i) mi).bind _ = _
          unfold r_times_32b
          have : i = n := by omega
          subst this
          rw [if_pos (Int32.le_refl _)]; rfl
        | succ d ih =>
          intro i mi hi hbi hq
          have hW1 := hW.upd5 (timesF rs b z i).2
          obtain ⟨m2, g1, g2, g3⟩ := r_lots_run (rs := rs) (a1 := nI n) (a2 := z) (a3 := (timesF rs b z i).1) (a4 := nI i) (leftB b) (acc := 0) hW1 (RR_upd hR (by decide) (by decide)) hbi left5.symm
          obtain ⟨w1, w2⟩ := WF.lots (rs := rs) (leftB b) hW1 (by rw [left5]; exact Nat.le_refl _)
          rw [upd_upd] at w2
          have hq2 := hq.trans g3
          have hlay := lay_to (b := b) (m := m2) (by rw [hq2.r79]; exact h79) (fun j hj => by rw [g2, w2.hi j hj, upd_off (by omega)])
          have hs : timesF rs b z (i + 1) = timesS rs b z (timesF rs b z i) := rfl
          obtain ⟨m', i1, i2, i3⟩ := ih (i + 1) (mset m2 77 (upd b 5 (lotE rs (leftB b) (upd b 5 (timesF rs b z i).2) 5))) (by omega) mset_same (hq2.trans E76_77)
          refine ⟨m', fun F hF => ?_, i2, i3⟩
          obtain ⟨F', rfl⟩ : ∃ F', F = F' + 1 := ⟨F - 1, by omega⟩
          show (r_times_32b (nI n) z (timesF rs b z i).1 (nI i) mi).bind _ = _
          unfold r_times_32b
          rw [if_neg (nI_ge (by omega) (by omega))]
          unfold r_times_41 r_times_72
          rw [g1 FU (by have := hW.left16; show leftB b < 4000; omega), Int32.zero_add]
          simp only [Option.bind_some]
          rw [rd77_5, g2, hlay]
          simp only [Option.bind_some]
          rw [ltE, ltE, wr77_5, mset_mset, mset_same]
          simp only [Option.bind_some]
          rw [ltE, ltE, nI_1, Int32.add_zero]
          have i1' := i1 F' (by omega)
          rw [hs] at i1'
          unfold timesS at i1'
          by_cases e : lotW rs (leftB b) (upd b 5 (timesF rs b z i).2) < z
          · rw [if_pos e] at i1' ⊢
            exact i1'
          · rw [if_neg e] at i1' ⊢
            exact i1'
      obtain ⟨m', i1, ⟨x, i2⟩, i3⟩ := key n 0 m0 (by omega) (by show m0 77 = upd b 5 (b 5); rw [upd_self]; exact h77) E76.rfl
      unfold r_times_32
      have := i1 FU (by show n < 4000; omega)
      rw [nI_0] at this
      rw [show ((0 : Int32), (0 : Int32), m0) = ((timesF rs b z 0).1, (0 : Int32), m0) from rfl, this]
      simp only [Option.bind_some]
      have hlay := lay_to (b := b) (m := m') (by rw [i3.r79]; exact h79) (fun j hj => by rw [i2, upd_off (by omega)])
      rw [hlay]
      exact ⟨_, rfl, EQ77.SQ (((show EQ77 m m0 by rw [hm0]; exact EQ77_sc sc_79).trans i3.EQ).trans EQ77_77) (by rw [mset_same, hb])⟩
    · rw [if_neg hz, if_neg hz, if_pos rfl]
      exact ⟨m, rfl, SQ.rfl⟩
  · rw [if_neg h, if_neg h, if_pos rfl]
    exact ⟨m, rfl, SQ.rfl⟩
theorem go_score {rs : List Rl} {b : Nat → Int32} {a : Nat} : goB rs a b 2 = b 2 + goW rs a b := by
  have e : (preB rs a b).2 2 = b 2 := preB_off (by decide) (by decide)
  unfold goB goW passB
  rw [upd_at, e]
