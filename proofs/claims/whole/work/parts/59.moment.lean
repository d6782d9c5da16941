/-! the class's moment and the reference's copies -/
theorem lN_tn {n : Nat} (h : n < 2 ^ 64) : (lN n).toBitVec.toNat = n := Nat.mod_eq_of_lt h
theorem lN_shl {n : Nat} (s : Int64) (k : Nat) (hs : (s.toBitVec.smod 64).toNat = k) (h : n * 2 ^ k < 2 ^ 64) : lN n <<< s = lN (n * 2 ^ k) := by
  apply Int64.toBitVec_inj.mp
  apply BitVec.eq_of_toNat_eq
  have hn : n < 2 ^ 64 := Nat.lt_of_le_of_lt (Nat.le_mul_of_pos_right n (Nat.two_pow_pos k)) h
  show ((lN n).toBitVec <<< (s.toBitVec.smod 64).toNat).toNat = _
  rw [hs, BitVec.toNat_shiftLeft, Nat.shiftLeft_eq, lN_tn hn, lN_tn h, Nat.mod_eq_of_lt h]
theorem lN_shr {n : Nat} (h : n < 2 ^ 63) (s : Int64) (k : Nat) (hs : (s.toBitVec.smod 64).toNat = k) : lN n >>> s = lN (n / 2 ^ k) := by
  apply Int64.toInt_inj.mp
  have h2 : n / 2 ^ k ≤ n := Nat.div_le_self _ _
  show ((lN n).toBitVec.sshiftRight (s.toBitVec.smod 64).toNat).toInt = _
  rw [hs, BitVec.toInt_sshiftRight]
  show (lN n).toInt >>> k = _
  rw [pk_lT h, pk_lT (by omega), Int.shiftRight_eq_div_pow]
  rfl
theorem lN_or (a b : Nat) : lN a ||| lN b = lN (a ||| b) := by
  apply Int64.toBitVec_inj.mp
  rw [Int64.toBitVec_or]
  exact (BitVec.ofNat_or).symm
theorem lN_orHi {a b : Nat} (k : Nat) (h : b < 2 ^ k) : lN (a * 2 ^ k) ||| lN b = lN (a * 2 ^ k + b) := by
  rw [lN_or, Nat.mul_comm a, Nat.two_pow_add_eq_or_of_lt h]
theorem lN_orLo {a b : Nat} (k : Nat) (h : b < 2 ^ k) : lN b ||| lN (a * 2 ^ k) = lN (a * 2 ^ k + b) := by
  rw [lN_or, Nat.or_comm, Nat.mul_comm a, Nat.two_pow_add_eq_or_of_lt h]
theorem lN_low {n : Nat} {mk : Int32} (k : Nat) (hk : k ≤ 32) (hm : mk.toBitVec.toNat = 2 ^ k - 1) : (lN n).toInt32 &&& mk = nI (n % 2 ^ k) := by
  rw [lN_i, pk_and _ k hm]
  congr 1
  show n % 2 ^ 32 % 2 ^ k = _
  exact Nat.mod_mod_of_dvd _ (Nat.pow_dvd_pow 2 hk)
def vN (b : Nat → Int32) (k : Nat) : Nat := (b (37 + 5 * k + 1)).toNatClampNeg
def lightN (b : Nat → Int32) : Nat := (b 3).toNatClampNeg
def fundN (b : Nat → Int32) : Nat := (b 4).toNatClampNeg
theorem WF.vN {b} (h : WF b) {k : Nat} (hk : k < 6) : b (37 + 5 * k + 1) = nI (vN b k) ∧ vN b k ≤ 9 := by
  obtain ⟨j, h1, h2⟩ := h.votes hk
  unfold Jvm.Pilot.CWreckBoardLaw_law_r7498_c7a78c.vN
  rw [h2, nI_clamp (by omega)]
  exact ⟨rfl, h1⟩
theorem WF.lightN {b} (h : WF b) : b 3 = nI (lightN b) ∧ lightN b ≤ 9 := by
  obtain ⟨j, h1, h2⟩ := h.light
  unfold Jvm.Pilot.CWreckBoardLaw_law_r7498_c7a78c.lightN
  rw [h2, nI_clamp (by omega)]
  exact ⟨rfl, h1⟩
theorem WF.fundN {b} (h : WF b) : b 4 = nI (fundN b) ∧ fundN b ≤ 999 := by
  obtain ⟨j, h1, h2⟩ := h.fund
  unfold Jvm.Pilot.CWreckBoardLaw_law_r7498_c7a78c.fundN
  rw [h2, nI_clamp (by omega)]
  exact ⟨rfl, h1⟩
def mom0 (b : Nat → Int32) : Nat := heardN b * 2 ^ 19 + (fundN b * 2 ^ 9 + (lightN b * 2 ^ 5 + nightB b))
def momP (b : Nat → Int32) : Nat → Nat
  | 0 => mom0 b
  | k + 1 => vN b k * 2 ^ (25 + 4 * k) + momP b k
def momN (b : Nat → Int32) : Nat := momP b 6
theorem mom0_lt {b} (h : WF b) : mom0 b < 2 ^ 25 := by
  have h1 := h.heard64
  have h2 := h.fundN.2
  have h3 := h.lightN.2
  have h4 := h.nightN.2
  unfold mom0
  omega
theorem momP_lt {b} (h : WF b) : ∀ k, k ≤ 6 → momP b k < 2 ^ (25 + 4 * k)
  | 0, _ => mom0_lt h
  | k + 1, hk => by
    have h1 := momP_lt h k (by omega)
    have h2 := (h.vN (k := k) (by omega)).2
    unfold momP
    have h3 : vN b k * 2 ^ (25 + 4 * k) ≤ 9 * 2 ^ (25 + 4 * k) := Nat.mul_le_mul_right _ h2
    have h4 : 2 ^ (25 + 4 * (k + 1)) = 16 * 2 ^ (25 + 4 * k) := by rw [show 25 + 4 * (k + 1) = 4 + (25 + 4 * k) by omega, Nat.pow_add]
    omega
theorem sh_dec : ∀ k, k < 6 → ((Int32.toInt64 (nI (25 + 4 * k)) &&& 63).toBitVec.smod 64).toNat = 25 + 4 * k := by decide +kernel
theorem b_moment_eq {m : M} {b : Nat → Int32} (hK : KB m b) (hW : WF b) : b_moment m = some (lN (momN b)) := by
  have h1 := hW.heard64
  obtain ⟨f1, f2⟩ := hW.fundN
  obtain ⟨l1, l2⟩ := hW.lightN
  obtain ⟨t1, t2⟩ := hW.nightN
  unfold b_moment
  rw [ltE, hK.f7, hK.f3, hK.f2, hK.f0, f1, l1, t1, nI_l (by omega), nI_l (by omega), nI_l (by omega), nI_l (by omega)]
  rw [lN_shl (n := heardN b) (Int32.toInt64 19 &&& 63) 19 (by decide +kernel) (by omega), lN_shl (n := fundN b) (Int32.toInt64 9 &&& 63) 9 (by decide +kernel) (by omega), lN_shl (n := lightN b) (Int32.toInt64 5 &&& 63) 5 (by decide +kernel) (by omega)]
  have e0 : lN (heardN b * 2 ^ 19) ||| lN (fundN b * 2 ^ 9) ||| lN (lightN b * 2 ^ 5) ||| lN (nightB b) = lN (momP b 0) := by
    rw [lN_orHi (a := heardN b) 19 (by omega)]
    rw [show heardN b * 2 ^ 19 + fundN b * 2 ^ 9 = (heardN b * 2 ^ 10 + fundN b) * 2 ^ 9 by omega, lN_orHi 9 (by omega)]
    rw [show (heardN b * 2 ^ 10 + fundN b) * 2 ^ 9 + lightN b * 2 ^ 5 = ((heardN b * 2 ^ 10 + fundN b) * 2 ^ 4 + lightN b) * 2 ^ 5 by omega, lN_orHi 5 (by omega)]
    congr 1
    show _ = mom0 b
    unfold mom0
    omega
  rw [e0]
  unfold b_moment_34
  have hloop := iter_seq (body := fun z : Int64 × Int32 => b_moment_34b z.1 z.2 m) (fun i => (lN (momP b i), nI i)) (r := lN (momP b 6)) 6 (fun i hi => by
    show b_moment_34b (lN (momP b i)) (nI i) m = _
    obtain ⟨v1, v2⟩ := hW.vN (k := i) hi
    have hp := momP_lt hW i (by omega)
    unfold b_moment_34b
    rw [n6, if_neg (nI_ge (b := 6) hi (by decide)), rd6 (by decide) hi, hK.votes hi, v1]
    simp only [Option.bind_some]
    rw [ltE, ltE, nI_1, show (25 : Int32) = nI 25 by decide, show (4 : Int32) = nI 4 by decide, pk_mul, nI_add, nI_l (by omega), lN_shl _ (25 + 4 * i) (sh_dec i hi) (by
      have h3 : vN b i * 2 ^ (25 + 4 * i) ≤ 9 * 2 ^ (25 + 4 * i) := Nat.mul_le_mul_right _ v2
      have h4 : 2 ^ (25 + 4 * i) ≤ 2 ^ 45 := Nat.pow_le_pow_right (by decide) (by omega)
      omega), lN_orLo _ hp]
    rfl) (by rfl) (by decide)
  rw [show (lN (momP b 0), (0 : Int32)) = (fun i => (lN (momP b i), nI i)) 0 from rfl, hloop]
  rfl
theorem mom_night {b} (h : WF b) : momN b % 2 ^ 5 = nightB b := by
  have h4 := h.nightN.2
  unfold momN momP momP momP momP momP momP momP mom0
  simp only [Nat.mul_zero, Nat.add_zero]
  omega
theorem mom_light {b} (h : WF b) : momN b / 2 ^ 5 % 2 ^ 4 = lightN b := by
  have h3 := h.lightN.2
  have h4 := h.nightN.2
  unfold momN momP momP momP momP momP momP momP mom0
  omega
theorem mom_fund {b} (h : WF b) : momN b / 2 ^ 9 % 2 ^ 10 = fundN b := by
  have h2 := h.fundN.2
  have h3 := h.lightN.2
  have h4 := h.nightN.2
  unfold momN momP momP momP momP momP momP momP mom0
  omega
theorem mom_heard {b} (h : WF b) : momN b / 2 ^ 19 % 2 ^ 6 = heardN b := by
  have h1 := h.heard64
  have h2 := h.fundN.2
  have h3 := h.lightN.2
  have h4 := h.nightN.2
  unfold momN momP momP momP momP momP momP momP mom0
  omega
theorem mom_votes {b} (h : WF b) {k : Nat} (hk : k < 6) : momN b / 2 ^ (25 + 4 * k) % 2 ^ 4 = vN b k := by
  have h0 := mom0_lt h
  have v0 := (h.vN (k := 0) (by decide)).2
  have v1 := (h.vN (k := 1) (by decide)).2
  have v2 := (h.vN (k := 2) (by decide)).2
  have v3 := (h.vN (k := 3) (by decide)).2
  have v4 := (h.vN (k := 4) (by decide)).2
  have v5 := (h.vN (k := 5) (by decide)).2
  unfold momN momP momP momP momP momP momP momP
  match k, hk with
  | 0, _ => omega
  | 1, _ => omega
  | 2, _ => omega
  | 3, _ => omega
  | 4, _ => omega
  | 5, _ => omega
  | k + 6, h => omega
theorem momN_lt {b} (h : WF b) : momN b < 2 ^ 63 := Nat.lt_of_lt_of_le (momP_lt h 6 (by decide)) (by decide)
def back11 (b : Nat → Int32) (f : Nat → Int32) (i : Nat) : Nat → Int32 := fun j => if j < i then b (37 + 5 * j + 1) else f j
theorem b_goBackTo_eq {m : M} {b b1 : Nat → Int32} (hW : WF b) (hK : KB m b1) (hn : NB b b1) : ∃ m', b_goBackTo (lN (momN b)) m = some m' ∧ KB m' b ∧ NQ m m' ∧ m' 1 8 = m 1 8 := by
  have hlt := momN_lt hW
  unfold b_goBackTo
  rw [ltE, ltE, ltE, ltE, lN_low 5 (by decide) (by decide), lN_shr hlt (Int32.toInt64 5 &&& 63) 5 (by decide +kernel), lN_low 4 (by decide) (by decide), lN_shr hlt (Int32.toInt64 9 &&& 63) 9 (by decide +kernel), lN_low 10 (by decide) (by decide), lN_shr hlt (Int32.toInt64 19 &&& 63) 19 (by decide +kernel), lN_low 6 (by decide) (by decide)]
  rw [mom_night hW, mom_light hW, mom_fund hW, mom_heard hW, ← hW.nightN.1, ← hW.lightN.1, ← hW.fundN.1]
  unfold b_goBackTo_47
  generalize hm4 : wrF (wrF (wrF (wrF m 1 0 (b 0)) 1 2 (b 3)) 1 3 (b 4)) 1 7 (nI (heardN b)) = m4
  have hloop := iter_seq (body := fun z : Int32 × M => b_goBackTo_47b (lN (momN b)) z.1 z.2) (fun i => (nI i, mset m4 11 (back11 b (m4 11) i))) (r := mset m4 11 (back11 b (m4 11) 6)) 6 (fun i hi => by
    show b_goBackTo_47b (lN (momN b)) (nI i) (mset m4 11 (back11 b (m4 11) i)) = _
    unfold b_goBackTo_47b
    rw [n6, if_neg (nI_ge (b := 6) hi (by decide)), show (25 : Int32) = nI 25 by decide, show (4 : Int32) = nI 4 by decide, pk_mul, nI_add, lN_shr hlt _ (25 + 4 * i) (sh_dec i hi), lN_low 4 (by decide) (by decide), mom_votes hW hi, ← (hW.vN hi).1, wrI_at (show i < len 11 from hi) (by decide)]
    simp only [Option.bind_some]
    rw [ltE, nI_1, mset_mset, mset_same]
    have : upd (back11 b (m4 11) i) i (b (37 + 5 * i + 1)) = back11 b (m4 11) (i + 1) := by
      funext j
      unfold back11
      by_cases e : j = i
      · subst e; rw [upd_at, if_pos (by omega)]
      · rw [upd_off e]
        by_cases e2 : j < i
        · rw [if_pos e2, if_pos (by omega)]
        · rw [if_neg e2, if_neg (by omega)]
    rw [this]) (by rfl) (by decide)
  have h0 : mset m4 11 (back11 b (m4 11) 0) = m4 := by
    have : back11 b (m4 11) 0 = m4 11 := funext fun j => if_neg (by omega)
    rw [this, mset_self]
  have h00 : ((0 : Int32), m4) = (fun i => (nI i, mset m4 11 (back11 b (m4 11) i))) 0 := by
    show _ = (nI 0, mset m4 11 (back11 b (m4 11) 0))
    rw [h0]; rfl
  rw [h00, hloop]
  have hq4 : NQ m m4 := by
    rw [← hm4]
    exact ((NQ_wr1 (by omega)).trans (NQ_wr1 (by omega))).trans ((NQ_wr1 (by omega)).trans (NQ_wr1 (by omega)))
  have c0 : m4 1 0 = b 0 := by rw [← hm4]; simp [wrF, mset, upd]
  have c2 : m4 1 2 = b 3 := by rw [← hm4]; simp [wrF, mset, upd]
  have c3 : m4 1 3 = b 4 := by rw [← hm4]; simp [wrF, mset, upd]
  have c7 : m4 1 7 = nI (heardN b) := by rw [← hm4]; simp [wrF, mset, upd]
  have c8 : m4 1 8 = m 1 8 := by rw [← hm4]; simp [wrF, mset, upd]
  have hrest : ∀ j, j ≠ 0 → j ≠ 2 → j ≠ 3 → j ≠ 4 → (∀ k, k < 6 → j ≠ 37 + 5 * k + 1 ∧ j ≠ 37 + 5 * k + 4) → b1 j = b j := hn
  refine ⟨_, rfl, KB_iff.mpr ⟨fun p c j hp => ?_, ?_⟩, hq4.trans fun p k _ h11 => ?_, ?_⟩
  · obtain ⟨g1, g7⟩ := KB_iff.mp hK
    by_cases e : p = 11
    · subst e
      rw [mset_same]
      have hc : c < 6 ∧ j = 37 + 5 * c + 1 := by unfold KBP at hp; omega
      obtain ⟨hc1, rfl⟩ := hc
      exact if_pos hc1
    · rw [mset_ne e]
      by_cases e1 : p = 1
      · subst e1
        have hcases : (c = 0 ∧ j = 0) ∨ (c = 1 ∧ j = 1) ∨ (c = 2 ∧ j = 3) ∨ (c = 3 ∧ j = 4) ∨ (c = 5 ∧ j = 5) ∨ (c = 6 ∧ j = 6) := by unfold KBP at hp; omega
        rcases hcases with ⟨rfl, rfl⟩ | ⟨rfl, rfl⟩ | ⟨rfl, rfl⟩ | ⟨rfl, rfl⟩ | ⟨rfl, rfl⟩ | ⟨rfl, rfl⟩
        · exact c0
        · rw [hq4 1 1 (by omega) (by omega), g1 1 1 1 hp]; exact hrest 1 (by decide) (by decide) (by decide) (by decide) (fun k hk => by omega)
        · exact c2
        · exact c3
        · rw [hq4 1 5 (by omega) (by omega), g1 1 5 5 hp]; exact hrest 5 (by decide) (by decide) (by decide) (by decide) (fun k hk => by omega)
        · rw [hq4 1 6 (by omega) (by omega), g1 1 6 6 hp]; exact hrest 6 (by decide) (by decide) (by decide) (by decide) (fun k hk => by omega)
      · rw [hq4 p c (fun q => e1 q.1) (fun q => e q.1), g1 p c j hp]
        refine hrest j ?_ ?_ ?_ ?_ ?_
        · unfold KBP at hp; omega
        · unfold KBP at hp; omega
        · unfold KBP at hp; omega
        · unfold KBP at hp; omega
        · intro k hk; unfold KBP at hp; omega
  · rw [mset_ne (by decide)]; exact c7
  · by_cases e : p = 11
    · subst e
      rw [mset_same]
      exact if_neg (fun q => h11 ⟨rfl, q⟩)
    · rw [mset_ne e]
  · rw [mset_ne (by decide)]; exact c8
theorem NQ.SQ {m0 m' : M} {b : Nat → Int32} (h : NQ m0 m') (h0 : KB m0 b) (h1 : KB m' b) : SQ m0 m' := by
  intro p k hk
  by_cases e1 : p = 1 ∧ (k = 0 ∨ k = 2 ∨ k = 3 ∨ k = 7 ∨ k = 8)
  · obtain ⟨rfl, e⟩ := e1
    rcases e with rfl | rfl | rfl | rfl | rfl
    · rw [h1.f0, h0.f0]
    · rw [h1.f2, h0.f2]
    · rw [h1.f3, h0.f3]
    · rw [h1.f7, h0.f7]
    · exact absurd hk (by decide)
  · by_cases e2 : p = 11 ∧ k < 6
    · obtain ⟨rfl, e⟩ := e2
      rw [h1.votes e, h0.votes e]
    · exact h p k e1 e2
