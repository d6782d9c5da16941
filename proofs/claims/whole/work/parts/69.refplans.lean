/-! the reference's rows of acts -/
theorem inS_heard {b : Nat → Int32} (hW : WF b) {k : Nat} : inS (heardN b) k = true ↔ k < manyB b ∧ hN b k = 1 := by
  have h6 := hW.manyN.2
  have h64 := hW.heard64
  rw [inS_mod, decide_eq_true_eq]
  by_cases hk : k < 6
  · rw [hW.bitN hk]
    constructor
    · intro h
      refine ⟨?_, h⟩
      by_cases e : k < manyB b
      · exact e
      · have h0 := hW.over k (by unfold manyB at e; omega) hk
        unfold hN at h
        rw [h0] at h
        exact absurd h (by decide)
    · exact fun h => h.2
  · have h2 : 2 ^ 6 ≤ 2 ^ k := Nat.pow_le_pow_right (by decide) (by omega)
    rw [Nat.div_eq_of_lt (by omega)]
    constructor
    · intro h; exact absurd h (by decide)
    · intro h; omega
theorem r_those_eq {m : M} {b : Nat → Int32} (hW : WF b) (hb : m 77 = b) : r_those 4 m = some (nI (heardN b)) := by
  obtain ⟨h1, h2⟩ := hW.manyN
  unfold r_those r_those_4
  rw [show ((0 : Int32), (0 : Int32)) = (nI 0, (0 : Int32)) from rfl, loop_set (body := fun z : Int32 × Int32 => r_those_4b 4 z.1 z.2 m) (g := fun r s => if decide (hN b r = 1) then s ||| 2 ^ r else s) (fin := fun s => nI s) (s := 0) (manyB b) (by decide) (fun r x hr hx => by
    show (if decide (hN b r = 1) then x ||| 2 ^ r else x) < 64
    split
    · exact or_lt64 hx (by omega)
    · exact hx) (fun r x hr hx => by
    show r_those_4b 4 (nI x) (nI r) m = _
    unfold r_those_4b r_those_32
    rw [rd77_6, hb, h1]
    simp only [Option.bind_some]
    rw [if_neg (nI_ge hr (by omega)), show r_get (nI r) (4 : Int32) m = some (m 77 (37 + 5 * r + 4)) from r_get_at (f := 4) (by omega) (by decide), hb]
    simp only [Option.bind_some]
    rw [ltE, ltE, ltE, ltE, nI_1, or_dec x hx r (by omega)]
    obtain ⟨e1, e2⟩ := hW.hNk (k := r) (by omega)
    rw [e1]
    rcases (show hN b r = 0 ∨ hN b r = 1 by omega) with e | e
    · rw [e, if_pos (by decide), show nI x ||| (0 : Int32) = nI x from Int32.or_zero]; rfl
    · rw [e, if_neg (by decide)]; rfl) (fun x _ => by
    show r_those_4b 4 (nI x) (nI (manyB b)) m = _
    unfold r_those_4b
    rw [rd77_6, hb, h1]
    simp only [Option.bind_some]
    rw [if_pos (Int32.le_refl _)]) (by omega)]
  show some (nI (setN (fun r => decide (hN b r = 1)) (manyB b))) = _
  have : setN (fun r => decide (hN b r = 1)) (manyB b) = heardN b := by
    apply Nat.eq_of_testBit_eq
    intro j
    show inS _ j = inS _ j
    apply Bool.eq_iff_iff.mpr
    rw [inS_setN, inS_heard hW, decide_eq_true_eq]
  rw [this]
def subB (w : Nat) (b : Nat → Int32) : Prop := heardN b &&& w = w
theorem sub_dec : ∀ h, h < 64 → ∀ w, w < 64 → ((nI h &&& nI w) = nI w ↔ h &&& w = w) ∧ ((nI w &&& (nI h ^^^ -1)) = 0 ↔ h &&& w = w) := by decide +kernel
def fewN (rs : List Rl) (w : Nat) : Nat → (Nat → Int32) → Nat
  | 0, b => if heardN b &&& w = w then 0 else 99
  | d + 1, b => foldN (fun a x => min x (fewN rs w d (goB rs a b) + if a = 0 then 0 else 1)) (manyB b + 1) 99
def hrdU (rs : List Rl) : Nat → (Nat → Int32) → Nat
  | 0, b => heardN b
  | d + 1, b => foldN (fun a x => x ||| hrdU rs d (goB rs a b)) (manyB b + 1) 0
theorem fewN_le {rs : List Rl} {w : Nat} {d : Nat} {b : Nat → Int32} : fewN rs w d b ≤ 99 := by
  cases d with
  | zero => unfold fewN; split <;> omega
  | succ d => exact foldN_inv (fun x => x ≤ 99) (Nat.le_refl _) (fun a x _ hx => by
      show min x _ ≤ 99
      omega)
theorem hrdU_lt {rs : List Rl} : ∀ (d : Nat) {b : Nat → Int32}, WF b → d ≤ leftB b → hrdU rs d b < 64
  | 0, b, h, _ => h.heard64
  | d + 1, b, h, hd => foldN_inv (fun x => x < 64) (by decide) (fun a x ha hx => or64 hx (hrdU_lt d (h.go (over0 h (by omega)) rs (show a ≤ manyB b by omega)) (by have := left_go (rs := rs) h (by omega) (show a ≤ manyB b by omega); omega)))
theorem fold_min {e : Nat → Nat} {c F k : Nat} (h : F ≤ c + 99) : foldN (fun a x => min x (c + e a)) k F = min F (c + foldN (fun a x => min x (e a)) k 99) := by
  induction k with
  | zero => show F = min F (c + 99); omega
  | succ k ih =>
    show min (foldN (fun a x => min x (c + e a)) k F) (c + e k) = min F (c + min (foldN (fun a x => min x (e a)) k 99) (e k))
    rw [ih]
    omega
theorem fold_or {h : Nat → Nat} {U k : Nat} : foldN (fun a x => x ||| h a) k U = U ||| foldN (fun a x => x ||| h a) k 0 := by
  induction k with
  | zero => show U = U ||| 0; rw [Nat.or_zero]
  | succ k ih =>
    show foldN (fun a x => x ||| h a) k U ||| h k = U ||| (foldN (fun a x => x ||| h a) k 0 ||| h k)
    rw [ih, Nat.or_assoc]
/-- what the search has found so far -/
def RS (m : M) (D : Nat) (S : T3) (F U : Nat) : Prop := m 76 20 = nI S.1 - 1 ∧ m 76 21 = nI S.2.1 ∧ m 76 22 = nI F ∧ m 76 23 = nI U ∧ (0 < S.1 → ∀ i, i < D → m 87 i = nI (dg S.2.2 i))
/-- all but what the search writes from its place on -/
def EP (t : Nat) (m m' : M) : Prop := ∀ p k, p ≠ 80 → p ≠ 77 → ¬ (p = 76 ∧ (k = 16 ∨ (20 ≤ k ∧ k ≤ 23))) → ¬ (p = 85 ∧ 67 * t ≤ k) → ¬ (p = 86 ∧ t ≤ k) → p ≠ 87 → m' p k = m p k
theorem EP.rfl {t : Nat} {m : M} : EP t m m := fun _ _ _ _ _ _ _ _ => Eq.refl _
theorem EP.trans {t : Nat} {m m1 m2 : M} (h1 : EP t m m1) (h2 : EP t m1 m2) : EP t m m2 := fun p k a b c d e f => (h2 p k a b c d e f).trans (h1 p k a b c d e f)
theorem EP.mono {t : Nat} {m m' : M} (h : EP (t + 1) m m') : EP t m m' := fun p k a b c d e f => h p k a b c (fun q => d ⟨q.1, by omega⟩) (fun q => e ⟨q.1, by omega⟩) f
theorem E76.EP {t : Nat} {m m' : M} (h : E76 m m') : EP t m m' := fun p k a b c _ _ _ => h p k a b (fun q => c ⟨q.1, Or.inl q.2⟩)
theorem E76.RS {m m' : M} {D : Nat} {S : T3} {F U : Nat} (h : E76 m m') (hS : RS m D S F U) : RS m' D S F U := by
  have e : ∀ p k, p ≠ 80 → p ≠ 77 → ¬ (p = 76 ∧ k = 16) → m' p k = m p k := h
  obtain ⟨a, b, c, d, f⟩ := hS
  exact ⟨by rw [e 76 20 (by decide) (by decide) (by omega)]; exact a, by rw [e 76 21 (by decide) (by decide) (by omega)]; exact b, by rw [e 76 22 (by decide) (by decide) (by omega)]; exact c, by rw [e 76 23 (by decide) (by decide) (by omega)]; exact d, fun hp i hi => by rw [e 87 i (by decide) (by decide) (by omega)]; exact f hp i hi⟩
theorem RS.other {m : M} {D : Nat} {S : T3} {F U p : Nat} {f : Nat → Int32} (h : RS m D S F U) (h1 : p ≠ 76) (h2 : p ≠ 87) : RS (mset m p f) D S F U := by
  unfold RS at *
  rw [mset_ne (Ne.symm h1), mset_ne (Ne.symm h2)]
  exact h
theorem len86 : len 86 = 4 := by decide
theorem len87 : len 87 = 4 := by decide
theorem dg_pre : ∀ t, t < 4 → ∀ pre, pre < 8 ^ t → ∀ a, a < 7 → pre + a * 8 ^ t < 8 ^ (t + 1) ∧ (∀ i, i < t → dg (pre + a * 8 ^ t) i = dg pre i) ∧ dg (pre + a * 8 ^ t) t = a := by decide +kernel
theorem r_endsPlan_eq {m : M} {b : Nat → Int32} {D W c w pre : Nat} {S : T3} {F U : Nat} (hD : D ≤ 4) (hW : WF b) (hb : m 77 = b) (hw : w < 64) (hU : U < 64) (hF : F ≤ 5) (hc : c ≤ 10) (hWs : W ≤ 60) (hSb : S.1 ≤ 100) (hS0 : S.1 = 0 → S.2.1 = 0) (hpre : ∀ i, i < D → m 86 i = nI (dg pre i)) (hS : RS m D S F U) : ∃ m', r_endsPlan (nI D) (nI W) (nI c) (nI w) m = some m' ∧ m' 77 = b ∧ RS m' D (ab3 S (W + 1, 1, pre)) (min F (c + if heardN b &&& w = w then 0 else 99)) (U ||| heardN b) ∧ EP D m m' := by
  obtain ⟨s1, s2, s3⟩ := S
  obtain ⟨q1, q2, q3, q4, q5⟩ := hS
  simp only at q1 q2 q3 q4 q5 hSb hS0
  have h64 := hW.heard64
  have g : ∀ (mm : M) (k : Nat) (v : Int32) (j : Nat), (wrF mm 76 k v) 76 j = if j = k then v else mm 76 j := fun mm k v j => by
    unfold wrF
    rw [mset_same]
    by_cases e : j = k
    · subst e; rw [upd_at, if_pos rfl]
    · rw [upd_off e, if_neg e]
  have gn : ∀ (mm : M) (k : Nat) (v : Int32) (p : Nat), p ≠ 76 → (wrF mm 76 k v) p = mm p := fun mm k v p hp => mset_ne hp
  have hEPw : ∀ (mm : M) (k : Nat) (v : Int32), (20 ≤ k ∧ k ≤ 23) → EP D mm (wrF mm 76 k v) := fun mm k v hk p j _ _ hp _ _ _ => by
    by_cases e : p = 76
    · subst e
      rw [g, if_neg (fun q => hp ⟨rfl, Or.inr (by omega)⟩)]
    · rw [gn _ _ _ _ e]
  -- the end: ways + x, acts, heard
  have hend : ∀ (mm : M) (x : Int32) (S' : T3), mm 77 = b → mm 76 20 = nI S'.1 - 1 → mm 76 21 + x = nI S'.2.1 → mm 76 22 = nI F → mm 76 23 = nI U → (0 < S'.1 → ∀ i, i < D → mm 87 i = nI (dg S'.2.2 i)) → ∃ m', r_endsPlan_65 (nI c) (nI w) (mm 76 21) x mm = some m' ∧ m' 77 = b ∧ RS m' D S' (min F (c + if heardN b &&& w = w then 0 else 99)) (U ||| heardN b) ∧ EP D mm m' := fun mm x S' hb' e20 e21 e22 e23 e87 => by
    unfold r_endsPlan_65
    rw [ltE, r_those_eq hW (by rw [gn _ _ _ _ (by decide)]; exact hb'), e21]
    simp only [Option.bind_some]
    have h22 : (wrF mm 76 21 (nI S'.2.1)) 76 22 = nI F := by rw [g, if_neg (by decide)]; exact e22
    rw [h22]
    obtain ⟨z1, z2⟩ := sub_dec (heardN b) h64 w hw
    have hfin : ∀ (v : Nat), ∃ m', r_endsPlan_103 (nI (heardN b)) (nI v) (wrF mm 76 21 (nI S'.2.1)) = some m' ∧ m' 77 = b ∧ RS m' D S' v (U ||| heardN b) ∧ EP D mm m' := fun v => by
      unfold r_endsPlan_103
      rw [ltE, ltE]
      refine ⟨_, rfl, ?_, ⟨?_, ?_, ?_, ?_, ?_⟩, ((hEPw _ _ _ (by omega)).trans (hEPw _ _ _ (by omega))).trans (hEPw _ _ _ (by omega))⟩
      · rw [gn _ _ _ _ (by decide), gn _ _ _ _ (by decide), gn _ _ _ _ (by decide)]; exact hb'
      · rw [g, if_neg (by decide), g, if_neg (by decide), g, if_neg (by decide)]; exact e20
      · rw [g, if_neg (by decide), g, if_neg (by decide), g, if_pos rfl]
      · rw [g, if_neg (by decide), g, if_pos rfl]
      · rw [g, if_pos rfl, g, if_neg (by decide), g, if_neg (by decide), e23, or2_dec _ hU _ h64]
      · intro hp i hi
        rw [gn _ _ _ _ (by decide), gn _ _ _ _ (by decide), gn _ _ _ _ (by decide)]
        exact e87 hp i hi
    unfold r_endsPlan_99
    rw [h22]
    by_cases c1 : heardN b &&& w = w
    · rw [if_pos (z2.mpr c1), if_pos c1]
      by_cases c2 : F ≤ c
      · rw [if_pos ((nI_leI (by omega) (by omega)).mpr c2), show min F (c + 0) = F by omega]
        exact hfin F
      · rw [if_neg (fun q => c2 ((nI_leI (by omega) (by omega)).mp q)), show min F (c + 0) = c by omega]
        exact hfin c
    · rw [if_neg (fun q => c1 (z2.mp q)), if_neg c1, show min F (c + 99) = F by omega]
      exact hfin F
  obtain ⟨c1, c2⟩ := cmp_m1 (x := W + 1) (y := s1) (by omega) (by omega)
  rw [nI_pred] at c1 c2
  unfold r_endsPlan
  rw [q1]
  unfold ab3
  simp only
  by_cases h : W + 1 ≤ s1
  · rw [if_pos (c1.mpr h), if_pos h]
    unfold r_endsPlan_47
    rw [q1]
    by_cases e : W + 1 = s1
    · rw [if_pos (c2.mpr e), if_pos e]
      exact hend m 1 (s1, s2 + 1, s3) hb q1 (by rw [q2, nI_1]) q3 q4 q5
    · rw [if_neg (fun q => e (c2.mp q)), if_neg e]
      exact hend m 0 (s1, s2, s3) hb q1 (by rw [q2, Int32.add_zero]) q3 q4 q5
  · rw [if_neg (fun q => h (c1.mp q)), if_neg h, ltE, ltE]
    generalize hm2 : wrF (wrF m 76 21 0) 76 20 (nI W) = m2
    have hEP2 : EP D m m2 := by rw [← hm2]; exact (hEPw _ _ _ (by omega)).trans (hEPw _ _ _ (by omega))
    have a77 : m2 77 = b := by rw [← hm2, gn _ _ _ _ (by decide), gn _ _ _ _ (by decide)]; exact hb
    have a86 : ∀ i, i < D → m2 86 i = nI (dg pre i) := fun i hi => by rw [← hm2, gn _ _ _ _ (by decide), gn _ _ _ _ (by decide)]; exact hpre i hi
    have a20 : m2 76 20 = nI W := by rw [← hm2, g, if_pos rfl]
    have a21 : m2 76 21 = 0 := by rw [← hm2, g, if_neg (by decide), g, if_pos rfl]
    have a22 : m2 76 22 = nI F := by rw [← hm2, g, if_neg (by decide), g, if_neg (by decide)]; exact q3
    have a23 : m2 76 23 = nI U := by rw [← hm2, g, if_neg (by decide), g, if_neg (by decide)]; exact q4
    unfold r_endsPlan_21
    have hloop := iter_seq (body := fun z : Int32 × M => r_endsPlan_21b (nI D) (nI W) (nI c) (nI w) z.1 z.2) (fun i => (nI i, mset m2 87 (cpT i (m2 86) (m2 87)))) (r := mset m2 87 (cpT D (m2 86) (m2 87))) D (fun i hi => by
      show r_endsPlan_21b (nI D) (nI W) (nI c) (nI w) (nI i) (mset m2 87 (cpT i (m2 86) (m2 87))) = _
      unfold r_endsPlan_21b
      rw [if_neg (nI_ge hi (by omega)), rdI_at (show i < len 86 by rw [len86]; omega) (by decide), mset_ne (by decide), Option.bind_some, wrI_at (show i < len 87 by rw [len87]; omega) (by decide), Option.bind_some, ltE, nI_1, mset_mset, mset_same, cpT_step]) (by
      show r_endsPlan_21b (nI D) (nI W) (nI c) (nI w) (nI D) _ = _
      unfold r_endsPlan_21b
      rw [if_pos (Int32.le_refl _)]) (by omega)
    rw [show ((0 : Int32), m2) = (fun i => (nI i, mset m2 87 (cpT i (m2 86) (m2 87)))) 0 from by show _ = (nI 0, mset m2 87 (cpT 0 (m2 86) (m2 87))); rw [cpT_0, mset_self]; rfl, hloop]
    simp only [Option.bind_some]
    unfold r_endsPlan_47
    rw [mset_ne (show (76 : Nat) ≠ 87 by decide), a20, if_pos rfl]
    obtain ⟨m', e1, e2, e3, e4⟩ := hend (mset m2 87 (cpT D (m2 86) (m2 87))) 1 (W + 1, 1, pre) (by rw [mset_ne (by decide)]; exact a77) (by rw [mset_ne (by decide), a20, nI_pred]) (by rw [mset_ne (by decide), a21]; exact (show (0 : Int32) + 1 = nI 1 by decide)) (by rw [mset_ne (by decide)]; exact a22) (by rw [mset_ne (by decide)]; exact a23) (fun _ i hi => by
      rw [mset_same]
      unfold cpT
      rw [if_pos hi, a86 i hi])
    rw [mset_ne (show (76 : Nat) ≠ 87 by decide)] at e1
    exact ⟨m', e1, e2, e3, (hEP2.trans (fun p k _ _ _ _ _ h87 => by rw [mset_ne h87])).trans e4⟩
theorem sh3_sh3 {W g pre a q : Nat} {x : T3} : sh3 W pre q (sh3 g a 8 x) = sh3 (W + g) (pre + a * q) (q * 8) x := by
  unfold sh3
  simp only
  have e1 : x.1 + g + W = x.1 + (W + g) := by omega
  have e2 : pre + q * (a + 8 * x.2.2) = pre + a * q + q * 8 * x.2.2 := by rw [Nat.mul_add, Nat.mul_comm q a, Nat.mul_assoc, Nat.add_assoc]
  rw [e1, e2]
theorem r_plans_run {rs : List Rl} {w D : Nat} (hw : w < 64) (hD : D ≤ 4) : ∀ (d f t : Nat) {b : Nat → Int32} {m : M} {W c pre : Nat} {S : T3} {F U : Nat}, t + d = D → d < f → WF b → RR b rs → m 77 = b → d ≤ leftB b → pre < 8 ^ t → (∀ i, i < t → m 86 i = nI (dg pre i)) → RS m D S F U → F ≤ 5 → U < 64 → W ≤ 11 * t → c ≤ t → S.1 ≤ 100 → (S.1 = 0 → S.2.1 = 0) → ∃ m', r_goesPlans_d f (nI t) (nI D) (nI W) (nI c) (nI w) m = some m' ∧ m' 77 = b ∧ RS m' D (ab3 S (sh3 W pre (8 ^ t) (PL rs d b))) (min F (c + fewN rs w d b)) (U ||| hrdU rs d b) ∧ EP t m m' := by
  intro d
  induction d with
  | zero =>
    intro f t b m W c pre S F U ht hf hW hR hb hl hpre h86 hS hF hU hWs hc hSb hS0
    obtain ⟨f', rfl⟩ : ∃ f', f = f' + 1 := ⟨f - 1, by omega⟩
    have htD : t = D := by omega
    subst htD
    obtain ⟨m', e1, e2, e3, e4⟩ := r_endsPlan_eq (c := c) (w := w) (W := W) hD hW hb hw hU hF (by omega) (by omega) hSb hS0 h86 hS
    refine ⟨m', ?_, e2, ?_, e4⟩
    · show r_goesPlans (r_goesPlans_d f') (nI t) (nI t) (nI W) (nI c) (nI w) m = _
      unfold r_goesPlans
      rw [if_pos rfl, e1]; rfl
    · have : sh3 W pre (8 ^ t) (PL rs 0 b) = (W + 1, 1, pre) := by
        show ((1 : Nat) + W, 1, pre + 8 ^ t * 0) = _
        rw [Nat.mul_zero, Nat.add_zero, Nat.add_comm]
      rw [this]
      exact e3
  | succ d ih =>
    intro f t b m W c pre S F U ht hf hW hR hb hl hpre h86 hS hF hU hWs hc hSb hS0
    obtain ⟨f', rfl⟩ : ∃ f', f = f' + 1 := ⟨f - 1, by omega⟩
    obtain ⟨h1, h2⟩ := hW.manyN
    have hl0 : 0 < leftB b := by omega
    have hg8 : 8 ^ (t + 1) = 8 ^ t * 8 := Nat.pow_succ ..
    generalize hcand : (fun a => sh3 (W + goN rs a b) (pre + a * 8 ^ t) (8 ^ (t + 1)) (PL rs d (goB rs a b))) = cand
    have hcb : ∀ a, a ≤ manyB b → 1 ≤ (cand a).1 ∧ (cand a).1 ≤ 100 ∧ 1 ≤ (cand a).2.1 := fun a ha => by
      rw [← hcand]
      have hWa := hW.go (over0 hW hl0) rs ha
      have hlg := left_go (rs := rs) hW hl0 ha
      have hpb := PL_bd (rs := rs) d hWa (by omega)
      have hg := (goN_eq (rs := rs) hW ha).2
      show 1 ≤ (PL rs d (goB rs a b)).1 + (W + goN rs a b) ∧ (PL rs d (goB rs a b)).1 + (W + goN rs a b) ≤ 100 ∧ 1 ≤ (PL rs d (goB rs a b)).2.1
      have := hpb.1
      have := hpb.2.1
      have := hpb.2.2.1
      exact ⟨by omega, by omega, by omega⟩
    have hSa : ∀ a, a ≤ manyB b + 1 → (foldN (fun a z => ab3 z (cand a)) a S).1 ≤ 100 ∧ ((foldN (fun a z => ab3 z (cand a)) a S).1 = 0 → (foldN (fun a z => ab3 z (cand a)) a S).2.1 = 0) := fun a ha => foldN_inv (fun z : T3 => z.1 ≤ 100 ∧ (z.1 = 0 → z.2.1 = 0)) ⟨hSb, hS0⟩ (fun i z hi hz => by
      obtain ⟨y1, y2, y3⟩ := hcb i (by omega)
      show (ab3 z (cand i)).1 ≤ 100 ∧ ((ab3 z (cand i)).1 = 0 → (ab3 z (cand i)).2.1 = 0)
      unfold ab3
      by_cases q : (cand i).1 ≤ z.1
      · rw [if_pos q]
        exact ⟨hz.1, fun e => by have e' : z.1 = 0 := e; omega⟩
      · rw [if_neg q]
        exact ⟨y2, fun e => by omega⟩)
    have hFa : ∀ a, foldN (fun a x => min x (c + (fewN rs w d (goB rs a b) + if a = 0 then 0 else 1))) a F ≤ 5 := fun a => foldN_inv (fun x => x ≤ 5) hF (fun i x _ hx => by
      show min x _ ≤ 5
      omega)
    have hUa : ∀ a, a ≤ manyB b + 1 → foldN (fun a x => x ||| hrdU rs d (goB rs a b)) a U < 64 := fun a ha => foldN_inv (fun x => x < 64) hU (fun i x hi hx => or64 hx (hrdU_lt d (hW.go (over0 hW hl0) rs (show i ≤ manyB b by omega)) (by have := left_go (rs := rs) hW hl0 (show i ≤ manyB b by omega); omega)))
    have key : ∀ (e a : Nat) (mi : M), a + e = manyB b + 1 → mi 77 = b → (∀ j, j < 67 → mi 85 (67 * t + j) = b j) → (∀ i, i < t → mi 86 i = nI (dg pre i)) → RS mi D (foldN (fun a z => ab3 z (cand a)) a S) (foldN (fun a x => min x (c + (fewN rs w d (goB rs a b) + if a = 0 then 0 else 1))) a F) (foldN (fun a x => x ||| hrdU rs d (goB rs a b)) a U) → ∃ m', (∀ FF, e < FF → iter (fun z : Int32 × M => r_goesPlans_24b (r_goesPlans_d f') (nI t) (nI D) (nI W) (nI c) (nI w) z.1 z.2) FF (nI a, mi) = some m') ∧ m' 77 = b ∧ RS m' D (foldN (fun a z => ab3 z (cand a)) (manyB b + 1) S) (foldN (fun a x => min x (c + (fewN rs w d (goB rs a b) + if a = 0 then 0 else 1))) (manyB b + 1) F) (foldN (fun a x => x ||| hrdU rs d (goB rs a b)) (manyB b + 1) U) ∧ EP t mi m' := by
      intro e
      induction e with
      | zero =>
        intro a mi ha hbi _ _ hSi
        have hae : a = manyB b + 1 := by omega
        subst hae
        refine ⟨mi, fun FF hF => ?_, hbi, hSi, EP.rfl⟩
        obtain ⟨F', rfl⟩ : ∃ F', FF = F' + 1 := ⟨FF - 1, by omega⟩
        show (r_goesPlans_24b (r_goesPlans_d f') (nI t) (nI D) (nI W) (nI c) (nI w) (nI (manyB b + 1)) mi).bind _ = _
        unfold r_goesPlans_24b
        rw [rd77_6, hbi, h1]
        simp only [Option.bind_some]
        rw [if_pos ((nI_ltI (by omega) (by omega)).mpr (by omega))]; rfl
      | succ e ihe =>
        intro a mi ha hbi h85 h86i hSi
        have ham : a ≤ manyB b := by omega
        have hWa := hW.go (over0 hW hl0) rs ham
        have hlg := left_go (rs := rs) hW hl0 ham
        obtain ⟨gg1, gg2⟩ := goN_eq (rs := rs) hW ham
        obtain ⟨dp1, dp2, dp3⟩ := dg_pre t (by omega) pre hpre a (by omega)
        obtain ⟨m1, f1, f2, f3, -⟩ := r_goesBy_of (rs := rs) (m := mset mi 86 (upd (mi 86) t (nI a))) (b := b) (a := a) (by rw [mset_ne (by decide)]; exact hbi) hW hR ham
        have hRa := (NB_go (rs := rs) (b := b) (a := a) (by omega)).rr hR
        have h86' : ∀ i, i < t + 1 → m1 86 i = nI (dg (pre + a * 8 ^ t) i) := fun i hi => by
          rw [f3 86 i (by decide) (by decide) (by omega), mset_same]
          by_cases q : i = t
          · subst q; rw [upd_at, dp3]
          · rw [upd_off q, dp2 i (by omega)]; exact h86i i (by omega)
        have hS1 := f3.RS (hSi.other (p := 86) (f := upd (mi 86) t (nI a)) (by decide) (by decide))
        obtain ⟨m2, r1, r2, r3, r4⟩ := ih f' (t + 1) (b := goB rs a b) (m := m1) (W := W + goN rs a b) (c := c + if a = 0 then 0 else 1) (pre := pre + a * 8 ^ t) (by omega) (by omega) hWa hRa f2 (by omega) dp1 h86' hS1 (hFa a) (hUa a (by omega)) (by omega) (by split <;> omega) (hSa a (by omega)).1 (hSa a (by omega)).2
        have h85b : ∀ j, j < 67 → m2 85 (67 * t + j) = b j := fun j hj => by
          rw [r4 85 _ (by decide) (by decide) (by omega) (by omega) (by omega) (by decide), f3 85 _ (by decide) (by decide) (by omega), mset_ne (by decide)]
          exact h85 j hj
        have hback : cpT 67 (fun j => m2 85 (67 * t + j)) (m2 77) = b := cpT_back h85b (fun j hj => by rw [r2]; exact (NB_go (rs := rs) (b := b) (a := a) (by omega)).hi j hj)
        have hr := r_restores_eq (m := m2) (a := t) (by omega)
        rw [hback] at hr
        have hEP1 : EP t mi m1 := fun p k x1 x2 x3 x4 x5 x6 => by
          rw [f3 p k x1 x2 (fun q => x3 ⟨q.1, Or.inl q.2⟩)]
          by_cases q : p = 86
          · subst q
            rw [mset_same, upd_off (fun q => x5 ⟨rfl, by omega⟩)]
          · rw [mset_ne q]
        have hEP3 : EP t m2 (mset m2 77 b) := fun p k _ x2 _ _ _ _ => by rw [mset_ne x2]
        have hEP : EP t mi (mset m2 77 b) := (hEP1.trans r4.mono).trans hEP3
        have r3' := r3.other (p := 77) (f := b) (by decide) (by decide)
        have eF : min (foldN (fun a x => min x (c + (fewN rs w d (goB rs a b) + if a = 0 then 0 else 1))) a F) ((c + if a = 0 then 0 else 1) + fewN rs w d (goB rs a b)) = foldN (fun a x => min x (c + (fewN rs w d (goB rs a b) + if a = 0 then 0 else 1))) (a + 1) F := by
          show _ = min (foldN _ a F) (c + (fewN rs w d (goB rs a b) + if a = 0 then 0 else 1))
          congr 1
          omega
        have eS : ab3 (foldN (fun a z => ab3 z (cand a)) a S) (sh3 (W + goN rs a b) (pre + a * 8 ^ t) (8 ^ (t + 1)) (PL rs d (goB rs a b))) = foldN (fun a z => ab3 z (cand a)) (a + 1) S := by
          show _ = ab3 (foldN (fun a z => ab3 z (cand a)) a S) (cand a)
          rw [← hcand]
        rw [eF, eS] at r3'
        obtain ⟨m', i1, i2, i3, i4⟩ := ihe (a + 1) (mset m2 77 b) (by omega) mset_same (fun j hj => by rw [mset_ne (by decide)]; exact h85b j hj) (fun i hi => by rw [hEP 86 i (by decide) (by decide) (by omega) (by omega) (by omega) (by decide)]; exact h86i i hi) r3'
        refine ⟨m', fun FF hF => ?_, i2, i3, hEP.trans i4⟩
        obtain ⟨F', rfl⟩ : ∃ F', FF = F' + 1 := ⟨FF - 1, by omega⟩
        have hbody : r_goesPlans_24b (r_goesPlans_d f') (nI t) (nI D) (nI W) (nI c) (nI w) (nI a) mi = some (.inl (nI (a + 1), mset m2 77 b)) := by
          unfold r_goesPlans_24b
          rw [rd77_6, hbi, h1]
          simp only [Option.bind_some]
          rw [if_neg (fun q => by have := (nI_ltI (by omega) (by omega)).mp q; omega), wrI_at (show t < len 86 by rw [len86]; omega) (by decide)]
          simp only [Option.bind_some]
          rw [f1]
          simp only [Option.bind_some]
          unfold r_goesPlans_75
          rw [gg1, nI_add, nI_1, nI_1]
          by_cases q : a = 0
          · rw [if_pos q, show c + 0 = c from rfl] at r1
            rw [if_pos (by rw [q]; decide), r1]
            simp only [Option.bind_some]
            rw [hr]
            simp only [Option.bind_some]
            rw [ltE]
          · rw [if_neg q] at r1
            rw [if_neg (nI_nle (by omega) (by omega)), nI_1, r1]
            simp only [Option.bind_some]
            rw [hr]
            simp only [Option.bind_some]
            rw [ltE]
        show (r_goesPlans_24b (r_goesPlans_d f') (nI t) (nI D) (nI W) (nI c) (nI w) (nI a) mi).bind _ = _
        rw [hbody]
        exact i1 F' (by omega)
    obtain ⟨m', i1, i2, i3, i4⟩ := key (manyB b + 1) 0 (mset m 85 (cpO (67 * t) 67 (m 77) (m 85))) (by omega) (by rw [mset_ne (by decide)]; exact hb) (fun j hj => by
      rw [mset_same]
      unfold cpO
      rw [if_pos ⟨by omega, by omega⟩, hb, Nat.add_sub_cancel_left]) (fun i hi => by rw [mset_ne (by decide)]; exact h86 i hi) (hS.other (by decide) (by decide))
    have hEP0 : EP t m (mset m 85 (cpO (67 * t) 67 (m 77) (m 85))) := fun p k _ _ _ x4 _ _ => by
      by_cases q : p = 85
      · subst q
        rw [mset_same]
        unfold cpO
        rw [if_neg (fun q => x4 ⟨rfl, q.1⟩)]
      · rw [mset_ne q]
    refine ⟨m', ?_, i2, ?_, hEP0.trans i4⟩
    · show r_goesPlans (r_goesPlans_d f') (nI t) (nI D) (nI W) (nI c) (nI w) m = _
      unfold r_goesPlans
      rw [if_neg (fun q => by have := (nI_eq (by omega) (by omega)).mp q; omega), r_saves_eq (by omega)]
      simp only [Option.bind_some]
      unfold r_goesPlans_24
      have := i1 FU (by show manyB b + 1 < 4000; omega)
      rw [nI_0] at this
      rw [this]; rfl
    · have e1 : foldN (fun a z => ab3 z (cand a)) (manyB b + 1) S = ab3 S (sh3 W pre (8 ^ t) (PL rs (d + 1) b)) := by
        rw [fold_ab0 (by have := (hcb 0 (by omega)).1; omega)]
        congr 1
        rw [PL_succ, sh3_fold, foldN_shift, foldN_shift]
        have hc' : (fun a => sh3 W pre (8 ^ t) (sh3 (goN rs a b) a 8 (PL rs d (goB rs a b)))) = cand := by
          rw [← hcand, hg8]
          funext a
          exact sh3_sh3
        have hc0 := (hcb 0 (by omega)).1
        have hcf : ∀ a, sh3 W pre (8 ^ t) (sh3 (goN rs a b) a 8 (PL rs d (goB rs a b))) = cand a := fun a => congrFun hc' a
        simp only [hcf]
        rw [ab3_0 (by omega)]
        congr 1
        unfold ab3
        have : ¬ (cand 0).1 ≤ (sh3 W pre (8 ^ t) (0, 0, 0)).1 := by
          rw [← hcf 0]
          have hpb := (PL_bd (rs := rs) d (hW.go (over0 hW hl0) rs (show 0 ≤ manyB b by omega)) (by have := left_go (rs := rs) hW hl0 (show 0 ≤ manyB b by omega); omega)).1
          show ¬ (PL rs d (goB rs 0 b)).1 + goN rs 0 b + W ≤ 0 + W
          omega
        rw [if_neg this]
      have e2 : foldN (fun a x => min x (c + (fewN rs w d (goB rs a b) + if a = 0 then 0 else 1))) (manyB b + 1) F = min F (c + fewN rs w (d + 1) b) := fold_min (by omega)
      have e3 : foldN (fun a x => x ||| hrdU rs d (goB rs a b)) (manyB b + 1) U = U ||| hrdU rs (d + 1) b := fold_or
      rw [e1, e2, e3] at i3
      exact i3
theorem r_daysOf_eq {m : M} {b : Nat → Int32} (hW : WF b) (hb : m 77 = b) {n : Nat} (hn : n ≤ 4) : r_daysOf (nI n) m = some (nI (min n (leftB b))) := by
  have h1 := hW.nightN
  have h2 := hW.endN
  have h3 := hW.nle
  have h16 := hW.left16
  unfold r_daysOf r_daysOf_24
  rw [isOverR hb hW, rd77_1, rd77_0, hb, h1.1, h2.1]
  simp only [Option.bind_some]
  by_cases e : leftB b = 0
  · rw [if_pos e, if_neg (by decide), if_pos (nI_pos' (by omega)), e, Nat.min_zero]; rfl
  · rw [if_neg e, if_pos rfl, pk_sub h3]
    show (if nI (leftB b) ≤ nI n then some (nI (leftB b)) else some (nI n)) = _
    by_cases c : leftB b ≤ n
    · rw [if_pos ((nI_leI (by omega) (by omega)).mpr c), Nat.min_eq_right c]
    · rw [if_neg (fun q => c ((nI_leI (by omega) (by omega)).mp q)), Nat.min_eq_left (by omega)]
theorem EP.SQ {m m' : M} (h : EP 0 m m') (h7 : m' 77 = m 77) : SQ m m' := fun p k hs => by
  by_cases e : p = 77
  · subst e; rw [h7]
  · refine h p k (fun q => by subst q; simp [sc] at hs) e (fun q => ?_) (fun q => by obtain ⟨q, _⟩ := q; subst q; simp [sc] at hs) (fun q => by obtain ⟨q, _⟩ := q; subst q; simp [sc] at hs) (fun q => by subst q; simp [sc] at hs)
    obtain ⟨q1, q2⟩ := q
    subst q1
    rcases q2 with q2 | ⟨q2, q3⟩
    · subst q2; revert hs; decide
    · rcases (show k = 20 ∨ k = 21 ∨ k = 22 ∨ k = 23 by omega) with e | e | e | e <;> subst e <;> revert hs <;> decide
theorem r_triesAll_eq {m : M} {b : Nat → Int32} {rs : List Rl} {n w : Nat} (hW : WF b) (hR : RR b rs) (hb : m 77 = b) (hn : n ≤ 4) (hw : w < 64) : ∃ m', r_triesAll (nI n) (nI w) m = some m' ∧ m' 77 = b ∧ SQ m m' ∧ m' 76 20 = nI ((PL rs (min n (leftB b)) b).1 - 1) ∧ m' 76 21 = nI (PL rs (min n (leftB b)) b).2.1 ∧ m' 76 22 = nI (min 5 (fewN rs w (min n (leftB b)) b)) ∧ m' 76 23 = nI (hrdU rs (min n (leftB b)) b) ∧ (∀ i, i < min n (leftB b) → m' 87 i = nI (dg (PL rs (min n (leftB b)) b).2.2 i)) := by
  generalize hDD : min n (leftB b) = D
  have hD4 : D ≤ 4 := by omega
  have hDl : D ≤ leftB b := by omega
  obtain ⟨m4, hm4⟩ : ∃ m4, m4 = wrF (wrF (wrF (wrF m 76 20 (-1)) 76 21 0) 76 22 5) 76 23 0 := ⟨_, rfl⟩
  have g : ∀ (mm : M) (k : Nat) (v : Int32) (j : Nat), (wrF mm 76 k v) 76 j = if j = k then v else mm 76 j := fun mm k v j => by
    unfold wrF
    rw [mset_same]
    by_cases e : j = k
    · subst e; rw [upd_at, if_pos rfl]
    · rw [upd_off e, if_neg e]
  have hb4 : m4 77 = b := by rw [hm4, wrF_77, wrF_77, wrF_77, wrF_77]; exact hb
  have hS4 : SQ m m4 := by rw [hm4]; exact (((SQ_wrF (by decide)).trans (SQ_wrF (by decide))).trans (SQ_wrF (by decide))).trans (SQ_wrF (by decide))
  have hRS : RS m4 D (0, 0, 0) 5 0 := by
    rw [hm4]
    refine ⟨?_, ?_, ?_, ?_, fun h => absurd h (by decide)⟩
    · rw [g, if_neg (by decide), g, if_neg (by decide), g, if_neg (by decide), g, if_pos rfl]; decide
    · rw [g, if_neg (by decide), g, if_neg (by decide), g, if_pos rfl]; decide
    · rw [g, if_neg (by decide), g, if_pos rfl]; decide
    · rw [g, if_pos rfl]; decide
  obtain ⟨m', r1, r2, r3, r4⟩ := r_plans_run (rs := rs) hw hD4 D 8 0 (m := m4) (W := 0) (c := 0) (pre := 0) (by omega) (by omega) hW hR hb4 hDl (by decide) (fun i hi => by omega) hRS (by decide) (by decide) (by decide) (by decide) (by decide) (fun _ => rfl)
  have hpb := PL_bd (rs := rs) D hW hDl
  have hx : ab3 (0, 0, 0) (sh3 0 0 (8 ^ 0) (PL rs D b)) = PL rs D b := by
    have : sh3 0 0 (8 ^ 0) (PL rs D b) = PL rs D b := by
      unfold sh3
      rw [Nat.add_zero, Nat.zero_add, Nat.pow_zero, Nat.one_mul]
    rw [this, ab3_0 hpb.1]
  rw [hx] at r3
  obtain ⟨s1, s2, s3, s4, s5⟩ := r3
  refine ⟨m', ?_, r2, hS4.trans (r4.SQ (by rw [r2, hb4])), ?_, s2, ?_, ?_, s5 hpb.1⟩
  · unfold r_triesAll
    rw [ltE, ltE, ltE, ltE, ← hm4, r_daysOf_eq hW hb4 hn, hDD]
    simp only [Option.bind_some]
    rw [show r_goesPlans_d 8 0 (nI D) 0 0 (nI w) m4 = r_goesPlans_d 8 (nI 0) (nI D) (nI 0) (nI 0) (nI w) m4 from rfl, r1]
    rfl
  · rw [s1]
    have := hpb.1
    rw [show (PL rs D b).1 = ((PL rs D b).1 - 1) + 1 by omega, nI_pred]
    rfl
  · rw [s3, Nat.zero_add]
  · rw [s4, Nat.zero_or]
