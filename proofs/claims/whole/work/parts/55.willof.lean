/-! the will on both sides -/
/-- the reference's rules in its row; the class's in its arrays -/
def RR (b : Nat → Int32) (rs : List Rl) : Prop := b 7 = nI rs.length ∧ RulesAt Rl.rc (fun r => b (91 + 3 * r + 0)) (fun r => b (91 + 3 * r + 1)) (fun r => b (91 + 3 * r + 2)) (fun j => b (115 + j)) rs
def KR (m : M) (rs : List Rl) : Prop := m 3 0 = nI rs.length ∧ RulesAt Rl.cc (m 26) (m 27) (m 28) (m 29) rs
theorem RulesAt.lt {g : Rl → List Nat} {kd wl en st : Nat → Int32} {rs : List Rl} (h : RulesAt g kd wl en st rs) {r : Nat} {x : Rl} (hx : rs[r]? = some x) : r < 8 := by
  have hlt : r < rs.length := by
    by_cases h2 : r < rs.length
    · exact h2
    · rw [List.getElem?_eq_none (by omega)] at hx; cases hx
  have := h.1
  omega
theorem b01_1 {x : Bool} : b01 x = 1 ↔ x = true := by cases x <;> decide
theorem r_holdsFor_eq {m : M} {b : Nat → Int32} {rs : List Rl} {r k : Nat} {x : Rl} (hb : m 77 = b) (hR : RR b rs) (hx : rs[r]? = some x) (hk : k < 6) : ∃ m', r_holdsFor (nI r) (nI k) m = some (b01 (x.holds (envB b k)), m') ∧ E80 m m' := by
  have hr := hR.2.lt hx
  obtain ⟨hc, he, hl⟩ := hR.2.code hx
  have hrow := hR.2.2.2.1 r x hx
  have hstart : r_holdsFor (nI r) (nI k) m = r_holdsFor_20 (nI r) (nI k) 0 (nI (off Rl.rc rs r)) m := by
    unfold r_holdsFor
    by_cases h0 : r = 0
    · subst h0
      rw [if_pos (by decide)]; rfl
    · rw [if_neg (nI_ne0 (by omega) (by omega))]
      obtain ⟨q, rfl⟩ : ∃ q, r = q + 1 := ⟨r - 1, by omega⟩
      rw [nI_pred, n2, r_ruleOf_at (by omega) (by decide), hb]
      have hq : q < rs.length := by
        by_cases h2 : q + 1 < rs.length
        · omega
        · rw [List.getElem?_eq_none (by omega)] at hx; cases hx
      have hp := hR.2.2.2.1 q rs[q] (List.getElem?_eq_getElem hq)
      have hp2 : b (91 + 3 * q + 2) = nI (off Rl.rc rs (q + 1)) := hp.2.2.1
      simp only [Option.bind_some]
      rw [hp2]; rfl
  rw [hstart]
  unfold r_holdsFor_20
  have hE2 : b (91 + 3 * r + 2) = nI (off Rl.rc rs (r + 1)) := hrow.2.2.1
  have hend : ∀ {d : Nat} {m' : M}, m' 77 = b → r_holdsFor_20b (nI r) (nI k) (nI d) (nI (off Rl.rc rs (r + 1))) m' = some (.inr (nI d, m')) := fun {d m'} h' => by
    unfold r_holdsFor_20b
    rw [n2, r_ruleOf_at hr (by decide), h', hE2]
    simp only [Option.bind_some]
    rw [if_pos ((nI_leI (by omega) (by omega)).mpr (Nat.le_refl _))]
  cases hcond : x.cond with
  | none =>
    have hcl : x.rc = [] := by unfold Rl.rc; rw [hcond]
    have hh : x.holds (envB b k) = true := by unfold Rl.holds; rw [hcond]
    rw [hcl] at he
    have he0 : off Rl.rc rs r = off Rl.rc rs (r + 1) := by simpa using he
    refine ⟨m, ?_, E80.rfl⟩
    rw [he0]
    have := (Run.nil (body := fun z : Int32 × Int32 × M => r_holdsFor_20b (nI r) (nI k) z.1 z.2.1 z.2.2) (nI 0, nI (off Rl.rc rs (r + 1)), m)).iter (r := (nI 0, m)) (hend hb) (F := FU) (by decide)
    rw [nI_0] at this
    rw [this, hh]
    rfl
  | some c =>
    have hcl : x.rc = c.rc := by unfold Rl.rc; rw [hcond]
    have hh : x.holds (envB b k) = c.ev (envB b k) := by unfold Rl.holds; rw [hcond]
    have hok := hrow.2.2.2.2.2 c hcond
    rw [hcl] at he hc
    obtain ⟨m', h1, h2, h3, -⟩ := ref_run (r := r) (k := k) hr hk hE2 hl c hok.1 (i := off Rl.rc rs r) (d := 0) (m := m) hb (by omega) hc (by have := hok.2; omega)
    refine ⟨m', ?_, h2⟩
    have hb' : m' 77 = b := (h2.r77).trans hb
    rw [he] at h1
    have := h1.iter (r := (nI 1, m')) (hend hb') (F := FU) (by
      have : c.rc.length ≤ 200 := by omega
      show c.rc.length < 4000
      omega)
    rw [nI_0] at this
    rw [this]
    simp only [Option.bind_some]
    rw [if_neg (by decide), show rdI m' 80 (0 : Int32) = some (m' 80 0) from rd80 (j := 0) (by decide)]
    simp only [Option.bind_some]
    rw [h3, hh]
    cases c.ev (envB b k)
    · rw [if_pos (by decide)]; rfl
    · rw [if_neg (by decide)]; rfl
theorem u_holds_eq {m : M} {b : Nat → Int32} {rs : List Rl} {r k : Nat} {x : Rl} (hK : KB m b) (hR : KR m rs) (hx : rs[r]? = some x) (hk : k < 6) : u_holds (nI r) (nI k) m = some (b01 (x.holds (envB b k))) := by
  have hr := hR.2.lt hx
  obtain ⟨hc, he, hl⟩ := hR.2.code hx
  have hrow := hR.2.2.2.1 r x hx
  have hE2 : m 28 r = nI (off Rl.cc rs (r + 1)) := hrow.2.2.1
  have hstart : u_holds (nI r) (nI k) m = u_holds_21 (nI r) (nI k) 1 (nI (off Rl.cc rs r)) m := by
    unfold u_holds
    by_cases h0 : r = 0
    · subst h0
      rw [if_pos (by decide)]; rfl
    · rw [if_neg (nI_nle (by omega) (by omega))]
      obtain ⟨q, rfl⟩ : ∃ q, r = q + 1 := ⟨r - 1, by omega⟩
      rw [nI_pred, rd28 (by omega)]
      have hq : q < rs.length := by
        by_cases h2 : q + 1 < rs.length
        · omega
        · rw [List.getElem?_eq_none (by omega)] at hx; cases hx
      have hp := hR.2.2.2.1 q rs[q] (List.getElem?_eq_getElem hq)
      simp only [Option.bind_some]
      rw [hp.2.2.1]; rfl
  rw [hstart]
  unfold u_holds_21
  have hend : ∀ {d : Int32}, u_holds_21b (nI r) (nI k) d (nI (off Rl.cc rs (r + 1))) m = some (.inr d) := fun {d} => by
    unfold u_holds_21b
    rw [rd28 hr, hE2]
    simp only [Option.bind_some]
    rw [if_pos ((nI_leI (by omega) (by omega)).mpr (Nat.le_refl _))]
  cases hcond : x.cond with
  | none =>
    have hcl : x.cc = [] := by unfold Rl.cc; rw [hcond]
    have hh : x.holds (envB b k) = true := by unfold Rl.holds; rw [hcond]
    rw [hcl] at he
    have he0 : off Rl.cc rs r = off Rl.cc rs (r + 1) := by simpa using he
    rw [he0]
    have := (Run.nil (body := fun z : Int32 × Int32 => u_holds_21b (nI r) (nI k) z.1 z.2 m) ((1 : Int32), nI (off Rl.cc rs (r + 1)))).iter (r := (1 : Int32)) hend (F := FU) (by decide)
    rw [this]
    simp only [Option.bind_some]
    rw [if_pos (by decide), hh]; rfl
  | some c =>
    have hcl : x.cc = c.cc := by unfold Rl.cc; rw [hcond]
    have hh : x.holds (envB b k) = c.ev (envB b k) := by unfold Rl.holds; rw [hcond]
    have hok := hrow.2.2.2.2.2 c hcond
    rw [hcl] at he hc
    obtain ⟨n, hn, h1⟩ := cls_run hK hr hk hE2 hl c hok.1 (i := off Rl.cc rs r) (t := 1) (by omega) hc (by
      have : 2 ^ c.dep ≤ 2 ^ 9 := Nat.pow_le_pow_right (by decide) hok.2
      omega)
    rw [he] at h1
    have := h1.iter (r := nI (2 * 1 + nb (c.ev (envB b k)))) hend (F := FU) (by
      have : c.cc.length ≤ 200 := by omega
      show n < 4000
      omega)
    rw [show nI 1 = (1 : Int32) from n1.symm] at this
    rw [this]
    simp only [Option.bind_some]
    rw [hh]
    by_cases hv : c.ev (envB b k) = true
    · rw [if_pos ((bq_low _).mpr hv), hv]; rfl
    · rw [if_neg (fun q => hv ((bq_low _).mp q)), Bool.eq_false_iff.mpr hv]; rfl
/-- a kind and those above it -/
def underN (j k : Nat) : Bool := k == j || k == 0 || (j == 3 && k == 2) || (j == 5 && k == 4)
theorem under_r : ∀ j, j < 6 → ∀ k, k < 6 → r_isUnder (nI j) (nI k) (fun _ _ => 0) = some (b01 (underN j k)) := by decide +kernel
theorem under_k : ∀ j, j < 6 → ∀ k, k < 6 → k_isKindOrUnder (nI j) (nI k) (fun _ _ => 0) = some (b01 (underN j k)) := by decide +kernel
theorem r_isUnder_eq {j k : Nat} (hj : j ≤ 5) (hk : k ≤ 5) {m : M} : r_isUnder (nI j) (nI k) m = some (b01 (underN j k)) := under_r j (by omega) k (by omega)
theorem k_isUnder_eq {j k : Nat} (hj : j ≤ 5) (hk : k ≤ 5) {m : M} : k_isKindOrUnder (nI j) (nI k) m = some (b01 (underN j k)) := under_k j (by omega) k (by omega)
def willR (e : EV) (kind : Nat) : List Rl → Nat
  | [] => 0
  | x :: xs => if underN kind x.kind && x.holds e then x.will else willR e kind xs
theorem willR_le {e : EV} {kind : Nat} : ∀ {rs : List Rl}, (∀ x, x ∈ rs → x.ok) → willR e kind rs ≤ 2
  | [], _ => by simp [willR]
  | x :: xs, h => by
    unfold willR
    split
    · exact (h x (List.mem_cons_self)).2.1
    · exact willR_le (fun y hy => h y (List.mem_cons_of_mem _ hy))
theorem RulesAt.okAll {g : Rl → List Nat} {kd wl en st : Nat → Int32} {rs : List Rl} (h : RulesAt g kd wl en st rs) : ∀ x, x ∈ rs → x.ok := by
  intro x hx
  obtain ⟨r, hr⟩ := List.getElem?_of_mem hx
  exact (h.2.2.1 r x hr).2.2.2
def kindN (b : Nat → Int32) (k : Nat) : Nat := (b (37 + 5 * k + 0)).toNatClampNeg
theorem WF.kindN {b} (h : WF b) {k : Nat} (hk : k < 6) : b (37 + 5 * k + 0) = nI (kindN b k) ∧ kindN b k ≤ 5 := by
  obtain ⟨j, h1, h2⟩ := h.kind hk
  unfold Jvm.Pilot.CWreckBoardLaw_law_r7498_c7a78c.kindN
  rw [h2, nI_clamp (by omega)]
  exact ⟨rfl, h1⟩
def willB (rs : List Rl) (b : Nat → Int32) (k : Nat) : Int32 := nI (willR (envB b k) (kindN b k) rs)
theorem r_willOf_eq {m : M} {b : Nat → Int32} {rs : List Rl} {k : Nat} (hb : m 77 = b) (hW : WF b) (hR : RR b rs) (hk : k < 6) : ∃ m', r_willOf (nI k) m = some (willB rs b k, m') ∧ E80 m m' := by
  obtain ⟨hk1, hk2⟩ := hW.kindN hk
  have key : ∀ (post pre : List Rl) (m : M), rs = pre ++ post → m 77 = b → ∃ m', E80 m m' ∧ ∃ z : M ⊕ (Int32 × M), (∀ F, post.length < F → iter (fun z : Int32 × M => r_willOf_2b (nI k) z.1 z.2) F (nI pre.length, m) = some z) ∧ (match z with
      | .inl r => some (0, r)
      | .inr r => Option.bind (r_ruleOf r.1 (1 : Int32) r.2) (fun v6 => some (v6, r.2))) = some (nI (willR (envB b k) (kindN b k) post), m') := by
    intro post
    induction post with
    | nil =>
      intro pre m hrs hb
      refine ⟨m, E80.rfl, .inl m, fun F hF => ?_, rfl⟩
      obtain ⟨F', rfl⟩ : ∃ F', F = F' + 1 := ⟨F - 1, by omega⟩
      show (r_willOf_2b (nI k) (nI pre.length) m).bind _ = _
      unfold r_willOf_2b
      rw [show (7 : Int32) = nI 7 by decide, rd77 (by decide), hb, hR.1]
      simp only [Option.bind_some]
      have hlen : rs.length = pre.length := by rw [hrs]; simp
      rw [if_pos (by rw [hlen]; exact Int32.le_refl _)]; rfl
    | cons x xs ih =>
      intro pre m hrs hb
      have hx : rs[pre.length]? = some x := by rw [hrs]; simp
      have hr8 := hR.2.lt hx
      have hrow : b (91 + 3 * pre.length + 0) = nI x.kind ∧ b (91 + 3 * pre.length + 1) = nI x.will ∧ b (91 + 3 * pre.length + 2) = nI (off Rl.rc rs (pre.length + 1)) ∧ x.ok := hR.2.2.2.1 _ x hx
      have hlen : pre.length < rs.length := by rw [hrs]; simp
      have hl8 := hR.2.1
      have hfirst : r_willOf_2b (nI k) (nI pre.length) m = (if b01 (underN (kindN b k) x.kind) = 0 then r_willOf_47 (nI k) (nI pre.length) m else Option.bind (r_holdsFor (nI pre.length) (nI k) m) (fun z5 => (if z5.1 = (0 : Int32) then r_willOf_47 (nI k) (nI pre.length) z5.2 else some (.inr (.inr (nI pre.length, z5.2)))))) := by
        unfold r_willOf_2b
        rw [show (7 : Int32) = nI 7 by decide, rd77 (by decide), hb, hR.1]
        simp only [Option.bind_some]
        rw [if_neg (nI_ge hlen (by omega)), show r_get (nI k) (0 : Int32) m = some (m 77 (37 + 5 * k + 0)) from r_get_at (f := 0) hk (by decide), hb, hk1]
        simp only [Option.bind_some]
        rw [show r_ruleOf (nI pre.length) (0 : Int32) m = some (m 77 (91 + 3 * pre.length + 0)) from r_ruleOf_at (f := 0) hr8 (by decide), hb, hrow.1]
        simp only [Option.bind_some]
        rw [r_isUnder_eq hk2 hrow.2.2.2.1]
        rfl
      have hskip : ∀ m1 : M, E80 m m1 → r_willOf_2b (nI k) (nI pre.length) m = some (.inl (nI (pre.length + 1), m1)) → willR (envB b k) (kindN b k) (x :: xs) = willR (envB b k) (kindN b k) xs → ∃ m', E80 m m' ∧ ∃ z : M ⊕ (Int32 × M), (∀ F, (x :: xs).length < F → iter (fun z : Int32 × M => r_willOf_2b (nI k) z.1 z.2) F (nI pre.length, m) = some z) ∧ (match z with
          | .inl r => some (0, r)
          | .inr r => Option.bind (r_ruleOf r.1 (1 : Int32) r.2) (fun v6 => some (v6, r.2))) = some (nI (willR (envB b k) (kindN b k) (x :: xs)), m') := by
        intro m1 hq h1 hw
        obtain ⟨m', q, z, hz, hv⟩ := ih (pre ++ [x]) m1 (by rw [hrs]; simp) ((hq.r77).trans hb)
        refine ⟨m', hq.trans q, z, fun F hF => ?_, by rw [hw]; exact hv⟩
        obtain ⟨F', rfl⟩ : ∃ F', F = F' + 1 := ⟨F - 1, by omega⟩
        show (r_willOf_2b (nI k) (nI pre.length) m).bind _ = _
        rw [h1]
        have := hz F' (by simp only [List.length_cons] at hF; omega)
        rw [List.length_append] at this
        exact this
      by_cases hu : underN (kindN b k) x.kind = true
      · obtain ⟨m1, h1, q1⟩ := r_holdsFor_eq hb hR hx hk
        have hb1 : m1 77 = b := (q1.r77).trans hb
        by_cases hh : x.holds (envB b k) = true
        · refine ⟨m1, q1, .inr (nI pre.length, m1), fun F hF => ?_, ?_⟩
          · obtain ⟨F', rfl⟩ : ∃ F', F = F' + 1 := ⟨F - 1, by omega⟩
            show (r_willOf_2b (nI k) (nI pre.length) m).bind _ = _
            rw [hfirst, hu, if_neg (by decide), h1, hh]
            simp only [Option.bind_some]
            rw [if_neg (by decide)]; rfl
          · show Option.bind (r_ruleOf (nI pre.length) (1 : Int32) m1) (fun v6 => some (v6, m1)) = _
            rw [show r_ruleOf (nI pre.length) (1 : Int32) m1 = some (m1 77 (91 + 3 * pre.length + 1)) from r_ruleOf_at (f := 1) hr8 (by decide), hb1, hrow.2.1]
            unfold willR
            rw [hu, hh]; rfl
        · have hf : x.holds (envB b k) = false := Bool.eq_false_iff.mpr hh
          refine hskip m1 q1 ?_ ?_
          · rw [hfirst, hu, if_neg (by decide), h1, hf]
            simp only [Option.bind_some]
            rw [if_pos (by decide)]
            unfold r_willOf_47
            rw [ltE, nI_1]
          · conv => lhs; unfold willR
            rw [hf]; simp
      · have hf : underN (kindN b k) x.kind = false := Bool.eq_false_iff.mpr hu
        refine hskip m E80.rfl ?_ ?_
        · rw [hfirst, hf, if_pos (by decide)]
          unfold r_willOf_47
          rw [ltE, nI_1]
        · conv => lhs; unfold willR
          rw [hf]; simp
  obtain ⟨m', q, z, hz, hv⟩ := key rs [] m rfl hb
  refine ⟨m', ?_, q⟩
  unfold r_willOf r_willOf_2 willB
  have := hz FU (by have := hR.2.1; show rs.length < 4000; omega)
  rw [show (nI ([] : List Rl).length) = (0 : Int32) from rfl] at this
  rw [this]
  exact hv
theorem len26 : len 26 = 8 := by decide
theorem len27 : len 27 = 8 := by decide
theorem b_willOf_eq {m : M} {b : Nat → Int32} {rs : List Rl} {k : Nat} (hK : KB m b) (hW : WF b) (hR : KR m rs) (hk : k < 6) : b_willOf (nI k) m = some (willB rs b k) := by
  obtain ⟨hk1, hk2⟩ := hW.kindN hk
  have key : ∀ (post pre : List Rl), rs = pre ++ post → ∃ z : Unit ⊕ Int32, (∀ F, post.length < F → iter (fun z : Int32 => b_willOf_2b (nI k) z m) F (nI pre.length) = some z) ∧ (match z with
      | .inl r => some (0 : Int32)
      | .inr r => Option.bind (rdI m 27 r) (fun v5 => some v5)) = some (nI (willR (envB b k) (kindN b k) post)) := by
    intro post
    induction post with
    | nil =>
      intro pre hrs
      refine ⟨.inl (), fun F hF => ?_, rfl⟩
      obtain ⟨F', rfl⟩ : ∃ F', F = F' + 1 := ⟨F - 1, by omega⟩
      show (b_willOf_2b (nI k) (nI pre.length) m).bind _ = _
      unfold b_willOf_2b
      have hlen : rs.length = pre.length := by rw [hrs]; simp
      rw [hR.1, if_pos (by rw [hlen]; exact Int32.le_refl _)]; rfl
    | cons x xs ih =>
      intro pre hrs
      have hx : rs[pre.length]? = some x := by rw [hrs]; simp
      have hr8 := hR.2.lt hx
      have hrow := hR.2.2.2.1 _ x hx
      have hlen : pre.length < rs.length := by rw [hrs]; simp
      have hl8 := hR.2.1
      have hfirst : b_willOf_2b (nI k) (nI pre.length) m = (if b01 (underN (kindN b k) x.kind) = 0 then b_willOf_57 (nI k) (nI pre.length) m else (if b01 (x.holds (envB b k)) = (0 : Int32) then b_willOf_57 (nI k) (nI pre.length) m else some (.inr (.inr (nI pre.length))))) := by
        unfold b_willOf_2b
        rw [hR.1, if_neg (nI_ge hlen (by omega)), rd6 (by decide) hk, hK.kind hk, hk1]
        simp only [Option.bind_some]
        rw [rdI_at (by rw [len26]; exact hr8) (by rw [len26]; decide), hrow.1]
        simp only [Option.bind_some]
        rw [k_isUnder_eq hk2 hrow.2.2.2.1]
        simp only [Option.bind_some]
        rw [u_holds_eq hK hR hx hk]
        simp only [Option.bind_some]
      have hskip : b_willOf_2b (nI k) (nI pre.length) m = some (.inl (nI (pre.length + 1))) → willR (envB b k) (kindN b k) (x :: xs) = willR (envB b k) (kindN b k) xs → ∃ z : Unit ⊕ Int32, (∀ F, (x :: xs).length < F → iter (fun z : Int32 => b_willOf_2b (nI k) z m) F (nI pre.length) = some z) ∧ (match z with
          | .inl r => some (0 : Int32)
          | .inr r => Option.bind (rdI m 27 r) (fun v5 => some v5)) = some (nI (willR (envB b k) (kindN b k) (x :: xs))) := by
        intro h1 hw
        obtain ⟨z, hz, hv⟩ := ih (pre ++ [x]) (by rw [hrs]; simp)
        refine ⟨z, fun F hF => ?_, by rw [hw]; exact hv⟩
        obtain ⟨F', rfl⟩ : ∃ F', F = F' + 1 := ⟨F - 1, by omega⟩
        show (b_willOf_2b (nI k) (nI pre.length) m).bind _ = _
        rw [h1]
        have := hz F' (by simp only [List.length_cons] at hF; omega)
        rw [List.length_append] at this
        exact this
      by_cases hu : underN (kindN b k) x.kind = true
      · by_cases hh : x.holds (envB b k) = true
        · refine ⟨.inr (nI pre.length), fun F hF => ?_, ?_⟩
          · obtain ⟨F', rfl⟩ : ∃ F', F = F' + 1 := ⟨F - 1, by omega⟩
            show (b_willOf_2b (nI k) (nI pre.length) m).bind _ = _
            rw [hfirst, hu, if_neg (by decide), hh, if_neg (by decide)]; rfl
          · show Option.bind (rdI m 27 (nI pre.length)) (fun v5 => some v5) = _
            rw [rdI_at (by rw [len27]; exact hr8) (by rw [len27]; decide), hrow.2.1]
            unfold willR
            rw [hu, hh]; rfl
        · have hf : x.holds (envB b k) = false := Bool.eq_false_iff.mpr hh
          refine hskip ?_ ?_
          · rw [hfirst, hu, if_neg (by decide), hf, if_pos (by decide)]
            unfold b_willOf_57
            rw [ltE, nI_1]
          · conv => lhs; unfold willR
            rw [hf]; simp
      · have hf : underN (kindN b k) x.kind = false := Bool.eq_false_iff.mpr hu
        refine hskip ?_ ?_
        · rw [hfirst, hf, if_pos (by decide)]
          unfold b_willOf_57
          rw [ltE, nI_1]
        · conv => lhs; unfold willR
          rw [hf]; simp
  obtain ⟨z, hz, hv⟩ := key rs [] rfl
  unfold b_willOf b_willOf_2 willB
  have := hz FU (by have := hR.2.1; show rs.length < 4000; omega)
  rw [show (nI ([] : List Rl).length) = (0 : Int32) from rfl] at this
  rw [this]
  exact hv
