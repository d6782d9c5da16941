abbrev SH12 : List (Option (Option Nat)) := [some none, some none, some none, none, some none, some none, none, some none, none, none, none, none, none, none, some none, some none, none, some none, some none, some none, none, none, none, none, some none, some none, none, some none, none, some none, some none, some none, some none, some none, some none, none, none, none]
set_option maxRecDepth 100000 in
set_option maxHeartbeats 4000000 in
/-- THE LAW FROM ITS ENTRY, if the constructors' memory has I, and each call of both sides says the same and keeps I -/
theorem whole_open {I : M → Prop} (hI0 : I cmr171) (hstep : ∀ m, I m → StepOK I m) {p : Program} {e : Env} {s : State} {m : MethodId} {below : List Frame} {meth : Method} {c : Code} (l : Launch) {b L : Nat} {xs : Nat → Int32} (hL : L ≤ 2560) (C0 : lw_At p s m meth c b L xs) : W p l e room_1 s m #[Value.ref b] below meth c s.heap [] 0 0 (lw_Z below #[Value.ref b] s) (entryFrame m ([Value.ref b] : List Value).toArray 4) := by
  obtain ⟨hx, hb, hr, hml, hown, hts, hX, hbl, hlocks, hgv⟩ := id C0
  have htg : ∀ w ∈ gw, w.before #[Value.ref b] s = true := fun w h => hts w (gw_in h)
  have hown : s.vm.findClass RL = some m.cls := hown
  have hA : ∀ q : Nat, s.heap.size ≤ q → (fun q : Nat => s.heap.size ≤ q) q := fun _ h => h
  -- the classes
  have hkn : ∀ k : Nat, ∃ cd : ClassId × (Nat → Nat), ∀ q : vw_C, vwCl[k]? = some q → u_Kn s q.1 q.2.1 q.2.2 cd.1 cd.2 := by
    have mk : ∀ (C : String) (T : u_T) (N n : Nat), (∀ w ∈ u_ws C T N, w ∈ gw) → Cond.instantiable C n ∈ gw → ∃ cd : ClassId × (Nat → Nat), u_Kn s C T N cd.1 cd.2 := fun C T N n h1 h2 => by
      obtain ⟨c1, i1, h3⟩ := u_known htg h1 (htg _ h2)
      exact ⟨(c1, i1), h3⟩
    have nof : ∀ (C : String) (T : u_T), ∀ w ∈ u_ws C T 0, w ∈ gw := fun C T w h => absurd h List.not_mem_nil
    intro k
    match k with
    | 0 => obtain ⟨cd, h⟩ := mk RX0 TX0 19 19 inX0 W121; exact ⟨cd, fun q hq => by cases hq; exact h⟩
    | 1 => obtain ⟨cd, h⟩ := mk RX1 TX1 0 0 (nof _ _) W202; exact ⟨cd, fun q hq => by cases hq; exact h⟩
    | 2 => obtain ⟨cd, h⟩ := mk RX2 TX2 5 5 inX2 W331; exact ⟨cd, fun q hq => by cases hq; exact h⟩
    | 3 => obtain ⟨cd, h⟩ := mk RX3 TX3 0 0 (nof _ _) W209; exact ⟨cd, fun q hq => by cases hq; exact h⟩
    | 4 => obtain ⟨cd, h⟩ := mk RX4 TX4 0 0 (nof _ _) W216; exact ⟨cd, fun q hq => by cases hq; exact h⟩
    | 5 => obtain ⟨cd, h⟩ := mk RX5 TX5 0 0 (nof _ _) W181; exact ⟨cd, fun q hq => by cases hq; exact h⟩
    | 6 => obtain ⟨cd, h⟩ := mk RX6 TX6 5 5 inX6 W157; exact ⟨cd, fun q hq => by cases hq; exact h⟩
    | 7 => obtain ⟨cd, h⟩ := mk RX7 TX7 6 6 inX7 W127; exact ⟨cd, fun q hq => by cases hq; exact h⟩
    | 8 => obtain ⟨cd, h⟩ := mk RX8 TX8 0 0 (nof _ _) W195; exact ⟨cd, fun q hq => by cases hq; exact h⟩
    | 9 => obtain ⟨cd, h⟩ := mk RX9 TX9 5 5 inX9 W304; exact ⟨cd, fun q hq => by cases hq; exact h⟩
    | 10 => obtain ⟨cd, h⟩ := mk RX10 TX10 0 0 (nof _ _) W188; exact ⟨cd, fun q hq => by cases hq; exact h⟩
    | 11 => obtain ⟨cd, h⟩ := mk RX11 TX11 13 13 inX11 W113; exact ⟨cd, fun q hq => by cases hq; exact h⟩
    | 12 => obtain ⟨cd, h⟩ := mk RX12 TX12 38 38 inX12 W1234; exact ⟨cd, fun q hq => by cases hq; exact h⟩
    | k + 13 => exact ⟨(0, fun _ => 0), fun q hq => by cases hq⟩
  obtain ⟨cd, hcd⟩ := Classical.axiomOfChoice hkn
  obtain ⟨D, hDd⟩ : ∃ D : va_G, ∀ (k : Nat) (q : vw_C), vwCl[k]? = some q → u_Kn s q.1 q.2.1 q.2.2 (D.1 k) (D.2 k) := ⟨(fun k => (cd k).1, fun k => (cd k).2), hcd⟩
  obtain ⟨c0, hc0⟩ := arrCls_facts (Or.inl rfl) (htg _ W155)
  obtain ⟨c1, hc1⟩ := arrCls_facts (Or.inr rfl) (htg _ W1354)
  obtain ⟨c2, hc2⟩ := arrOver_facts (Or.inl rfl) (hts (Cond.arrayOver (.array .int)) (List.mem_of_getElem? (i := 329) (by decide +kernel)))
  obtain ⟨c3, hc3⟩ := arrOver_facts (Or.inr rfl) (hts (Cond.arrayOver (.object "WreckBoard$Member")) (List.mem_of_getElem? (i := 180) (by decide +kernel)))
  obtain ⟨cA, hcA⟩ : ∃ cA : Nat → ClassId, cA 0 = c0 ∧ cA 1 = c1 ∧ cA 2 = c2 ∧ cA 3 = c3 := ⟨fun k => if k = 0 then c0 else if k = 1 then c1 else if k = 2 then c2 else c3, rfl, rfl, rfl, rfl⟩
  obtain ⟨rfl, rfl, rfl, rfl⟩ := hcA
  have hK : va_K D vwCl (tysC cA) s := by
    refine ⟨hDd, fun k q hk => ?_⟩
    match k, hk with
    | 0, hk => cases hk; exact hc0
    | 1, hk => cases hk; exact hc1
    | 2, hk => cases hk; exact hc2
    | 3, hk => cases hk; exact hc3
    | k + 4, hk => cases hk
  have hNw : ∀ q ∈ nwl, va_Nw (.methodLinkNest q.1 q.2.1 q.2.2.1 q.2.2.2) s := fun q hq => va_Nw.of rfl (hts (.methodLinkNest q.1 q.2.1 q.2.2.1 q.2.2.2) (of_decide_eq_true (List.all_eq_true.mp nwl_in q hq)))
  have hAO : va_AO "WreckBoard$Member" s := va_AO.of (A := #[Value.ref b]) (hts _ (List.mem_of_getElem? (i := 180) (by decide +kernel)))
  have hAOA : cAOA s := hts (Cond.arrayOver (.array .int)) (List.mem_of_getElem? (i := 329) (by decide +kernel))
  have hCs : ∀ C ∈ casl, va_Nw (.castable C "WreckBoard$Member") s := by
    have hin : casl.all (fun C => decide (Cond.castable C "WreckBoard$Member" ∈ lw_tbl)) = true := by decide +kernel
    exact fun C hC => va_Nw.of rfl (hts (.castable C "WreckBoard$Member") (of_decide_eq_true (List.all_eq_true.mp hin C hC)))
  have hS : va_S (fun q : Nat => s.heap.size ≤ q) s.heap s.heap [] := va_S.rf
  have hP : va_P D vwCl [] s.heap := fun k q h => by cases h
  have hD : va_D (fun q : Nat => s.heap.size ≤ q) [] := ⟨fun i j p q h => (by simp at h), fun k q h => (by simp at h)⟩
  rw [lg_entry_eq]
  have hl := lv_entry ([.ref b]) (n := 4) (Nat.le_of_ble_eq_true rfl)
  generalize (lg_sl ([.ref b]) ++ List.replicate (4 - (lg_sl ([.ref b])).length) Slot.unset).toArray = ls at hl ⊢
  have hl : lv_has ls 4 [(0, .ref b)] := hl
  -- new WreckBoard
  refine va_new (D := D) (cl := vwCl) (ws := []) (tys := tysC cA) (A := fun q : Nat => s.heap.size ≤ q) (ci := 11) (C := RX11) (T := TX11) (N := 13) (fs := xvals (fun _ => 0) [some none, some none, none, some none, some none, some none, none, some none, some none, some none, some none, some none, some none] (fun _ => 0)) hx hb htg inX11 tyX11 tyX11_ok hown (htg _ W112) (htg _ W113) (htg _ W91) hK hP hD hS hA rfl hsh11 (by decide) (by decide) dL_law_0 (fun q0 H hP hD hS => ?_)
  have hP : va_P D vwCl (picX (fun _ => q0) cA cwk1 cmk0) H := hP
  have hD : va_D (fun q : Nat => s.heap.size ≤ q) (picX (fun _ => q0) cA cwk1 cmk0) := hD
  refine lv_dup hx hb dL_law_3 rfl ?_
  have hrun0 : ∀ (H : Heap) (locs : List Loc) (cells slots : Nat) (rest : List Value) (ad : Nat → Nat) (w w' : CW) (m0 m' : M) (pl lev' mc' ms' index maxL pc : Nat) (y : MethodName) (bytes : ByteArray) (ls : Array Slot), va_P D vwCl (picX ad cA w m0) H → va_D (fun q : Nat => s.heap.size ≤ q) (picX ad cA w m0) → va_S (fun q : Nat => s.heap.size ≤ q) s.heap H locs → ls.size = 4 → CtC l D cA s.heap.size y bytes maxL lev' mc' ms' [.inl pl] w m0 w' m' → mdq y 0 → y.name = "<init>" → Cond.methodLink RL index y ∈ gw → Cond.instanceMethod y ∈ gw → Cond.initialized y.cls ∈ gw → Cond.code y bytes maxL none ∈ gw → lev' + 1 ≤ 2048 → 8 + (maxL + 11) + 64 * lev' ≤ 84000 → (rest.map fun v => v.category).sum ≤ 8 → cells + mc' ≤ 600000 → slots + ms' ≤ 7302250 → decode code pc = .ok (.invokespecial index, 3) → va_Run p l e room_1 s m #[Value.ref b] below meth c H locs cells slots mc' ms' (F0 m pc ls (.ref (ad pl) :: rest)) rest (QC D cA s.heap.size ad w w' m' (Value.ref (ad pl) :: []).toArray) (fun q => s.heap.size ≤ q) := by
    intro H locs cells slots rest ad w w' m0 m' pl lev' mc' ms' index maxL pc y bytes ls hP hD hS hsz hM hd hyi hlk hi hini hcode hlev hlo hroom hce hsl d
    exact va_runI (As := []) ⟨hx, hb, hml, hown, htg⟩ (hM ad) (cwI 0 htg (gw_call hcode) rfl rfl rfl (htg _ hini) (htg _ hlk) (htg _ hi) hyi hd ⟨hlev, hlo⟩) ⟨cblind, fun U hU hW => ⟨rfl, by rw [hU]; exact hP, hD, va_K.moved hW.alike hK, by rw [hU]; exact hS.1, fun q hq => va_Nw.warmM hW (hNw q hq), va_AO.moved hW.alike hAO, cAOA_warm hW hAOA, fun C hC => va_Nw.warmC hW (hCs C hC)⟩⟩ rfl rfl hsz rfl (lv_room hroom) d ⟨hce, hsl⟩
  refine w_ctor (hrun0 H _ _ _ [.ref q0] (fun _ => q0) cwk1 cwk135 cmk0 cmk46 0 5 75 1740 9 1 _ yX11_init cX11_init ls hP hD hS hl.1 (CC_11_0 l D cA s.heap.size) ⟨by decide, by decide, by decide +kernel⟩ rfl W114 W115 W91 W116 (by decide) (by decide) (Nat.le_of_ble_eq_true rfl) (by decide) (by decide) dL_law_4) hS (fun ad1 H1 locs1 hag hP hD hS => ?_)
  have h0 : ad1 0 = q0 := hag (0, _) (List.mem_cons_self)
  refine lv_astore_n (lv' := [(1, .ref q0), (0, .ref b)]) hx hb dL_law_7 rfl hl (by decide) rfl (fun ls hl => ?_)
  -- new WreckBoardModel
  refine va_new (D := D) (cl := vwCl) (ws := picX ad1 cA cwk135 cmk46) (tys := tysC cA) (A := fun q : Nat => s.heap.size ≤ q) (ci := 12) (C := RX12) (T := TX12) (N := 38) (fs := xvals (fun _ => 0) SH12 (fun _ => 0)) hx hb htg inX12 tyX12 tyX12_ok hown (htg _ W1233) (htg _ W1234) (htg _ W103) hK hP hD hS hA rfl hsh12 (by decide) (by decide) dL_law_8 (fun q1 H2 hP hD hS => ?_)
  have e2 : picX ad1 cA cwk135 cmk46 ++ [(q1, .inr (12, xvals (fun _ => 0) SH12 (fun _ => 0)))] = picX (fun r => if r = 76 then q1 else ad1 r) cA cwr1 cmk46 := by
    have e3 : cwr1 = cwk135 ++ [(76, .inl (12, SH12))] := rfl
    rw [e3]
    unfold picX
    rw [List.map_append]
    refine congr (congrArg _ (picX_fresh (fresh_of (by decide +kernel))).symm) ?_
    rfl
  rw [e2] at hP hD
  refine lv_dup hx hb dL_law_11 rfl ?_
  refine w_ctor (hrun0 H2 _ _ _ [.ref q1] (fun r => if r = 76 then q1 else ad1 r) cwr1 cwr41 cmk46 cmr171 76 1 20 2058 12 2 _ yX12_init cX12_init ls hP hD hS hl.1 (CC_12_76 l D cA s.heap.size) ⟨by decide, by decide, by decide +kernel⟩ rfl W1235 W1236 W103 W1237 (by decide) (by decide) (Nat.le_of_ble_eq_true rfl) (by decide) (by decide) dL_law_12) hS (fun ad2 H3 locs3 hag2 hP hD hS => ?_)
  have g0 : ad2 0 = q0 := (hag2 _ (List.mem_of_getElem? (i := 0) rfl)).trans h0
  have g1 : ad2 76 = q1 := hag2 _ (List.mem_of_getElem? (i := 76) rfl)
  refine lv_astore_n (lv' := [(2, .ref q1), (1, .ref q0), (0, .ref b)]) hx hb dL_law_15 rfl hl (by decide) rfl (fun ls hl => ?_)
  refine lv_iconst (v := 0) hx hb dL_law_16 (by decide) ?_
  refine lv_istore_n (lv' := [(3, .int 0), (2, .ref q1), (1, .ref q0), (0, .ref b)]) hx hb dL_law_17 rfl hl (by decide) rfl (fun ls hl => ?_)
  obtain ⟨-, had2⟩ := fin_I (D := D) hD
  obtain ⟨ad, hag3, hRo⟩ := start_Ro (D := D) (cA := cA) (ad3 := ad2) hts hgv had2
  rw [picX_congr hag3 low_cwr] at hP hD
  obtain ⟨hI, had⟩ := fin_I (D := D) hD
  have E : LEn l p e s m meth c (D, ad, cA) b L xs := ⟨hx, hb, hml, hown, htg, hK, hI, hlocks, hRo, hr, hX, hbl, had, hL⟩
  have hloop := law_loop (below := below) E hstep (L + 5) 0 cmr171 (by omega) (by omega) hI0
  have k0 : ad 0 = q0 := (hag3 0 (by decide)).symm.trans g0
  have k1 : ad 76 = q1 := (hag3 76 (by decide)).symm.trans g1
  refine hloop H3 _ ls (fin_P hP) hS ?_
  show lv_has ls 4 [(0, .ref b), (1, .ref (ad 0)), (2, .ref (ad 76)), (3, .int (nI 0))]
  rw [k0, k1, nI_0]
  exact lv_sub hl [3, 2, 1, 0] rfl
