/-- what each call of both sides says, from a memory that keeps I -/
def OK_member (I : M → Prop) (m : M) : Prop := ∀ (y0 : Int32) (y1 : Int32) (y2 : Int32) (y3 : Int32), ∃ (v : Int32) (m1 : M) (m2 : M), k_member y0 y1 y2 y3 m = some (v, m1) ∧ r_member y0 y1 y2 y3 m1 = some (v, m2) ∧ I m2
def OK_memberOf (I : M → Prop) (m : M) : Prop := ∀ (y0 : Int32) (y1 : Int32), ∃ (v : Int32) (m2 : M), k_memberOf y0 y1 m = some v ∧ r_memberOf y0 y1 m = some (v, m2) ∧ I m2
def OK_change (I : M → Prop) (m : M) : Prop := ∀ (y0 : Int32) (y1 : Int32) (y2 : Int32), ∃ (v : Int32) (m1 : M) (m2 : M), k_change y0 y1 y2 m = some (v, m1) ∧ r_change y0 y1 y2 m1 = some (v, m2) ∧ I m2
def OK_remake (I : M → Prop) (m : M) : Prop := ∀ (y0 : Int32) (y1 : Int32), ∃ (v : Int32) (m1 : M) (m2 : M), k_remake y0 y1 m = some (v, m1) ∧ r_remake y0 y1 m1 = some (v, m2) ∧ I m2
def OK_ship (I : M → Prop) (m : M) : Prop := ∀ (y0 : Int32) (y1 : Int32), ∃ (v : Int32) (m1 : M) (m2 : M), k_ship y0 y1 m = some (v, m1) ∧ r_ship y0 y1 m1 = some (v, m2) ∧ I m2
def OK_bench (I : M → Prop) (m : M) : Prop := ∀ (y0 : Int32) (y1 : Int32) (y2 : Int32), ∃ (v : Int32) (m1 : M) (m2 : M), k_bench y0 y1 y2 m = some (v, m1) ∧ r_bench y0 y1 y2 m1 = some (v, m2) ∧ I m2
def OK_benchOf (I : M → Prop) (m : M) : Prop := ∀ (y0 : Int32) (y1 : Int32), ∃ (v : Int32), k_benchOf y0 y1 m = some v ∧ r_benchOf y0 y1 m = some v ∧ I m
def OK_rock (I : M → Prop) (m : M) : Prop := ∀ (y0 : Int32) (y1 : Int32), ∃ (v : Int32) (m1 : M) (m2 : M), k_rock y0 y1 m = some (v, m1) ∧ r_rock y0 y1 m1 = some (v, m2) ∧ I m2
def OK_ends (I : M → Prop) (m : M) : Prop := ∀ (y0 : Int32), ∃ (v : Int32) (m1 : M) (m2 : M), k_ends y0 m = some (v, m1) ∧ r_ends y0 m1 = some (v, m2) ∧ I m2
def OK_anew (I : M → Prop) (m : M) : Prop := ∃ (v : Int32) (m1 : M) (m2 : M), k_anew m = some (v, m1) ∧ r_anew m1 = some (v, m2) ∧ I m2
def OK_state (I : M → Prop) (m : M) : Prop := ∀ (y0 : Int32), ∃ (v : Int32), k_state y0 m = some v ∧ r_state y0 m = some v ∧ I m
def OK_feed (I : M → Prop) (m : M) : Prop := ∀ (y0 : Int64) (y1 : Int32), ∃ (v : Int32) (m1 : M) (m2 : M), k_feed y0 y1 m = some (v, m1) ∧ r_feed y0 y1 m1 = some (v, m2) ∧ I m2
def OK_rules (I : M → Prop) (m : M) : Prop := ∃ (v : Int32) (m1 : M) (m2 : M), k_rules m = some (v, m1) ∧ r_rules m1 = some (v, m2) ∧ I m2
def OK_night (I : M → Prop) (m : M) : Prop := ∃ (v : Int32) (m1 : M) (m2 : M), k_night m = some (v, m1) ∧ r_night m1 = some (v, m2) ∧ I m2
def OK_on (I : M → Prop) (m : M) : Prop := ∀ (y0 : Int32), ∃ (v : Int32) (m1 : M) (m2 : M), k_on y0 m = some (v, m1) ∧ r_on y0 m1 = some (v, m2) ∧ I m2
def OK_when (I : M → Prop) (m : M) : Prop := ∀ (y0 : Int32), ∃ (v : Int32) (m1 : M) (m2 : M), k_when y0 m = some (v, m1) ∧ r_when y0 m1 = some (v, m2) ∧ I m2
def OK_votesFor (I : M → Prop) (m : M) : Prop := ∀ (y0 : Int32), ∃ (v : Int32) (m1 : M) (m2 : M), k_votesFor y0 m = some (v, m1) ∧ r_votesFor y0 m1 = some (v, m2) ∧ I m2
def OK_benchFor (I : M → Prop) (m : M) : Prop := ∀ (y0 : Int32), ∃ (v : Int32) (m1 : M) (m2 : M), k_benchFor y0 m = some (v, m1) ∧ r_benchFor y0 m1 = some (v, m2) ∧ I m2
def OK_fund (I : M → Prop) (m : M) : Prop := ∀ (y0 : Int32), ∃ (v : Int32) (m1 : M) (m2 : M), k_fund y0 m = some (v, m1) ∧ r_fund y0 m1 = some (v, m2) ∧ I m2
def OK_wrecks (I : M → Prop) (m : M) : Prop := ∀ (y0 : Int32), ∃ (v : Int32) (m1 : M) (m2 : M), k_wrecks y0 m = some (v, m1) ∧ r_wrecks y0 m1 = some (v, m2) ∧ I m2
def OK_parties (I : M → Prop) (m : M) : Prop := ∀ (y0 : Int32), ∃ (v : Int32), k_parties y0 m = some v ∧ r_parties y0 m = some v ∧ I m
def OK_power (I : M → Prop) (m : M) : Prop := ∀ (y0 : Int32), ∃ (v : Int32), k_power y0 m = some v ∧ r_power y0 m = some v ∧ I m
def OK_best (I : M → Prop) (m : M) : Prop := ∀ (y0 : Int32), ∃ (v : Int32) (m1 : M) (m2 : M), k_best y0 m = some (v, m1) ∧ r_best y0 m1 = some (v, m2) ∧ I m2
def OK_ith (I : M → Prop) (m : M) : Prop := ∀ (y0 : Int32) (y1 : Int32), ∃ (v : Int32) (m1 : M) (m2 : M), k_ith y0 y1 m = some (v, m1) ∧ r_ith y0 y1 m1 = some (v, m2) ∧ I m2
def OK_ways (I : M → Prop) (m : M) : Prop := ∀ (y0 : Int32), ∃ (v : Int32) (m1 : M) (m2 : M), k_ways y0 m = some (v, m1) ∧ r_ways y0 m1 = some (v, m2) ∧ I m2
def OK_agenda (I : M → Prop) (m : M) : Prop := ∀ (y0 : Int32) (y1 : Int32), ∃ (v : Int32) (m1 : M) (m2 : M), k_agenda y0 y1 m = some (v, m1) ∧ r_agenda y0 y1 m1 = some (v, m2) ∧ I m2
def OK_bars (I : M → Prop) (m : M) : Prop := ∀ (y0 : Int32) (y1 : Int32), ∃ (v : Int32) (m1 : M) (m2 : M), k_bars y0 y1 m = some (v, m1) ∧ r_bars y0 y1 m1 = some (v, m2) ∧ I m2
def OK_game (I : M → Prop) (m : M) : Prop := ∀ (y0 : Int32), ∃ (v : Int32) (m1 : M) (m2 : M), k_game y0 m = some (v, m1) ∧ r_game y0 m1 = some (v, m2) ∧ I m2
def OK_play (I : M → Prop) (m : M) : Prop := ∀ (y0 : Int32), ∃ (v : Int32) (m1 : M) (m2 : M), k_play y0 m = some (v, m1) ∧ r_play y0 m1 = some (v, m2) ∧ I m2
def OK_report (I : M → Prop) (m : M) : Prop := ∀ (y0 : Int32) (y1 : Int32) (y2 : Int32) (y3 : Int32), ∃ (v : Int32) (m1 : M) (m2 : M), k_report y0 y1 y2 y3 m = some (v, m1) ∧ r_report y0 y1 y2 y3 m1 = some (v, m2) ∧ I m2
def OK_forget (I : M → Prop) (m : M) : Prop := ∃ (v : Int32) (m1 : M) (m2 : M), k_forget m = some (v, m1) ∧ r_forget m1 = some (v, m2) ∧ I m2
def OK_lone (I : M → Prop) (m : M) : Prop := ∀ (y0 : Int32), ∃ (v : Int32) (m2 : M), k_lone y0 m = some v ∧ r_lone y0 m = some (v, m2) ∧ I m2
def OK_liar (I : M → Prop) (m : M) : Prop := ∃ (v : Int32) (m2 : M), k_liar m = some v ∧ r_liar m = some (v, m2) ∧ I m2
def OK_seed (I : M → Prop) (m : M) : Prop := ∀ (y0 : Int32), ∃ (v : Int32) (m1 : M) (m2 : M), k_seed y0 m = some (v, m1) ∧ r_seed y0 m1 = some (v, m2) ∧ I m2
def OK_lot (I : M → Prop) (m : M) : Prop := ∃ (v : Int32) (m1 : M) (m2 : M), k_lot m = some (v, m1) ∧ r_lot m1 = some (v, m2) ∧ I m2
def OK_times (I : M → Prop) (m : M) : Prop := ∀ (y0 : Int32) (y1 : Int32), ∃ (v : Int32) (m1 : M) (m2 : M), k_times y0 y1 m = some (v, m1) ∧ r_times y0 y1 m1 = some (v, m2) ∧ I m2
def OK_prove (I : M → Prop) (m : M) : Prop := ∀ (y0 : Int32), ∃ (v : Int32) (m1 : M) (m2 : M), k_prove y0 m = some (v, m1) ∧ r_prove y0 m1 = some (v, m2) ∧ I m2
def OK_row (I : M → Prop) (m : M) : Prop := ∀ (y0 : Int32) (y1 : Int32), ∃ (v : Int32), k_row y0 y1 m = some v ∧ r_row y0 y1 m = some v ∧ I m
def OK_alterRow (I : M → Prop) (m : M) : Prop := ∀ (y0 : Int32) (y1 : Int32) (y2 : Int32), ∃ (v : Int32) (m1 : M) (m2 : M), k_alterRow y0 y1 y2 m = some (v, m1) ∧ r_alterRow y0 y1 y2 m1 = some (v, m2) ∧ I m2
def OK_judge (I : M → Prop) (m : M) : Prop := ∃ (v : Int32) (m1 : M) (m2 : M), k_judge m = some (v, m1) ∧ r_judge m1 = some (v, m2) ∧ I m2
def OK_sheet (I : M → Prop) (m : M) : Prop := ∀ (y0 : Int32) (y1 : Int32) (y2 : Int32), ∃ (v : Int32) (m1 : M) (m2 : M), k_sheet y0 y1 y2 m = some (v, m1) ∧ r_sheet y0 y1 y2 m1 = some (v, m2) ∧ I m2
def OK_write (I : M → Prop) (m : M) : Prop := ∀ (y0 : Int32) (y1 : Int32) (y2 : Int32), ∃ (v : Int32) (m1 : M) (m2 : M), k_write y0 y1 y2 m = some (v, m1) ∧ r_write y0 y1 y2 m1 = some (v, m2) ∧ I m2
def OK_item (I : M → Prop) (m : M) : Prop := ∀ (y0 : Int32) (y1 : Int32) (y2 : Int32), ∃ (v : Int32), k_item y0 y1 y2 m = some v ∧ r_item y0 y1 y2 m = some v ∧ I m
def OK_goAll (I : M → Prop) (m : M) : Prop := ∀ (y0 : Int32) (y1 : Int32) (y2 : Int32), ∃ (v : Int32) (m1 : M) (m2 : M), k_goAll y0 y1 y2 m = some (v, m1) ∧ r_goAll y0 y1 y2 m1 = some (v, m2) ∧ I m2
def OK_wouldBe (I : M → Prop) (m : M) : Prop := ∀ (y0 : Int32) (y1 : Int32) (y2 : Int32), ∃ (v : Int32) (m1 : M) (m2 : M), k_wouldBe y0 y1 y2 m = some (v, m1) ∧ r_wouldBe y0 y1 y2 m1 = some (v, m2) ∧ I m2
def OK_shelf (I : M → Prop) (m : M) : Prop := ∀ (y0 : Int32) (y1 : Int32) (y2 : Int32), ∃ (v : Int32) (m1 : M) (m2 : M), k_shelf y0 y1 y2 m = some (v, m1) ∧ r_shelf y0 y1 y2 m1 = some (v, m2) ∧ I m2
def OK_taken (I : M → Prop) (m : M) : Prop := ∀ (y0 : Int32) (y1 : Int32), ∃ (v : Int32), k_taken y0 y1 m = some v ∧ r_taken y0 y1 m = some v ∧ I m
def OK_act (I : M → Prop) (m : M) : Prop := ∀ (y0 : Int32) (y1 : Int32) (y2 : Int32), ∃ (v : Int32) (m1 : M) (m2 : M), k_act y0 y1 y2 m = some (v, m1) ∧ r_act y0 y1 y2 m1 = some (v, m2) ∧ I m2
def OK_trace (I : M → Prop) (m : M) : Prop := ∀ (y0 : Int32), ∃ (v : Int32), k_trace y0 m = some v ∧ r_trace y0 m = some v ∧ I m
def OK_many (I : M → Prop) (m : M) : Prop := ∀ (y0 : Int32), ∃ (v : Int32), k_many y0 m = some v ∧ r_many y0 m = some v ∧ I m
def OK_keep (I : M → Prop) (m : M) : Prop := ∃ (v : Int32) (m1 : M) (m2 : M), k_keep m = some (v, m1) ∧ r_keep m1 = some (v, m2) ∧ I m2
def OK_again (I : M → Prop) (m : M) : Prop := ∃ (v : Int32) (m1 : M) (m2 : M), k_again m = some (v, m1) ∧ r_again m1 = some (v, m2) ∧ I m2
def StepOK (I : M → Prop) (m : M) : Prop := OK_member I m ∧ OK_memberOf I m ∧ OK_change I m ∧ OK_remake I m ∧ OK_ship I m ∧ OK_bench I m ∧ OK_benchOf I m ∧ OK_rock I m ∧ OK_ends I m ∧ OK_anew I m ∧ OK_state I m ∧ OK_feed I m ∧ OK_rules I m ∧ OK_night I m ∧ OK_on I m ∧ OK_when I m ∧ OK_votesFor I m ∧ OK_benchFor I m ∧ OK_fund I m ∧ OK_wrecks I m ∧ OK_parties I m ∧ OK_power I m ∧ OK_best I m ∧ OK_ith I m ∧ OK_ways I m ∧ OK_agenda I m ∧ OK_bars I m ∧ OK_game I m ∧ OK_play I m ∧ OK_report I m ∧ OK_forget I m ∧ OK_lone I m ∧ OK_liar I m ∧ OK_seed I m ∧ OK_lot I m ∧ OK_times I m ∧ OK_prove I m ∧ OK_row I m ∧ OK_alterRow I m ∧ OK_judge I m ∧ OK_sheet I m ∧ OK_write I m ∧ OK_item I m ∧ OK_goAll I m ∧ OK_wouldBe I m ∧ OK_shelf I m ∧ OK_taken I m ∧ OK_act I m ∧ OK_trace I m ∧ OK_many I m ∧ OK_keep I m ∧ OK_again I m
set_option maxRecDepth 20000 in
theorem law_member {l : Launch} {p : Program} {e : Env} {s : State} {mi : MethodId} {below : List Frame} {meth : Method} {c : Code} {G : GG} {b L : Nat} {xs : Nat → Int32} {I : M → Prop} (E : LEn l p e s mi meth c G b L xs) {i : Nat} {m : M} (hin : ∀ k : Nat, k < 5 → i + k < L) (hs : OK_member I m) (hgo : ∀ m1 : M, I m1 → Lm l p e s mi below meth c G b 97 3849 1772 i [] m1) : Lm l p e s mi below meth c G b 97 3849 256 i [] m := by
  obtain ⟨v, m1, m2, h1, h2, hI⟩ := hs (xs (i + 1)) (xs (i + 2)) (xs (i + 3)) (xs (i + 4))
  refine l_aload1 E dL_law_256 ?_
  refine l_aload0 E dL_law_257 ?_
  refine l_iload3 E dL_law_258 ?_
  refine l_iconst (v := (1 : Int32)) E dL_law_259 (by decide) ?_
  refine l_iadd E dL_law_260 ?_
  refine l_iald (k0 := 1) E (by decide) (hin 1 (by decide)) dL_law_261 ?_
  refine l_aload0 E dL_law_262 ?_
  refine l_iload3 E dL_law_263 ?_
  refine l_iconst (v := (2 : Int32)) E dL_law_264 (by decide) ?_
  refine l_iadd E dL_law_265 ?_
  refine l_iald (k0 := 2) E (by decide) (hin 2 (by decide)) dL_law_266 ?_
  refine l_aload0 E dL_law_267 ?_
  refine l_iload3 E dL_law_268 ?_
  refine l_iconst (v := (3 : Int32)) E dL_law_269 (by decide) ?_
  refine l_iadd E dL_law_270 ?_
  refine l_iald (k0 := 3) E (by decide) (hin 3 (by decide)) dL_law_271 ?_
  refine l_aload0 E dL_law_272 ?_
  refine l_iload3 E dL_law_273 ?_
  refine l_iconst (v := (4 : Int32)) E dL_law_274 (by decide) ?_
  refine l_iadd E dL_law_275 ?_
  refine l_iald (k0 := 4) E (by decide) (hin 4 (by decide)) dL_law_276 ?_
  refine l_call (rest := []) (n := 4) E (C_k_member l G _ _ _ _ m h1) ⟨by decide, by decide, by decide +kernel⟩ W400 W401 W402 W91 W403 rfl rfl rfl rfl (Nat.le_of_ble_eq_true rfl) (by decide) (by decide) dL_law_277 ?_
  refine l_aload2 E dL_law_280 ?_
  refine l_aload0 E dL_law_281 ?_
  refine l_iload3 E dL_law_282 ?_
  refine l_iconst (v := (1 : Int32)) E dL_law_283 (by decide) ?_
  refine l_iadd E dL_law_284 ?_
  refine l_iald (k0 := 1) E (by decide) (hin 1 (by decide)) dL_law_285 ?_
  refine l_aload0 E dL_law_286 ?_
  refine l_iload3 E dL_law_287 ?_
  refine l_iconst (v := (2 : Int32)) E dL_law_288 (by decide) ?_
  refine l_iadd E dL_law_289 ?_
  refine l_iald (k0 := 2) E (by decide) (hin 2 (by decide)) dL_law_290 ?_
  refine l_aload0 E dL_law_291 ?_
  refine l_iload3 E dL_law_292 ?_
  refine l_iconst (v := (3 : Int32)) E dL_law_293 (by decide) ?_
  refine l_iadd E dL_law_294 ?_
  refine l_iald (k0 := 3) E (by decide) (hin 3 (by decide)) dL_law_295 ?_
  refine l_aload0 E dL_law_296 ?_
  refine l_iload3 E dL_law_297 ?_
  refine l_iconst (v := (4 : Int32)) E dL_law_298 (by decide) ?_
  refine l_iadd E dL_law_299 ?_
  refine l_iald (k0 := 4) E (by decide) (hin 4 (by decide)) dL_law_300 ?_
  refine l_call (rest := [.int v]) (n := 4) E (C_r_member l G _ _ _ _ m1 h2) ⟨by decide, by decide, by decide +kernel⟩ W1423 W1424 W1425 W103 W1426 rfl rfl rfl rfl (Nat.le_of_ble_eq_true rfl) (by decide) (by decide) dL_law_301 ?_
  exact l_eq (tgt := 1772) E dL_law_304 (by decide) (hgo _ hI)
set_option maxRecDepth 20000 in
theorem law_memberOf {l : Launch} {p : Program} {e : Env} {s : State} {mi : MethodId} {below : List Frame} {meth : Method} {c : Code} {G : GG} {b L : Nat} {xs : Nat → Int32} {I : M → Prop} (E : LEn l p e s mi meth c G b L xs) {i : Nat} {m : M} (hin : ∀ k : Nat, k < 5 → i + k < L) (hs : OK_memberOf I m) (hgo : ∀ m1 : M, I m1 → Lm l p e s mi below meth c G b 97 3849 1772 i [] m1) : Lm l p e s mi below meth c G b 97 3849 309 i [] m := by
  obtain ⟨v, m2, h1, h2, hI⟩ := hs (xs (i + 1)) (xs (i + 2))
  refine l_aload1 E dL_law_309 ?_
  refine l_aload0 E dL_law_310 ?_
  refine l_iload3 E dL_law_311 ?_
  refine l_iconst (v := (1 : Int32)) E dL_law_312 (by decide) ?_
  refine l_iadd E dL_law_313 ?_
  refine l_iald (k0 := 1) E (by decide) (hin 1 (by decide)) dL_law_314 ?_
  refine l_aload0 E dL_law_315 ?_
  refine l_iload3 E dL_law_316 ?_
  refine l_iconst (v := (2 : Int32)) E dL_law_317 (by decide) ?_
  refine l_iadd E dL_law_318 ?_
  refine l_iald (k0 := 2) E (by decide) (hin 2 (by decide)) dL_law_319 ?_
  refine l_call (rest := []) (n := 2) E (C_k_memberOf l G _ _ m h1) ⟨by decide, by decide, by decide +kernel⟩ W411 W412 W413 W91 W414 rfl rfl rfl rfl (Nat.le_of_ble_eq_true rfl) (by decide) (by decide) dL_law_320 ?_
  refine l_aload2 E dL_law_323 ?_
  refine l_aload0 E dL_law_324 ?_
  refine l_iload3 E dL_law_325 ?_
  refine l_iconst (v := (1 : Int32)) E dL_law_326 (by decide) ?_
  refine l_iadd E dL_law_327 ?_
  refine l_iald (k0 := 1) E (by decide) (hin 1 (by decide)) dL_law_328 ?_
  refine l_aload0 E dL_law_329 ?_
  refine l_iload3 E dL_law_330 ?_
  refine l_iconst (v := (2 : Int32)) E dL_law_331 (by decide) ?_
  refine l_iadd E dL_law_332 ?_
  refine l_iald (k0 := 2) E (by decide) (hin 2 (by decide)) dL_law_333 ?_
  refine l_call (rest := [.int v]) (n := 2) E (C_r_memberOf l G _ _ m h2) ⟨by decide, by decide, by decide +kernel⟩ W1437 W1438 W1439 W103 W1440 rfl rfl rfl rfl (Nat.le_of_ble_eq_true rfl) (by decide) (by decide) dL_law_334 ?_
  exact l_eq (tgt := 1772) E dL_law_337 (by decide) (hgo _ hI)
set_option maxRecDepth 20000 in
theorem law_change {l : Launch} {p : Program} {e : Env} {s : State} {mi : MethodId} {below : List Frame} {meth : Method} {c : Code} {G : GG} {b L : Nat} {xs : Nat → Int32} {I : M → Prop} (E : LEn l p e s mi meth c G b L xs) {i : Nat} {m : M} (hin : ∀ k : Nat, k < 5 → i + k < L) (hs : OK_change I m) (hgo : ∀ m1 : M, I m1 → Lm l p e s mi below meth c G b 97 3849 1772 i [] m1) : Lm l p e s mi below meth c G b 97 3849 342 i [] m := by
  obtain ⟨v, m1, m2, h1, h2, hI⟩ := hs (xs (i + 1)) (xs (i + 2)) (xs (i + 3))
  refine l_aload1 E dL_law_342 ?_
  refine l_aload0 E dL_law_343 ?_
  refine l_iload3 E dL_law_344 ?_
  refine l_iconst (v := (1 : Int32)) E dL_law_345 (by decide) ?_
  refine l_iadd E dL_law_346 ?_
  refine l_iald (k0 := 1) E (by decide) (hin 1 (by decide)) dL_law_347 ?_
  refine l_aload0 E dL_law_348 ?_
  refine l_iload3 E dL_law_349 ?_
  refine l_iconst (v := (2 : Int32)) E dL_law_350 (by decide) ?_
  refine l_iadd E dL_law_351 ?_
  refine l_iald (k0 := 2) E (by decide) (hin 2 (by decide)) dL_law_352 ?_
  refine l_aload0 E dL_law_353 ?_
  refine l_iload3 E dL_law_354 ?_
  refine l_iconst (v := (3 : Int32)) E dL_law_355 (by decide) ?_
  refine l_iadd E dL_law_356 ?_
  refine l_iald (k0 := 3) E (by decide) (hin 3 (by decide)) dL_law_357 ?_
  refine l_call (rest := []) (n := 3) E (C_k_change l G _ _ _ m h1) ⟨by decide, by decide, by decide +kernel⟩ W535 W536 W537 W91 W538 rfl rfl rfl rfl (Nat.le_of_ble_eq_true rfl) (by decide) (by decide) dL_law_358 ?_
  refine l_aload2 E dL_law_361 ?_
  refine l_aload0 E dL_law_362 ?_
  refine l_iload3 E dL_law_363 ?_
  refine l_iconst (v := (1 : Int32)) E dL_law_364 (by decide) ?_
  refine l_iadd E dL_law_365 ?_
  refine l_iald (k0 := 1) E (by decide) (hin 1 (by decide)) dL_law_366 ?_
  refine l_aload0 E dL_law_367 ?_
  refine l_iload3 E dL_law_368 ?_
  refine l_iconst (v := (2 : Int32)) E dL_law_369 (by decide) ?_
  refine l_iadd E dL_law_370 ?_
  refine l_iald (k0 := 2) E (by decide) (hin 2 (by decide)) dL_law_371 ?_
  refine l_aload0 E dL_law_372 ?_
  refine l_iload3 E dL_law_373 ?_
  refine l_iconst (v := (3 : Int32)) E dL_law_374 (by decide) ?_
  refine l_iadd E dL_law_375 ?_
  refine l_iald (k0 := 3) E (by decide) (hin 3 (by decide)) dL_law_376 ?_
  refine l_call (rest := [.int v]) (n := 3) E (C_r_change l G _ _ _ m1 h2) ⟨by decide, by decide, by decide +kernel⟩ W1505 W1506 W1507 W103 W1508 rfl rfl rfl rfl (Nat.le_of_ble_eq_true rfl) (by decide) (by decide) dL_law_377 ?_
  exact l_eq (tgt := 1772) E dL_law_380 (by decide) (hgo _ hI)
set_option maxRecDepth 20000 in
theorem law_remake {l : Launch} {p : Program} {e : Env} {s : State} {mi : MethodId} {below : List Frame} {meth : Method} {c : Code} {G : GG} {b L : Nat} {xs : Nat → Int32} {I : M → Prop} (E : LEn l p e s mi meth c G b L xs) {i : Nat} {m : M} (hin : ∀ k : Nat, k < 5 → i + k < L) (hs : OK_remake I m) (hgo : ∀ m1 : M, I m1 → Lm l p e s mi below meth c G b 97 3849 1772 i [] m1) : Lm l p e s mi below meth c G b 97 3849 385 i [] m := by
  obtain ⟨v, m1, m2, h1, h2, hI⟩ := hs (xs (i + 1)) (xs (i + 2))
  refine l_aload1 E dL_law_385 ?_
  refine l_aload0 E dL_law_386 ?_
  refine l_iload3 E dL_law_387 ?_
  refine l_iconst (v := (1 : Int32)) E dL_law_388 (by decide) ?_
  refine l_iadd E dL_law_389 ?_
  refine l_iald (k0 := 1) E (by decide) (hin 1 (by decide)) dL_law_390 ?_
  refine l_aload0 E dL_law_391 ?_
  refine l_iload3 E dL_law_392 ?_
  refine l_iconst (v := (2 : Int32)) E dL_law_393 (by decide) ?_
  refine l_iadd E dL_law_394 ?_
  refine l_iald (k0 := 2) E (by decide) (hin 2 (by decide)) dL_law_395 ?_
  refine l_call (rest := []) (n := 2) E (C_k_remake l G _ _ m h1) ⟨by decide, by decide, by decide +kernel⟩ W546 W547 W548 W91 W549 rfl rfl rfl rfl (Nat.le_of_ble_eq_true rfl) (by decide) (by decide) dL_law_396 ?_
  refine l_aload2 E dL_law_399 ?_
  refine l_aload0 E dL_law_400 ?_
  refine l_iload3 E dL_law_401 ?_
  refine l_iconst (v := (1 : Int32)) E dL_law_402 (by decide) ?_
  refine l_iadd E dL_law_403 ?_
  refine l_iald (k0 := 1) E (by decide) (hin 1 (by decide)) dL_law_404 ?_
  refine l_aload0 E dL_law_405 ?_
  refine l_iload3 E dL_law_406 ?_
  refine l_iconst (v := (2 : Int32)) E dL_law_407 (by decide) ?_
  refine l_iadd E dL_law_408 ?_
  refine l_iald (k0 := 2) E (by decide) (hin 2 (by decide)) dL_law_409 ?_
  refine l_call (rest := [.int v]) (n := 2) E (C_r_remake l G _ _ m1 h2) ⟨by decide, by decide, by decide +kernel⟩ W1513 W1514 W1515 W103 W1516 rfl rfl rfl rfl (Nat.le_of_ble_eq_true rfl) (by decide) (by decide) dL_law_410 ?_
  exact l_eq (tgt := 1772) E dL_law_413 (by decide) (hgo _ hI)
set_option maxRecDepth 20000 in
theorem law_ship {l : Launch} {p : Program} {e : Env} {s : State} {mi : MethodId} {below : List Frame} {meth : Method} {c : Code} {G : GG} {b L : Nat} {xs : Nat → Int32} {I : M → Prop} (E : LEn l p e s mi meth c G b L xs) {i : Nat} {m : M} (hin : ∀ k : Nat, k < 5 → i + k < L) (hs : OK_ship I m) (hgo : ∀ m1 : M, I m1 → Lm l p e s mi below meth c G b 97 3849 1772 i [] m1) : Lm l p e s mi below meth c G b 97 3849 418 i [] m := by
  obtain ⟨v, m1, m2, h1, h2, hI⟩ := hs (xs (i + 1)) (xs (i + 2))
  refine l_aload1 E dL_law_418 ?_
  refine l_aload0 E dL_law_419 ?_
  refine l_iload3 E dL_law_420 ?_
  refine l_iconst (v := (1 : Int32)) E dL_law_421 (by decide) ?_
  refine l_iadd E dL_law_422 ?_
  refine l_iald (k0 := 1) E (by decide) (hin 1 (by decide)) dL_law_423 ?_
  refine l_aload0 E dL_law_424 ?_
  refine l_iload3 E dL_law_425 ?_
  refine l_iconst (v := (2 : Int32)) E dL_law_426 (by decide) ?_
  refine l_iadd E dL_law_427 ?_
  refine l_iald (k0 := 2) E (by decide) (hin 2 (by decide)) dL_law_428 ?_
  refine l_call (rest := []) (n := 2) E (C_k_ship l G _ _ m h1) ⟨by decide, by decide, by decide +kernel⟩ W550 W551 W552 W91 W553 rfl rfl rfl rfl (Nat.le_of_ble_eq_true rfl) (by decide) (by decide) dL_law_429 ?_
  refine l_aload2 E dL_law_432 ?_
  refine l_aload0 E dL_law_433 ?_
  refine l_iload3 E dL_law_434 ?_
  refine l_iconst (v := (1 : Int32)) E dL_law_435 (by decide) ?_
  refine l_iadd E dL_law_436 ?_
  refine l_iald (k0 := 1) E (by decide) (hin 1 (by decide)) dL_law_437 ?_
  refine l_aload0 E dL_law_438 ?_
  refine l_iload3 E dL_law_439 ?_
  refine l_iconst (v := (2 : Int32)) E dL_law_440 (by decide) ?_
  refine l_iadd E dL_law_441 ?_
  refine l_iald (k0 := 2) E (by decide) (hin 2 (by decide)) dL_law_442 ?_
  refine l_call (rest := [.int v]) (n := 2) E (C_r_ship l G _ _ m1 h2) ⟨by decide, by decide, by decide +kernel⟩ W1517 W1518 W1519 W103 W1520 rfl rfl rfl rfl (Nat.le_of_ble_eq_true rfl) (by decide) (by decide) dL_law_443 ?_
  exact l_eq (tgt := 1772) E dL_law_446 (by decide) (hgo _ hI)
set_option maxRecDepth 20000 in
theorem law_bench {l : Launch} {p : Program} {e : Env} {s : State} {mi : MethodId} {below : List Frame} {meth : Method} {c : Code} {G : GG} {b L : Nat} {xs : Nat → Int32} {I : M → Prop} (E : LEn l p e s mi meth c G b L xs) {i : Nat} {m : M} (hin : ∀ k : Nat, k < 5 → i + k < L) (hs : OK_bench I m) (hgo : ∀ m1 : M, I m1 → Lm l p e s mi below meth c G b 97 3849 1772 i [] m1) : Lm l p e s mi below meth c G b 97 3849 451 i [] m := by
  obtain ⟨v, m1, m2, h1, h2, hI⟩ := hs (xs (i + 1)) (xs (i + 2)) (xs (i + 3))
  refine l_aload1 E dL_law_451 ?_
  refine l_aload0 E dL_law_452 ?_
  refine l_iload3 E dL_law_453 ?_
  refine l_iconst (v := (1 : Int32)) E dL_law_454 (by decide) ?_
  refine l_iadd E dL_law_455 ?_
  refine l_iald (k0 := 1) E (by decide) (hin 1 (by decide)) dL_law_456 ?_
  refine l_aload0 E dL_law_457 ?_
  refine l_iload3 E dL_law_458 ?_
  refine l_iconst (v := (2 : Int32)) E dL_law_459 (by decide) ?_
  refine l_iadd E dL_law_460 ?_
  refine l_iald (k0 := 2) E (by decide) (hin 2 (by decide)) dL_law_461 ?_
  refine l_aload0 E dL_law_462 ?_
  refine l_iload3 E dL_law_463 ?_
  refine l_iconst (v := (3 : Int32)) E dL_law_464 (by decide) ?_
  refine l_iadd E dL_law_465 ?_
  refine l_iald (k0 := 3) E (by decide) (hin 3 (by decide)) dL_law_466 ?_
  refine l_call (rest := []) (n := 3) E (C_k_bench l G _ _ _ m h1) ⟨by decide, by decide, by decide +kernel⟩ W554 W555 W556 W91 W557 rfl rfl rfl rfl (Nat.le_of_ble_eq_true rfl) (by decide) (by decide) dL_law_467 ?_
  refine l_aload2 E dL_law_470 ?_
  refine l_aload0 E dL_law_471 ?_
  refine l_iload3 E dL_law_472 ?_
  refine l_iconst (v := (1 : Int32)) E dL_law_473 (by decide) ?_
  refine l_iadd E dL_law_474 ?_
  refine l_iald (k0 := 1) E (by decide) (hin 1 (by decide)) dL_law_475 ?_
  refine l_aload0 E dL_law_476 ?_
  refine l_iload3 E dL_law_477 ?_
  refine l_iconst (v := (2 : Int32)) E dL_law_478 (by decide) ?_
  refine l_iadd E dL_law_479 ?_
  refine l_iald (k0 := 2) E (by decide) (hin 2 (by decide)) dL_law_480 ?_
  refine l_aload0 E dL_law_481 ?_
  refine l_iload3 E dL_law_482 ?_
  refine l_iconst (v := (3 : Int32)) E dL_law_483 (by decide) ?_
  refine l_iadd E dL_law_484 ?_
  refine l_iald (k0 := 3) E (by decide) (hin 3 (by decide)) dL_law_485 ?_
  refine l_call (rest := [.int v]) (n := 3) E (C_r_bench l G _ _ _ m1 h2) ⟨by decide, by decide, by decide +kernel⟩ W1521 W1522 W1523 W103 W1524 rfl rfl rfl rfl (Nat.le_of_ble_eq_true rfl) (by decide) (by decide) dL_law_486 ?_
  exact l_eq (tgt := 1772) E dL_law_489 (by decide) (hgo _ hI)
set_option maxRecDepth 20000 in
theorem law_benchOf {l : Launch} {p : Program} {e : Env} {s : State} {mi : MethodId} {below : List Frame} {meth : Method} {c : Code} {G : GG} {b L : Nat} {xs : Nat → Int32} {I : M → Prop} (E : LEn l p e s mi meth c G b L xs) {i : Nat} {m : M} (hin : ∀ k : Nat, k < 5 → i + k < L) (hs : OK_benchOf I m) (hgo : ∀ m1 : M, I m1 → Lm l p e s mi below meth c G b 97 3849 1772 i [] m1) : Lm l p e s mi below meth c G b 97 3849 494 i [] m := by
  obtain ⟨v, h1, h2, hI⟩ := hs (xs (i + 1)) (xs (i + 2))
  refine l_aload1 E dL_law_494 ?_
  refine l_aload0 E dL_law_495 ?_
  refine l_iload3 E dL_law_496 ?_
  refine l_iconst (v := (1 : Int32)) E dL_law_497 (by decide) ?_
  refine l_iadd E dL_law_498 ?_
  refine l_iald (k0 := 1) E (by decide) (hin 1 (by decide)) dL_law_499 ?_
  refine l_aload0 E dL_law_500 ?_
  refine l_iload3 E dL_law_501 ?_
  refine l_iconst (v := (2 : Int32)) E dL_law_502 (by decide) ?_
  refine l_iadd E dL_law_503 ?_
  refine l_iald (k0 := 2) E (by decide) (hin 2 (by decide)) dL_law_504 ?_
  refine l_call (rest := []) (n := 2) E (C_k_benchOf l G _ _ m h1) ⟨by decide, by decide, by decide +kernel⟩ W558 W559 W560 W91 W561 rfl rfl rfl rfl (Nat.le_of_ble_eq_true rfl) (by decide) (by decide) dL_law_505 ?_
  refine l_aload2 E dL_law_508 ?_
  refine l_aload0 E dL_law_509 ?_
  refine l_iload3 E dL_law_510 ?_
  refine l_iconst (v := (1 : Int32)) E dL_law_511 (by decide) ?_
  refine l_iadd E dL_law_512 ?_
  refine l_iald (k0 := 1) E (by decide) (hin 1 (by decide)) dL_law_513 ?_
  refine l_aload0 E dL_law_514 ?_
  refine l_iload3 E dL_law_515 ?_
  refine l_iconst (v := (2 : Int32)) E dL_law_516 (by decide) ?_
  refine l_iadd E dL_law_517 ?_
  refine l_iald (k0 := 2) E (by decide) (hin 2 (by decide)) dL_law_518 ?_
  refine l_call (rest := [.int v]) (n := 2) E (C_r_benchOf l G _ _ m h2) ⟨by decide, by decide, by decide +kernel⟩ W1525 W1526 W1527 W103 W1528 rfl rfl rfl rfl (Nat.le_of_ble_eq_true rfl) (by decide) (by decide) dL_law_519 ?_
  exact l_eq (tgt := 1772) E dL_law_522 (by decide) (hgo _ hI)
set_option maxRecDepth 20000 in
theorem law_rock {l : Launch} {p : Program} {e : Env} {s : State} {mi : MethodId} {below : List Frame} {meth : Method} {c : Code} {G : GG} {b L : Nat} {xs : Nat → Int32} {I : M → Prop} (E : LEn l p e s mi meth c G b L xs) {i : Nat} {m : M} (hin : ∀ k : Nat, k < 5 → i + k < L) (hs : OK_rock I m) (hgo : ∀ m1 : M, I m1 → Lm l p e s mi below meth c G b 97 3849 1772 i [] m1) : Lm l p e s mi below meth c G b 97 3849 527 i [] m := by
  obtain ⟨v, m1, m2, h1, h2, hI⟩ := hs (xs (i + 1)) (xs (i + 2))
  refine l_aload1 E dL_law_527 ?_
  refine l_aload0 E dL_law_528 ?_
  refine l_iload3 E dL_law_529 ?_
  refine l_iconst (v := (1 : Int32)) E dL_law_530 (by decide) ?_
  refine l_iadd E dL_law_531 ?_
  refine l_iald (k0 := 1) E (by decide) (hin 1 (by decide)) dL_law_532 ?_
  refine l_aload0 E dL_law_533 ?_
  refine l_iload3 E dL_law_534 ?_
  refine l_iconst (v := (2 : Int32)) E dL_law_535 (by decide) ?_
  refine l_iadd E dL_law_536 ?_
  refine l_iald (k0 := 2) E (by decide) (hin 2 (by decide)) dL_law_537 ?_
  refine l_call (rest := []) (n := 2) E (C_k_rock l G _ _ m h1) ⟨by decide, by decide, by decide +kernel⟩ W562 W563 W564 W91 W565 rfl rfl rfl rfl (Nat.le_of_ble_eq_true rfl) (by decide) (by decide) dL_law_538 ?_
  refine l_aload2 E dL_law_541 ?_
  refine l_aload0 E dL_law_542 ?_
  refine l_iload3 E dL_law_543 ?_
  refine l_iconst (v := (1 : Int32)) E dL_law_544 (by decide) ?_
  refine l_iadd E dL_law_545 ?_
  refine l_iald (k0 := 1) E (by decide) (hin 1 (by decide)) dL_law_546 ?_
  refine l_aload0 E dL_law_547 ?_
  refine l_iload3 E dL_law_548 ?_
  refine l_iconst (v := (2 : Int32)) E dL_law_549 (by decide) ?_
  refine l_iadd E dL_law_550 ?_
  refine l_iald (k0 := 2) E (by decide) (hin 2 (by decide)) dL_law_551 ?_
  refine l_call (rest := [.int v]) (n := 2) E (C_r_rock l G _ _ m1 h2) ⟨by decide, by decide, by decide +kernel⟩ W1529 W1530 W1531 W103 W1532 rfl rfl rfl rfl (Nat.le_of_ble_eq_true rfl) (by decide) (by decide) dL_law_552 ?_
  exact l_eq (tgt := 1772) E dL_law_555 (by decide) (hgo _ hI)
set_option maxRecDepth 20000 in
theorem law_ends {l : Launch} {p : Program} {e : Env} {s : State} {mi : MethodId} {below : List Frame} {meth : Method} {c : Code} {G : GG} {b L : Nat} {xs : Nat → Int32} {I : M → Prop} (E : LEn l p e s mi meth c G b L xs) {i : Nat} {m : M} (hin : ∀ k : Nat, k < 5 → i + k < L) (hs : OK_ends I m) (hgo : ∀ m1 : M, I m1 → Lm l p e s mi below meth c G b 97 3849 1772 i [] m1) : Lm l p e s mi below meth c G b 97 3849 560 i [] m := by
  obtain ⟨v, m1, m2, h1, h2, hI⟩ := hs (xs (i + 1))
  refine l_aload1 E dL_law_560 ?_
  refine l_aload0 E dL_law_561 ?_
  refine l_iload3 E dL_law_562 ?_
  refine l_iconst (v := (1 : Int32)) E dL_law_563 (by decide) ?_
  refine l_iadd E dL_law_564 ?_
  refine l_iald (k0 := 1) E (by decide) (hin 1 (by decide)) dL_law_565 ?_
  refine l_call (rest := []) (n := 1) E (C_k_ends l G _ m h1) ⟨by decide, by decide, by decide +kernel⟩ W566 W567 W568 W91 W569 rfl rfl rfl rfl (Nat.le_of_ble_eq_true rfl) (by decide) (by decide) dL_law_566 ?_
  refine l_aload2 E dL_law_569 ?_
  refine l_aload0 E dL_law_570 ?_
  refine l_iload3 E dL_law_571 ?_
  refine l_iconst (v := (1 : Int32)) E dL_law_572 (by decide) ?_
  refine l_iadd E dL_law_573 ?_
  refine l_iald (k0 := 1) E (by decide) (hin 1 (by decide)) dL_law_574 ?_
  refine l_call (rest := [.int v]) (n := 1) E (C_r_ends l G _ m1 h2) ⟨by decide, by decide, by decide +kernel⟩ W1533 W1534 W1535 W103 W1536 rfl rfl rfl rfl (Nat.le_of_ble_eq_true rfl) (by decide) (by decide) dL_law_575 ?_
  exact l_eq (tgt := 1772) E dL_law_578 (by decide) (hgo _ hI)
set_option maxRecDepth 20000 in
theorem law_anew {l : Launch} {p : Program} {e : Env} {s : State} {mi : MethodId} {below : List Frame} {meth : Method} {c : Code} {G : GG} {b L : Nat} {xs : Nat → Int32} {I : M → Prop} (E : LEn l p e s mi meth c G b L xs) {i : Nat} {m : M} (hin : ∀ k : Nat, k < 5 → i + k < L) (hs : OK_anew I m) (hgo : ∀ m1 : M, I m1 → Lm l p e s mi below meth c G b 97 3849 1772 i [] m1) : Lm l p e s mi below meth c G b 97 3849 583 i [] m := by
  obtain ⟨v, m1, m2, h1, h2, hI⟩ := hs 
  refine l_aload1 E dL_law_583 ?_
  refine l_call (rest := []) (n := 0) E (C_k_anew l G  m h1) ⟨by decide, by decide, by decide +kernel⟩ W570 W571 W572 W91 W573 rfl rfl rfl rfl (Nat.le_of_ble_eq_true rfl) (by decide) (by decide) dL_law_584 ?_
  refine l_aload2 E dL_law_587 ?_
  refine l_call (rest := [.int v]) (n := 0) E (C_r_anew l G  m1 h2) ⟨by decide, by decide, by decide +kernel⟩ W1537 W1538 W1539 W103 W1540 rfl rfl rfl rfl (Nat.le_of_ble_eq_true rfl) (by decide) (by decide) dL_law_588 ?_
  exact l_eq (tgt := 1772) E dL_law_591 (by decide) (hgo _ hI)
set_option maxRecDepth 20000 in
theorem law_state {l : Launch} {p : Program} {e : Env} {s : State} {mi : MethodId} {below : List Frame} {meth : Method} {c : Code} {G : GG} {b L : Nat} {xs : Nat → Int32} {I : M → Prop} (E : LEn l p e s mi meth c G b L xs) {i : Nat} {m : M} (hin : ∀ k : Nat, k < 5 → i + k < L) (hs : OK_state I m) (hgo : ∀ m1 : M, I m1 → Lm l p e s mi below meth c G b 97 3849 1772 i [] m1) : Lm l p e s mi below meth c G b 97 3849 596 i [] m := by
  obtain ⟨v, h1, h2, hI⟩ := hs (xs (i + 1))
  refine l_aload1 E dL_law_596 ?_
  refine l_aload0 E dL_law_597 ?_
  refine l_iload3 E dL_law_598 ?_
  refine l_iconst (v := (1 : Int32)) E dL_law_599 (by decide) ?_
  refine l_iadd E dL_law_600 ?_
  refine l_iald (k0 := 1) E (by decide) (hin 1 (by decide)) dL_law_601 ?_
  refine l_call (rest := []) (n := 1) E (C_k_state l G _ m h1) ⟨by decide, by decide, by decide +kernel⟩ W574 W575 W576 W91 W577 rfl rfl rfl rfl (Nat.le_of_ble_eq_true rfl) (by decide) (by decide) dL_law_602 ?_
  refine l_aload2 E dL_law_605 ?_
  refine l_aload0 E dL_law_606 ?_
  refine l_iload3 E dL_law_607 ?_
  refine l_iconst (v := (1 : Int32)) E dL_law_608 (by decide) ?_
  refine l_iadd E dL_law_609 ?_
  refine l_iald (k0 := 1) E (by decide) (hin 1 (by decide)) dL_law_610 ?_
  refine l_call (rest := [.int v]) (n := 1) E (C_r_state l G _ m h2) ⟨by decide, by decide, by decide +kernel⟩ W1541 W1542 W1543 W103 W1544 rfl rfl rfl rfl (Nat.le_of_ble_eq_true rfl) (by decide) (by decide) dL_law_611 ?_
  exact l_eq (tgt := 1772) E dL_law_614 (by decide) (hgo _ hI)
set_option maxRecDepth 20000 in
theorem law_feed {l : Launch} {p : Program} {e : Env} {s : State} {mi : MethodId} {below : List Frame} {meth : Method} {c : Code} {G : GG} {b L : Nat} {xs : Nat → Int32} {I : M → Prop} (E : LEn l p e s mi meth c G b L xs) {i : Nat} {m : M} (hin : ∀ k : Nat, k < 5 → i + k < L) (hs : OK_feed I m) (hgo : ∀ m1 : M, I m1 → Lm l p e s mi below meth c G b 97 3849 1772 i [] m1) : Lm l p e s mi below meth c G b 97 3849 619 i [] m := by
  obtain ⟨v, m1, m2, h1, h2, hI⟩ := hs ((Int32.toInt64 (xs (i + 1)) <<< (Int32.toInt64 (32 : Int32) &&& 63)) ||| (Int32.toInt64 (xs (i + 2)) &&& (4294967295 : Int64))) (xs (i + 3))
  refine l_aload1 E dL_law_619 ?_
  refine l_aload0 E dL_law_620 ?_
  refine l_iload3 E dL_law_621 ?_
  refine l_iconst (v := (1 : Int32)) E dL_law_622 (by decide) ?_
  refine l_iadd E dL_law_623 ?_
  refine l_iald (k0 := 1) E (by decide) (hin 1 (by decide)) dL_law_624 ?_
  refine l_i2l E dL_law_625 ?_
  refine l_bipush (v := (32 : Int32)) E dL_law_626 (by decide) ?_
  refine l_lshl E dL_law_628 ?_
  refine l_aload0 E dL_law_629 ?_
  refine l_iload3 E dL_law_630 ?_
  refine l_iconst (v := (2 : Int32)) E dL_law_631 (by decide) ?_
  refine l_iadd E dL_law_632 ?_
  refine l_iald (k0 := 2) E (by decide) (hin 2 (by decide)) dL_law_633 ?_
  refine l_i2l E dL_law_634 ?_
  refine l_ldc2 (v := (4294967295 : Int64)) E dL_law_635 W1858 ?_
  refine l_land E dL_law_638 ?_
  refine l_lor E dL_law_639 ?_
  refine l_aload0 E dL_law_640 ?_
  refine l_iload3 E dL_law_641 ?_
  refine l_iconst (v := (3 : Int32)) E dL_law_642 (by decide) ?_
  refine l_iadd E dL_law_643 ?_
  refine l_iald (k0 := 3) E (by decide) (hin 3 (by decide)) dL_law_644 ?_
  refine l_call (rest := []) (n := 2) E (C_k_feed l G _ _ m h1) ⟨by decide, by decide, by decide +kernel⟩ W583 W584 W585 W91 W586 rfl rfl rfl rfl (Nat.le_of_ble_eq_true rfl) (by decide) (by decide) dL_law_645 ?_
  refine l_aload2 E dL_law_648 ?_
  refine l_aload0 E dL_law_649 ?_
  refine l_iload3 E dL_law_650 ?_
  refine l_iconst (v := (1 : Int32)) E dL_law_651 (by decide) ?_
  refine l_iadd E dL_law_652 ?_
  refine l_iald (k0 := 1) E (by decide) (hin 1 (by decide)) dL_law_653 ?_
  refine l_i2l E dL_law_654 ?_
  refine l_bipush (v := (32 : Int32)) E dL_law_655 (by decide) ?_
  refine l_lshl E dL_law_657 ?_
  refine l_aload0 E dL_law_658 ?_
  refine l_iload3 E dL_law_659 ?_
  refine l_iconst (v := (2 : Int32)) E dL_law_660 (by decide) ?_
  refine l_iadd E dL_law_661 ?_
  refine l_iald (k0 := 2) E (by decide) (hin 2 (by decide)) dL_law_662 ?_
  refine l_i2l E dL_law_663 ?_
  refine l_ldc2 (v := (4294967295 : Int64)) E dL_law_664 W1858 ?_
  refine l_land E dL_law_667 ?_
  refine l_lor E dL_law_668 ?_
  refine l_aload0 E dL_law_669 ?_
  refine l_iload3 E dL_law_670 ?_
  refine l_iconst (v := (3 : Int32)) E dL_law_671 (by decide) ?_
  refine l_iadd E dL_law_672 ?_
  refine l_iald (k0 := 3) E (by decide) (hin 3 (by decide)) dL_law_673 ?_
  refine l_call (rest := [.int v]) (n := 2) E (C_r_feed l G _ _ m1 h2) ⟨by decide, by decide, by decide +kernel⟩ W1355 W1356 W1357 W103 W1358 rfl rfl rfl rfl (Nat.le_of_ble_eq_true rfl) (by decide) (by decide) dL_law_674 ?_
  exact l_eq (tgt := 1772) E dL_law_677 (by decide) (hgo _ hI)
set_option maxRecDepth 20000 in
theorem law_rules {l : Launch} {p : Program} {e : Env} {s : State} {mi : MethodId} {below : List Frame} {meth : Method} {c : Code} {G : GG} {b L : Nat} {xs : Nat → Int32} {I : M → Prop} (E : LEn l p e s mi meth c G b L xs) {i : Nat} {m : M} (hin : ∀ k : Nat, k < 5 → i + k < L) (hs : OK_rules I m) (hgo : ∀ m1 : M, I m1 → Lm l p e s mi below meth c G b 97 3849 1772 i [] m1) : Lm l p e s mi below meth c G b 97 3849 682 i [] m := by
  obtain ⟨v, m1, m2, h1, h2, hI⟩ := hs 
  refine l_aload1 E dL_law_682 ?_
  refine l_call (rest := []) (n := 0) E (C_k_rules l G  m h1) ⟨by decide, by decide, by decide +kernel⟩ W595 W596 W597 W91 W598 rfl rfl rfl rfl (Nat.le_of_ble_eq_true rfl) (by decide) (by decide) dL_law_683 ?_
  refine l_aload2 E dL_law_686 ?_
  refine l_call (rest := [.int v]) (n := 0) E (C_r_rules l G  m1 h2) ⟨by decide, by decide, by decide +kernel⟩ W1363 W1364 W1365 W103 W1366 rfl rfl rfl rfl (Nat.le_of_ble_eq_true rfl) (by decide) (by decide) dL_law_687 ?_
  exact l_eq (tgt := 1772) E dL_law_690 (by decide) (hgo _ hI)
set_option maxRecDepth 20000 in
theorem law_night {l : Launch} {p : Program} {e : Env} {s : State} {mi : MethodId} {below : List Frame} {meth : Method} {c : Code} {G : GG} {b L : Nat} {xs : Nat → Int32} {I : M → Prop} (E : LEn l p e s mi meth c G b L xs) {i : Nat} {m : M} (hin : ∀ k : Nat, k < 5 → i + k < L) (hs : OK_night I m) (hgo : ∀ m1 : M, I m1 → Lm l p e s mi below meth c G b 97 3849 1772 i [] m1) : Lm l p e s mi below meth c G b 97 3849 695 i [] m := by
  obtain ⟨v, m1, m2, h1, h2, hI⟩ := hs 
  refine l_aload1 E dL_law_695 ?_
  refine l_call (rest := []) (n := 0) E (C_k_night l G  m h1) ⟨by decide, by decide, by decide +kernel⟩ W788 W789 W790 W91 W791 rfl rfl rfl rfl (Nat.le_of_ble_eq_true rfl) (by decide) (by decide) dL_law_696 ?_
  refine l_aload2 E dL_law_699 ?_
  refine l_call (rest := [.int v]) (n := 0) E (C_r_night l G  m1 h2) ⟨by decide, by decide, by decide +kernel⟩ W1553 W1554 W1555 W103 W1556 rfl rfl rfl rfl (Nat.le_of_ble_eq_true rfl) (by decide) (by decide) dL_law_700 ?_
  exact l_eq (tgt := 1772) E dL_law_703 (by decide) (hgo _ hI)
set_option maxRecDepth 20000 in
theorem law_on {l : Launch} {p : Program} {e : Env} {s : State} {mi : MethodId} {below : List Frame} {meth : Method} {c : Code} {G : GG} {b L : Nat} {xs : Nat → Int32} {I : M → Prop} (E : LEn l p e s mi meth c G b L xs) {i : Nat} {m : M} (hin : ∀ k : Nat, k < 5 → i + k < L) (hs : OK_on I m) (hgo : ∀ m1 : M, I m1 → Lm l p e s mi below meth c G b 97 3849 1772 i [] m1) : Lm l p e s mi below meth c G b 97 3849 708 i [] m := by
  obtain ⟨v, m1, m2, h1, h2, hI⟩ := hs (xs (i + 1))
  refine l_aload1 E dL_law_708 ?_
  refine l_aload0 E dL_law_709 ?_
  refine l_iload3 E dL_law_710 ?_
  refine l_iconst (v := (1 : Int32)) E dL_law_711 (by decide) ?_
  refine l_iadd E dL_law_712 ?_
  refine l_iald (k0 := 1) E (by decide) (hin 1 (by decide)) dL_law_713 ?_
  refine l_call (rest := []) (n := 1) E (C_k_on l G _ m h1) ⟨by decide, by decide, by decide +kernel⟩ W818 W819 W820 W91 W821 rfl rfl rfl rfl (Nat.le_of_ble_eq_true rfl) (by decide) (by decide) dL_law_714 ?_
  refine l_aload2 E dL_law_717 ?_
  refine l_aload0 E dL_law_718 ?_
  refine l_iload3 E dL_law_719 ?_
  refine l_iconst (v := (1 : Int32)) E dL_law_720 (by decide) ?_
  refine l_iadd E dL_law_721 ?_
  refine l_iald (k0 := 1) E (by decide) (hin 1 (by decide)) dL_law_722 ?_
  refine l_call (rest := [.int v]) (n := 1) E (C_r_on l G _ m1 h2) ⟨by decide, by decide, by decide +kernel⟩ W1578 W1579 W1580 W103 W1581 rfl rfl rfl rfl (Nat.le_of_ble_eq_true rfl) (by decide) (by decide) dL_law_723 ?_
  exact l_eq (tgt := 1772) E dL_law_726 (by decide) (hgo _ hI)
set_option maxRecDepth 20000 in
theorem law_when {l : Launch} {p : Program} {e : Env} {s : State} {mi : MethodId} {below : List Frame} {meth : Method} {c : Code} {G : GG} {b L : Nat} {xs : Nat → Int32} {I : M → Prop} (E : LEn l p e s mi meth c G b L xs) {i : Nat} {m : M} (hin : ∀ k : Nat, k < 5 → i + k < L) (hs : OK_when I m) (hgo : ∀ m1 : M, I m1 → Lm l p e s mi below meth c G b 97 3849 1772 i [] m1) : Lm l p e s mi below meth c G b 97 3849 731 i [] m := by
  obtain ⟨v, m1, m2, h1, h2, hI⟩ := hs (xs (i + 1))
  refine l_aload1 E dL_law_731 ?_
  refine l_aload0 E dL_law_732 ?_
  refine l_iload3 E dL_law_733 ?_
  refine l_iconst (v := (1 : Int32)) E dL_law_734 (by decide) ?_
  refine l_iadd E dL_law_735 ?_
  refine l_iald (k0 := 1) E (by decide) (hin 1 (by decide)) dL_law_736 ?_
  refine l_call (rest := []) (n := 1) E (C_k_when l G _ m h1) ⟨by decide, by decide, by decide +kernel⟩ W839 W840 W841 W91 W842 rfl rfl rfl rfl (Nat.le_of_ble_eq_true rfl) (by decide) (by decide) dL_law_737 ?_
  refine l_aload2 E dL_law_740 ?_
  refine l_aload0 E dL_law_741 ?_
  refine l_iload3 E dL_law_742 ?_
  refine l_iconst (v := (1 : Int32)) E dL_law_743 (by decide) ?_
  refine l_iadd E dL_law_744 ?_
  refine l_iald (k0 := 1) E (by decide) (hin 1 (by decide)) dL_law_745 ?_
  refine l_call (rest := [.int v]) (n := 1) E (C_r_when l G _ m1 h2) ⟨by decide, by decide, by decide +kernel⟩ W1594 W1595 W1596 W103 W1597 rfl rfl rfl rfl (Nat.le_of_ble_eq_true rfl) (by decide) (by decide) dL_law_746 ?_
  exact l_eq (tgt := 1772) E dL_law_749 (by decide) (hgo _ hI)
set_option maxRecDepth 20000 in
theorem law_votesFor {l : Launch} {p : Program} {e : Env} {s : State} {mi : MethodId} {below : List Frame} {meth : Method} {c : Code} {G : GG} {b L : Nat} {xs : Nat → Int32} {I : M → Prop} (E : LEn l p e s mi meth c G b L xs) {i : Nat} {m : M} (hin : ∀ k : Nat, k < 5 → i + k < L) (hs : OK_votesFor I m) (hgo : ∀ m1 : M, I m1 → Lm l p e s mi below meth c G b 97 3849 1772 i [] m1) : Lm l p e s mi below meth c G b 97 3849 754 i [] m := by
  obtain ⟨v, m1, m2, h1, h2, hI⟩ := hs (xs (i + 1))
  refine l_aload1 E dL_law_754 ?_
  refine l_aload0 E dL_law_755 ?_
  refine l_iload3 E dL_law_756 ?_
  refine l_iconst (v := (1 : Int32)) E dL_law_757 (by decide) ?_
  refine l_iadd E dL_law_758 ?_
  refine l_iald (k0 := 1) E (by decide) (hin 1 (by decide)) dL_law_759 ?_
  refine l_call (rest := []) (n := 1) E (C_k_votesFor l G _ m h1) ⟨by decide, by decide, by decide +kernel⟩ W844 W845 W846 W91 W847 rfl rfl rfl rfl (Nat.le_of_ble_eq_true rfl) (by decide) (by decide) dL_law_760 ?_
  refine l_aload2 E dL_law_763 ?_
  refine l_aload0 E dL_law_764 ?_
  refine l_iload3 E dL_law_765 ?_
  refine l_iconst (v := (1 : Int32)) E dL_law_766 (by decide) ?_
  refine l_iadd E dL_law_767 ?_
  refine l_iald (k0 := 1) E (by decide) (hin 1 (by decide)) dL_law_768 ?_
  refine l_call (rest := [.int v]) (n := 1) E (C_r_votesFor l G _ m1 h2) ⟨by decide, by decide, by decide +kernel⟩ W1598 W1599 W1600 W103 W1601 rfl rfl rfl rfl (Nat.le_of_ble_eq_true rfl) (by decide) (by decide) dL_law_769 ?_
  exact l_eq (tgt := 1772) E dL_law_772 (by decide) (hgo _ hI)
set_option maxRecDepth 20000 in
theorem law_benchFor {l : Launch} {p : Program} {e : Env} {s : State} {mi : MethodId} {below : List Frame} {meth : Method} {c : Code} {G : GG} {b L : Nat} {xs : Nat → Int32} {I : M → Prop} (E : LEn l p e s mi meth c G b L xs) {i : Nat} {m : M} (hin : ∀ k : Nat, k < 5 → i + k < L) (hs : OK_benchFor I m) (hgo : ∀ m1 : M, I m1 → Lm l p e s mi below meth c G b 97 3849 1772 i [] m1) : Lm l p e s mi below meth c G b 97 3849 777 i [] m := by
  obtain ⟨v, m1, m2, h1, h2, hI⟩ := hs (xs (i + 1))
  refine l_aload1 E dL_law_777 ?_
  refine l_aload0 E dL_law_778 ?_
  refine l_iload3 E dL_law_779 ?_
  refine l_iconst (v := (1 : Int32)) E dL_law_780 (by decide) ?_
  refine l_iadd E dL_law_781 ?_
  refine l_iald (k0 := 1) E (by decide) (hin 1 (by decide)) dL_law_782 ?_
  refine l_call (rest := []) (n := 1) E (C_k_benchFor l G _ m h1) ⟨by decide, by decide, by decide +kernel⟩ W852 W853 W854 W91 W855 rfl rfl rfl rfl (Nat.le_of_ble_eq_true rfl) (by decide) (by decide) dL_law_783 ?_
  refine l_aload2 E dL_law_786 ?_
  refine l_aload0 E dL_law_787 ?_
  refine l_iload3 E dL_law_788 ?_
  refine l_iconst (v := (1 : Int32)) E dL_law_789 (by decide) ?_
  refine l_iadd E dL_law_790 ?_
  refine l_iald (k0 := 1) E (by decide) (hin 1 (by decide)) dL_law_791 ?_
  refine l_call (rest := [.int v]) (n := 1) E (C_r_benchFor l G _ m1 h2) ⟨by decide, by decide, by decide +kernel⟩ W1606 W1607 W1608 W103 W1609 rfl rfl rfl rfl (Nat.le_of_ble_eq_true rfl) (by decide) (by decide) dL_law_792 ?_
  exact l_eq (tgt := 1772) E dL_law_795 (by decide) (hgo _ hI)
set_option maxRecDepth 20000 in
theorem law_fund {l : Launch} {p : Program} {e : Env} {s : State} {mi : MethodId} {below : List Frame} {meth : Method} {c : Code} {G : GG} {b L : Nat} {xs : Nat → Int32} {I : M → Prop} (E : LEn l p e s mi meth c G b L xs) {i : Nat} {m : M} (hin : ∀ k : Nat, k < 5 → i + k < L) (hs : OK_fund I m) (hgo : ∀ m1 : M, I m1 → Lm l p e s mi below meth c G b 97 3849 1772 i [] m1) : Lm l p e s mi below meth c G b 97 3849 800 i [] m := by
  obtain ⟨v, m1, m2, h1, h2, hI⟩ := hs (xs (i + 1))
  refine l_aload1 E dL_law_800 ?_
  refine l_aload0 E dL_law_801 ?_
  refine l_iload3 E dL_law_802 ?_
  refine l_iconst (v := (1 : Int32)) E dL_law_803 (by decide) ?_
  refine l_iadd E dL_law_804 ?_
  refine l_iald (k0 := 1) E (by decide) (hin 1 (by decide)) dL_law_805 ?_
  refine l_call (rest := []) (n := 1) E (C_k_fund l G _ m h1) ⟨by decide, by decide, by decide +kernel⟩ W856 W857 W858 W91 W859 rfl rfl rfl rfl (Nat.le_of_ble_eq_true rfl) (by decide) (by decide) dL_law_806 ?_
  refine l_aload2 E dL_law_809 ?_
  refine l_aload0 E dL_law_810 ?_
  refine l_iload3 E dL_law_811 ?_
  refine l_iconst (v := (1 : Int32)) E dL_law_812 (by decide) ?_
  refine l_iadd E dL_law_813 ?_
  refine l_iald (k0 := 1) E (by decide) (hin 1 (by decide)) dL_law_814 ?_
  refine l_call (rest := [.int v]) (n := 1) E (C_r_fund l G _ m1 h2) ⟨by decide, by decide, by decide +kernel⟩ W1610 W1611 W1612 W103 W1613 rfl rfl rfl rfl (Nat.le_of_ble_eq_true rfl) (by decide) (by decide) dL_law_815 ?_
  exact l_eq (tgt := 1772) E dL_law_818 (by decide) (hgo _ hI)
set_option maxRecDepth 20000 in
theorem law_wrecks {l : Launch} {p : Program} {e : Env} {s : State} {mi : MethodId} {below : List Frame} {meth : Method} {c : Code} {G : GG} {b L : Nat} {xs : Nat → Int32} {I : M → Prop} (E : LEn l p e s mi meth c G b L xs) {i : Nat} {m : M} (hin : ∀ k : Nat, k < 5 → i + k < L) (hs : OK_wrecks I m) (hgo : ∀ m1 : M, I m1 → Lm l p e s mi below meth c G b 97 3849 1772 i [] m1) : Lm l p e s mi below meth c G b 97 3849 823 i [] m := by
  obtain ⟨v, m1, m2, h1, h2, hI⟩ := hs (xs (i + 1))
  refine l_aload1 E dL_law_823 ?_
  refine l_aload0 E dL_law_824 ?_
  refine l_iload3 E dL_law_825 ?_
  refine l_iconst (v := (1 : Int32)) E dL_law_826 (by decide) ?_
  refine l_iadd E dL_law_827 ?_
  refine l_iald (k0 := 1) E (by decide) (hin 1 (by decide)) dL_law_828 ?_
  refine l_call (rest := []) (n := 1) E (C_k_wrecks l G _ m h1) ⟨by decide, by decide, by decide +kernel⟩ W860 W861 W862 W91 W863 rfl rfl rfl rfl (Nat.le_of_ble_eq_true rfl) (by decide) (by decide) dL_law_829 ?_
  refine l_aload2 E dL_law_832 ?_
  refine l_aload0 E dL_law_833 ?_
  refine l_iload3 E dL_law_834 ?_
  refine l_iconst (v := (1 : Int32)) E dL_law_835 (by decide) ?_
  refine l_iadd E dL_law_836 ?_
  refine l_iald (k0 := 1) E (by decide) (hin 1 (by decide)) dL_law_837 ?_
  refine l_call (rest := [.int v]) (n := 1) E (C_r_wrecks l G _ m1 h2) ⟨by decide, by decide, by decide +kernel⟩ W1614 W1615 W1616 W103 W1617 rfl rfl rfl rfl (Nat.le_of_ble_eq_true rfl) (by decide) (by decide) dL_law_838 ?_
  exact l_eq (tgt := 1772) E dL_law_841 (by decide) (hgo _ hI)
set_option maxRecDepth 20000 in
theorem law_parties {l : Launch} {p : Program} {e : Env} {s : State} {mi : MethodId} {below : List Frame} {meth : Method} {c : Code} {G : GG} {b L : Nat} {xs : Nat → Int32} {I : M → Prop} (E : LEn l p e s mi meth c G b L xs) {i : Nat} {m : M} (hin : ∀ k : Nat, k < 5 → i + k < L) (hs : OK_parties I m) (hgo : ∀ m1 : M, I m1 → Lm l p e s mi below meth c G b 97 3849 1772 i [] m1) : Lm l p e s mi below meth c G b 97 3849 846 i [] m := by
  obtain ⟨v, h1, h2, hI⟩ := hs (xs (i + 1))
  refine l_aload1 E dL_law_846 ?_
  refine l_aload0 E dL_law_847 ?_
  refine l_iload3 E dL_law_848 ?_
  refine l_iconst (v := (1 : Int32)) E dL_law_849 (by decide) ?_
  refine l_iadd E dL_law_850 ?_
  refine l_iald (k0 := 1) E (by decide) (hin 1 (by decide)) dL_law_851 ?_
  refine l_call (rest := []) (n := 1) E (C_k_parties l G _ m h1) ⟨by decide, by decide, by decide +kernel⟩ W864 W865 W866 W91 W867 rfl rfl rfl rfl (Nat.le_of_ble_eq_true rfl) (by decide) (by decide) dL_law_852 ?_
  refine l_aload2 E dL_law_855 ?_
  refine l_aload0 E dL_law_856 ?_
  refine l_iload3 E dL_law_857 ?_
  refine l_iconst (v := (1 : Int32)) E dL_law_858 (by decide) ?_
  refine l_iadd E dL_law_859 ?_
  refine l_iald (k0 := 1) E (by decide) (hin 1 (by decide)) dL_law_860 ?_
  refine l_call (rest := [.int v]) (n := 1) E (C_r_parties l G _ m h2) ⟨by decide, by decide, by decide +kernel⟩ W1618 W1619 W1620 W103 W1621 rfl rfl rfl rfl (Nat.le_of_ble_eq_true rfl) (by decide) (by decide) dL_law_861 ?_
  exact l_eq (tgt := 1772) E dL_law_864 (by decide) (hgo _ hI)
set_option maxRecDepth 20000 in
theorem law_power {l : Launch} {p : Program} {e : Env} {s : State} {mi : MethodId} {below : List Frame} {meth : Method} {c : Code} {G : GG} {b L : Nat} {xs : Nat → Int32} {I : M → Prop} (E : LEn l p e s mi meth c G b L xs) {i : Nat} {m : M} (hin : ∀ k : Nat, k < 5 → i + k < L) (hs : OK_power I m) (hgo : ∀ m1 : M, I m1 → Lm l p e s mi below meth c G b 97 3849 1772 i [] m1) : Lm l p e s mi below meth c G b 97 3849 869 i [] m := by
  obtain ⟨v, h1, h2, hI⟩ := hs (xs (i + 1))
  refine l_aload1 E dL_law_869 ?_
  refine l_aload0 E dL_law_870 ?_
  refine l_iload3 E dL_law_871 ?_
  refine l_iconst (v := (1 : Int32)) E dL_law_872 (by decide) ?_
  refine l_iadd E dL_law_873 ?_
  refine l_iald (k0 := 1) E (by decide) (hin 1 (by decide)) dL_law_874 ?_
  refine l_call (rest := []) (n := 1) E (C_k_power l G _ m h1) ⟨by decide, by decide, by decide +kernel⟩ W880 W881 W882 W91 W883 rfl rfl rfl rfl (Nat.le_of_ble_eq_true rfl) (by decide) (by decide) dL_law_875 ?_
  refine l_aload2 E dL_law_878 ?_
  refine l_aload0 E dL_law_879 ?_
  refine l_iload3 E dL_law_880 ?_
  refine l_iconst (v := (1 : Int32)) E dL_law_881 (by decide) ?_
  refine l_iadd E dL_law_882 ?_
  refine l_iald (k0 := 1) E (by decide) (hin 1 (by decide)) dL_law_883 ?_
  refine l_call (rest := [.int v]) (n := 1) E (C_r_power l G _ m h2) ⟨by decide, by decide, by decide +kernel⟩ W1630 W1631 W1632 W103 W1633 rfl rfl rfl rfl (Nat.le_of_ble_eq_true rfl) (by decide) (by decide) dL_law_884 ?_
  exact l_eq (tgt := 1772) E dL_law_887 (by decide) (hgo _ hI)
set_option maxRecDepth 20000 in
theorem law_best {l : Launch} {p : Program} {e : Env} {s : State} {mi : MethodId} {below : List Frame} {meth : Method} {c : Code} {G : GG} {b L : Nat} {xs : Nat → Int32} {I : M → Prop} (E : LEn l p e s mi meth c G b L xs) {i : Nat} {m : M} (hin : ∀ k : Nat, k < 5 → i + k < L) (hs : OK_best I m) (hgo : ∀ m1 : M, I m1 → Lm l p e s mi below meth c G b 97 3849 1772 i [] m1) : Lm l p e s mi below meth c G b 97 3849 892 i [] m := by
  obtain ⟨v, m1, m2, h1, h2, hI⟩ := hs (xs (i + 1))
  refine l_aload1 E dL_law_892 ?_
  refine l_aload0 E dL_law_893 ?_
  refine l_iload3 E dL_law_894 ?_
  refine l_iconst (v := (1 : Int32)) E dL_law_895 (by decide) ?_
  refine l_iadd E dL_law_896 ?_
  refine l_iald (k0 := 1) E (by decide) (hin 1 (by decide)) dL_law_897 ?_
  refine l_call (rest := []) (n := 1) E (C_k_best l G _ m h1) ⟨by decide, by decide, by decide +kernel⟩ W899 W900 W901 W91 W902 rfl rfl rfl rfl (Nat.le_of_ble_eq_true rfl) (by decide) (by decide) dL_law_898 ?_
  refine l_aload2 E dL_law_901 ?_
  refine l_aload0 E dL_law_902 ?_
  refine l_iload3 E dL_law_903 ?_
  refine l_iconst (v := (1 : Int32)) E dL_law_904 (by decide) ?_
  refine l_iadd E dL_law_905 ?_
  refine l_iald (k0 := 1) E (by decide) (hin 1 (by decide)) dL_law_906 ?_
  refine l_call (rest := [.int v]) (n := 1) E (C_r_best l G _ m1 h2) ⟨by decide, by decide, by decide +kernel⟩ W1637 W1638 W1639 W103 W1640 rfl rfl rfl rfl (Nat.le_of_ble_eq_true rfl) (by decide) (by decide) dL_law_907 ?_
  exact l_eq (tgt := 1772) E dL_law_910 (by decide) (hgo _ hI)
set_option maxRecDepth 20000 in
theorem law_ith {l : Launch} {p : Program} {e : Env} {s : State} {mi : MethodId} {below : List Frame} {meth : Method} {c : Code} {G : GG} {b L : Nat} {xs : Nat → Int32} {I : M → Prop} (E : LEn l p e s mi meth c G b L xs) {i : Nat} {m : M} (hin : ∀ k : Nat, k < 5 → i + k < L) (hs : OK_ith I m) (hgo : ∀ m1 : M, I m1 → Lm l p e s mi below meth c G b 97 3849 1772 i [] m1) : Lm l p e s mi below meth c G b 97 3849 915 i [] m := by
  obtain ⟨v, m1, m2, h1, h2, hI⟩ := hs (xs (i + 1)) (xs (i + 2))
  refine l_aload1 E dL_law_915 ?_
  refine l_aload0 E dL_law_916 ?_
  refine l_iload3 E dL_law_917 ?_
  refine l_iconst (v := (1 : Int32)) E dL_law_918 (by decide) ?_
  refine l_iadd E dL_law_919 ?_
  refine l_iald (k0 := 1) E (by decide) (hin 1 (by decide)) dL_law_920 ?_
  refine l_aload0 E dL_law_921 ?_
  refine l_iload3 E dL_law_922 ?_
  refine l_iconst (v := (2 : Int32)) E dL_law_923 (by decide) ?_
  refine l_iadd E dL_law_924 ?_
  refine l_iald (k0 := 2) E (by decide) (hin 2 (by decide)) dL_law_925 ?_
  refine l_call (rest := []) (n := 2) E (C_k_ith l G _ _ m h1) ⟨by decide, by decide, by decide +kernel⟩ W920 W921 W922 W91 W923 rfl rfl rfl rfl (Nat.le_of_ble_eq_true rfl) (by decide) (by decide) dL_law_926 ?_
  refine l_aload2 E dL_law_929 ?_
  refine l_aload0 E dL_law_930 ?_
  refine l_iload3 E dL_law_931 ?_
  refine l_iconst (v := (1 : Int32)) E dL_law_932 (by decide) ?_
  refine l_iadd E dL_law_933 ?_
  refine l_iald (k0 := 1) E (by decide) (hin 1 (by decide)) dL_law_934 ?_
  refine l_aload0 E dL_law_935 ?_
  refine l_iload3 E dL_law_936 ?_
  refine l_iconst (v := (2 : Int32)) E dL_law_937 (by decide) ?_
  refine l_iadd E dL_law_938 ?_
  refine l_iald (k0 := 2) E (by decide) (hin 2 (by decide)) dL_law_939 ?_
  refine l_call (rest := [.int v]) (n := 2) E (C_r_ith l G _ _ m1 h2) ⟨by decide, by decide, by decide +kernel⟩ W1668 W1669 W1670 W103 W1671 rfl rfl rfl rfl (Nat.le_of_ble_eq_true rfl) (by decide) (by decide) dL_law_940 ?_
  exact l_eq (tgt := 1772) E dL_law_943 (by decide) (hgo _ hI)
set_option maxRecDepth 20000 in
theorem law_ways {l : Launch} {p : Program} {e : Env} {s : State} {mi : MethodId} {below : List Frame} {meth : Method} {c : Code} {G : GG} {b L : Nat} {xs : Nat → Int32} {I : M → Prop} (E : LEn l p e s mi meth c G b L xs) {i : Nat} {m : M} (hin : ∀ k : Nat, k < 5 → i + k < L) (hs : OK_ways I m) (hgo : ∀ m1 : M, I m1 → Lm l p e s mi below meth c G b 97 3849 1772 i [] m1) : Lm l p e s mi below meth c G b 97 3849 948 i [] m := by
  obtain ⟨v, m1, m2, h1, h2, hI⟩ := hs (xs (i + 1))
  refine l_aload1 E dL_law_948 ?_
  refine l_aload0 E dL_law_949 ?_
  refine l_iload3 E dL_law_950 ?_
  refine l_iconst (v := (1 : Int32)) E dL_law_951 (by decide) ?_
  refine l_iadd E dL_law_952 ?_
  refine l_iald (k0 := 1) E (by decide) (hin 1 (by decide)) dL_law_953 ?_
  refine l_call (rest := []) (n := 1) E (C_k_ways l G _ m h1) ⟨by decide, by decide, by decide +kernel⟩ W927 W928 W929 W91 W930 rfl rfl rfl rfl (Nat.le_of_ble_eq_true rfl) (by decide) (by decide) dL_law_954 ?_
  refine l_aload2 E dL_law_957 ?_
  refine l_aload0 E dL_law_958 ?_
  refine l_iload3 E dL_law_959 ?_
  refine l_iconst (v := (1 : Int32)) E dL_law_960 (by decide) ?_
  refine l_iadd E dL_law_961 ?_
  refine l_iald (k0 := 1) E (by decide) (hin 1 (by decide)) dL_law_962 ?_
  refine l_call (rest := [.int v]) (n := 1) E (C_r_ways l G _ m1 h2) ⟨by decide, by decide, by decide +kernel⟩ W1672 W1673 W1674 W103 W1675 rfl rfl rfl rfl (Nat.le_of_ble_eq_true rfl) (by decide) (by decide) dL_law_963 ?_
  exact l_eq (tgt := 1772) E dL_law_966 (by decide) (hgo _ hI)
set_option maxRecDepth 20000 in
theorem law_agenda {l : Launch} {p : Program} {e : Env} {s : State} {mi : MethodId} {below : List Frame} {meth : Method} {c : Code} {G : GG} {b L : Nat} {xs : Nat → Int32} {I : M → Prop} (E : LEn l p e s mi meth c G b L xs) {i : Nat} {m : M} (hin : ∀ k : Nat, k < 5 → i + k < L) (hs : OK_agenda I m) (hgo : ∀ m1 : M, I m1 → Lm l p e s mi below meth c G b 97 3849 1772 i [] m1) : Lm l p e s mi below meth c G b 97 3849 971 i [] m := by
  obtain ⟨v, m1, m2, h1, h2, hI⟩ := hs (xs (i + 1)) (xs (i + 2))
  refine l_aload1 E dL_law_971 ?_
  refine l_aload0 E dL_law_972 ?_
  refine l_iload3 E dL_law_973 ?_
  refine l_iconst (v := (1 : Int32)) E dL_law_974 (by decide) ?_
  refine l_iadd E dL_law_975 ?_
  refine l_iald (k0 := 1) E (by decide) (hin 1 (by decide)) dL_law_976 ?_
  refine l_aload0 E dL_law_977 ?_
  refine l_iload3 E dL_law_978 ?_
  refine l_iconst (v := (2 : Int32)) E dL_law_979 (by decide) ?_
  refine l_iadd E dL_law_980 ?_
  refine l_iald (k0 := 2) E (by decide) (hin 2 (by decide)) dL_law_981 ?_
  refine l_call (rest := []) (n := 2) E (C_k_agenda l G _ _ m h1) ⟨by decide, by decide, by decide +kernel⟩ W931 W932 W933 W91 W934 rfl rfl rfl rfl (Nat.le_of_ble_eq_true rfl) (by decide) (by decide) dL_law_982 ?_
  refine l_aload2 E dL_law_985 ?_
  refine l_aload0 E dL_law_986 ?_
  refine l_iload3 E dL_law_987 ?_
  refine l_iconst (v := (1 : Int32)) E dL_law_988 (by decide) ?_
  refine l_iadd E dL_law_989 ?_
  refine l_iald (k0 := 1) E (by decide) (hin 1 (by decide)) dL_law_990 ?_
  refine l_aload0 E dL_law_991 ?_
  refine l_iload3 E dL_law_992 ?_
  refine l_iconst (v := (2 : Int32)) E dL_law_993 (by decide) ?_
  refine l_iadd E dL_law_994 ?_
  refine l_iald (k0 := 2) E (by decide) (hin 2 (by decide)) dL_law_995 ?_
  refine l_call (rest := [.int v]) (n := 2) E (C_r_agenda l G _ _ m1 h2) ⟨by decide, by decide, by decide +kernel⟩ W1676 W1677 W1678 W103 W1679 rfl rfl rfl rfl (Nat.le_of_ble_eq_true rfl) (by decide) (by decide) dL_law_996 ?_
  exact l_eq (tgt := 1772) E dL_law_999 (by decide) (hgo _ hI)
set_option maxRecDepth 20000 in
theorem law_bars {l : Launch} {p : Program} {e : Env} {s : State} {mi : MethodId} {below : List Frame} {meth : Method} {c : Code} {G : GG} {b L : Nat} {xs : Nat → Int32} {I : M → Prop} (E : LEn l p e s mi meth c G b L xs) {i : Nat} {m : M} (hin : ∀ k : Nat, k < 5 → i + k < L) (hs : OK_bars I m) (hgo : ∀ m1 : M, I m1 → Lm l p e s mi below meth c G b 97 3849 1772 i [] m1) : Lm l p e s mi below meth c G b 97 3849 1004 i [] m := by
  obtain ⟨v, m1, m2, h1, h2, hI⟩ := hs (xs (i + 1)) (xs (i + 2))
  refine l_aload1 E dL_law_1004 ?_
  refine l_aload0 E dL_law_1005 ?_
  refine l_iload3 E dL_law_1006 ?_
  refine l_iconst (v := (1 : Int32)) E dL_law_1007 (by decide) ?_
  refine l_iadd E dL_law_1008 ?_
  refine l_iald (k0 := 1) E (by decide) (hin 1 (by decide)) dL_law_1009 ?_
  refine l_aload0 E dL_law_1010 ?_
  refine l_iload3 E dL_law_1011 ?_
  refine l_iconst (v := (2 : Int32)) E dL_law_1012 (by decide) ?_
  refine l_iadd E dL_law_1013 ?_
  refine l_iald (k0 := 2) E (by decide) (hin 2 (by decide)) dL_law_1014 ?_
  refine l_call (rest := []) (n := 2) E (C_k_bars l G _ _ m h1) ⟨by decide, by decide, by decide +kernel⟩ W943 W944 W945 W91 W946 rfl rfl rfl rfl (Nat.le_of_ble_eq_true rfl) (by decide) (by decide) dL_law_1015 ?_
  refine l_aload2 E dL_law_1018 ?_
  refine l_aload0 E dL_law_1019 ?_
  refine l_iload3 E dL_law_1020 ?_
  refine l_iconst (v := (1 : Int32)) E dL_law_1021 (by decide) ?_
  refine l_iadd E dL_law_1022 ?_
  refine l_iald (k0 := 1) E (by decide) (hin 1 (by decide)) dL_law_1023 ?_
  refine l_aload0 E dL_law_1024 ?_
  refine l_iload3 E dL_law_1025 ?_
  refine l_iconst (v := (2 : Int32)) E dL_law_1026 (by decide) ?_
  refine l_iadd E dL_law_1027 ?_
  refine l_iald (k0 := 2) E (by decide) (hin 2 (by decide)) dL_law_1028 ?_
  refine l_call (rest := [.int v]) (n := 2) E (C_r_bars l G _ _ m1 h2) ⟨by decide, by decide, by decide +kernel⟩ W1684 W1685 W1686 W103 W1687 rfl rfl rfl rfl (Nat.le_of_ble_eq_true rfl) (by decide) (by decide) dL_law_1029 ?_
  exact l_eq (tgt := 1772) E dL_law_1032 (by decide) (hgo _ hI)
set_option maxRecDepth 20000 in
theorem law_game {l : Launch} {p : Program} {e : Env} {s : State} {mi : MethodId} {below : List Frame} {meth : Method} {c : Code} {G : GG} {b L : Nat} {xs : Nat → Int32} {I : M → Prop} (E : LEn l p e s mi meth c G b L xs) {i : Nat} {m : M} (hin : ∀ k : Nat, k < 5 → i + k < L) (hs : OK_game I m) (hgo : ∀ m1 : M, I m1 → Lm l p e s mi below meth c G b 97 3849 1772 i [] m1) : Lm l p e s mi below meth c G b 97 3849 1037 i [] m := by
  obtain ⟨v, m1, m2, h1, h2, hI⟩ := hs (xs (i + 1))
  refine l_aload1 E dL_law_1037 ?_
  refine l_aload0 E dL_law_1038 ?_
  refine l_iload3 E dL_law_1039 ?_
  refine l_iconst (v := (1 : Int32)) E dL_law_1040 (by decide) ?_
  refine l_iadd E dL_law_1041 ?_
  refine l_iald (k0 := 1) E (by decide) (hin 1 (by decide)) dL_law_1042 ?_
  refine l_call (rest := []) (n := 1) E (C_k_game l G _ m h1) ⟨by decide, by decide, by decide +kernel⟩ W950 W951 W952 W91 W953 rfl rfl rfl rfl (Nat.le_of_ble_eq_true rfl) (by decide) (by decide) dL_law_1043 ?_
  refine l_aload2 E dL_law_1046 ?_
  refine l_aload0 E dL_law_1047 ?_
  refine l_iload3 E dL_law_1048 ?_
  refine l_iconst (v := (1 : Int32)) E dL_law_1049 (by decide) ?_
  refine l_iadd E dL_law_1050 ?_
  refine l_iald (k0 := 1) E (by decide) (hin 1 (by decide)) dL_law_1051 ?_
  refine l_call (rest := [.int v]) (n := 1) E (C_r_game l G _ m1 h2) ⟨by decide, by decide, by decide +kernel⟩ W1688 W1689 W1690 W103 W1691 rfl rfl rfl rfl (Nat.le_of_ble_eq_true rfl) (by decide) (by decide) dL_law_1052 ?_
  exact l_eq (tgt := 1772) E dL_law_1055 (by decide) (hgo _ hI)
set_option maxRecDepth 20000 in
theorem law_play {l : Launch} {p : Program} {e : Env} {s : State} {mi : MethodId} {below : List Frame} {meth : Method} {c : Code} {G : GG} {b L : Nat} {xs : Nat → Int32} {I : M → Prop} (E : LEn l p e s mi meth c G b L xs) {i : Nat} {m : M} (hin : ∀ k : Nat, k < 5 → i + k < L) (hs : OK_play I m) (hgo : ∀ m1 : M, I m1 → Lm l p e s mi below meth c G b 97 3849 1772 i [] m1) : Lm l p e s mi below meth c G b 97 3849 1060 i [] m := by
  obtain ⟨v, m1, m2, h1, h2, hI⟩ := hs (xs (i + 1))
  refine l_aload1 E dL_law_1060 ?_
  refine l_aload0 E dL_law_1061 ?_
  refine l_iload3 E dL_law_1062 ?_
  refine l_iconst (v := (1 : Int32)) E dL_law_1063 (by decide) ?_
  refine l_iadd E dL_law_1064 ?_
  refine l_iald (k0 := 1) E (by decide) (hin 1 (by decide)) dL_law_1065 ?_
  refine l_call (rest := []) (n := 1) E (C_k_play l G _ m h1) ⟨by decide, by decide, by decide +kernel⟩ W960 W961 W962 W91 W963 rfl rfl rfl rfl (Nat.le_of_ble_eq_true rfl) (by decide) (by decide) dL_law_1066 ?_
  refine l_aload2 E dL_law_1069 ?_
  refine l_aload0 E dL_law_1070 ?_
  refine l_iload3 E dL_law_1071 ?_
  refine l_iconst (v := (1 : Int32)) E dL_law_1072 (by decide) ?_
  refine l_iadd E dL_law_1073 ?_
  refine l_iald (k0 := 1) E (by decide) (hin 1 (by decide)) dL_law_1074 ?_
  refine l_call (rest := [.int v]) (n := 1) E (C_r_play l G _ m1 h2) ⟨by decide, by decide, by decide +kernel⟩ W1696 W1697 W1698 W103 W1699 rfl rfl rfl rfl (Nat.le_of_ble_eq_true rfl) (by decide) (by decide) dL_law_1075 ?_
  exact l_eq (tgt := 1772) E dL_law_1078 (by decide) (hgo _ hI)
set_option maxRecDepth 20000 in
theorem law_report {l : Launch} {p : Program} {e : Env} {s : State} {mi : MethodId} {below : List Frame} {meth : Method} {c : Code} {G : GG} {b L : Nat} {xs : Nat → Int32} {I : M → Prop} (E : LEn l p e s mi meth c G b L xs) {i : Nat} {m : M} (hin : ∀ k : Nat, k < 5 → i + k < L) (hs : OK_report I m) (hgo : ∀ m1 : M, I m1 → Lm l p e s mi below meth c G b 97 3849 1772 i [] m1) : Lm l p e s mi below meth c G b 97 3849 1083 i [] m := by
  obtain ⟨v, m1, m2, h1, h2, hI⟩ := hs (xs (i + 1)) (xs (i + 2)) (xs (i + 3)) (xs (i + 4))
  refine l_aload1 E dL_law_1083 ?_
  refine l_aload0 E dL_law_1084 ?_
  refine l_iload3 E dL_law_1085 ?_
  refine l_iconst (v := (1 : Int32)) E dL_law_1086 (by decide) ?_
  refine l_iadd E dL_law_1087 ?_
  refine l_iald (k0 := 1) E (by decide) (hin 1 (by decide)) dL_law_1088 ?_
  refine l_aload0 E dL_law_1089 ?_
  refine l_iload3 E dL_law_1090 ?_
  refine l_iconst (v := (2 : Int32)) E dL_law_1091 (by decide) ?_
  refine l_iadd E dL_law_1092 ?_
  refine l_iald (k0 := 2) E (by decide) (hin 2 (by decide)) dL_law_1093 ?_
  refine l_aload0 E dL_law_1094 ?_
  refine l_iload3 E dL_law_1095 ?_
  refine l_iconst (v := (3 : Int32)) E dL_law_1096 (by decide) ?_
  refine l_iadd E dL_law_1097 ?_
  refine l_iald (k0 := 3) E (by decide) (hin 3 (by decide)) dL_law_1098 ?_
  refine l_aload0 E dL_law_1099 ?_
  refine l_iload3 E dL_law_1100 ?_
  refine l_iconst (v := (4 : Int32)) E dL_law_1101 (by decide) ?_
  refine l_iadd E dL_law_1102 ?_
  refine l_iald (k0 := 4) E (by decide) (hin 4 (by decide)) dL_law_1103 ?_
  refine l_call (rest := []) (n := 4) E (C_k_report l G _ _ _ _ m h1) ⟨by decide, by decide, by decide +kernel⟩ W964 W965 W966 W91 W967 rfl rfl rfl rfl (Nat.le_of_ble_eq_true rfl) (by decide) (by decide) dL_law_1104 ?_
  refine l_aload2 E dL_law_1107 ?_
  refine l_aload0 E dL_law_1108 ?_
  refine l_iload3 E dL_law_1109 ?_
  refine l_iconst (v := (1 : Int32)) E dL_law_1110 (by decide) ?_
  refine l_iadd E dL_law_1111 ?_
  refine l_iald (k0 := 1) E (by decide) (hin 1 (by decide)) dL_law_1112 ?_
  refine l_aload0 E dL_law_1113 ?_
  refine l_iload3 E dL_law_1114 ?_
  refine l_iconst (v := (2 : Int32)) E dL_law_1115 (by decide) ?_
  refine l_iadd E dL_law_1116 ?_
  refine l_iald (k0 := 2) E (by decide) (hin 2 (by decide)) dL_law_1117 ?_
  refine l_aload0 E dL_law_1118 ?_
  refine l_iload3 E dL_law_1119 ?_
  refine l_iconst (v := (3 : Int32)) E dL_law_1120 (by decide) ?_
  refine l_iadd E dL_law_1121 ?_
  refine l_iald (k0 := 3) E (by decide) (hin 3 (by decide)) dL_law_1122 ?_
  refine l_aload0 E dL_law_1123 ?_
  refine l_iload3 E dL_law_1124 ?_
  refine l_iconst (v := (4 : Int32)) E dL_law_1125 (by decide) ?_
  refine l_iadd E dL_law_1126 ?_
  refine l_iald (k0 := 4) E (by decide) (hin 4 (by decide)) dL_law_1127 ?_
  refine l_call (rest := [.int v]) (n := 4) E (C_r_report l G _ _ _ _ m1 h2) ⟨by decide, by decide, by decide +kernel⟩ W1700 W1701 W1702 W103 W1703 rfl rfl rfl rfl (Nat.le_of_ble_eq_true rfl) (by decide) (by decide) dL_law_1128 ?_
  exact l_eq (tgt := 1772) E dL_law_1131 (by decide) (hgo _ hI)
set_option maxRecDepth 20000 in
theorem law_forget {l : Launch} {p : Program} {e : Env} {s : State} {mi : MethodId} {below : List Frame} {meth : Method} {c : Code} {G : GG} {b L : Nat} {xs : Nat → Int32} {I : M → Prop} (E : LEn l p e s mi meth c G b L xs) {i : Nat} {m : M} (hin : ∀ k : Nat, k < 5 → i + k < L) (hs : OK_forget I m) (hgo : ∀ m1 : M, I m1 → Lm l p e s mi below meth c G b 97 3849 1772 i [] m1) : Lm l p e s mi below meth c G b 97 3849 1136 i [] m := by
  obtain ⟨v, m1, m2, h1, h2, hI⟩ := hs 
  refine l_aload1 E dL_law_1136 ?_
  refine l_call (rest := []) (n := 0) E (C_k_forget l G  m h1) ⟨by decide, by decide, by decide +kernel⟩ W972 W973 W974 W91 W975 rfl rfl rfl rfl (Nat.le_of_ble_eq_true rfl) (by decide) (by decide) dL_law_1137 ?_
  refine l_aload2 E dL_law_1140 ?_
  refine l_call (rest := [.int v]) (n := 0) E (C_r_forget l G  m1 h2) ⟨by decide, by decide, by decide +kernel⟩ W1704 W1705 W1706 W103 W1707 rfl rfl rfl rfl (Nat.le_of_ble_eq_true rfl) (by decide) (by decide) dL_law_1141 ?_
  exact l_eq (tgt := 1772) E dL_law_1144 (by decide) (hgo _ hI)
set_option maxRecDepth 20000 in
theorem law_lone {l : Launch} {p : Program} {e : Env} {s : State} {mi : MethodId} {below : List Frame} {meth : Method} {c : Code} {G : GG} {b L : Nat} {xs : Nat → Int32} {I : M → Prop} (E : LEn l p e s mi meth c G b L xs) {i : Nat} {m : M} (hin : ∀ k : Nat, k < 5 → i + k < L) (hs : OK_lone I m) (hgo : ∀ m1 : M, I m1 → Lm l p e s mi below meth c G b 97 3849 1772 i [] m1) : Lm l p e s mi below meth c G b 97 3849 1149 i [] m := by
  obtain ⟨v, m2, h1, h2, hI⟩ := hs (xs (i + 1))
  refine l_aload1 E dL_law_1149 ?_
  refine l_aload0 E dL_law_1150 ?_
  refine l_iload3 E dL_law_1151 ?_
  refine l_iconst (v := (1 : Int32)) E dL_law_1152 (by decide) ?_
  refine l_iadd E dL_law_1153 ?_
  refine l_iald (k0 := 1) E (by decide) (hin 1 (by decide)) dL_law_1154 ?_
  refine l_call (rest := []) (n := 1) E (C_k_lone l G _ m h1) ⟨by decide, by decide, by decide +kernel⟩ W976 W977 W978 W91 W979 rfl rfl rfl rfl (Nat.le_of_ble_eq_true rfl) (by decide) (by decide) dL_law_1155 ?_
  refine l_aload2 E dL_law_1158 ?_
  refine l_aload0 E dL_law_1159 ?_
  refine l_iload3 E dL_law_1160 ?_
  refine l_iconst (v := (1 : Int32)) E dL_law_1161 (by decide) ?_
  refine l_iadd E dL_law_1162 ?_
  refine l_iald (k0 := 1) E (by decide) (hin 1 (by decide)) dL_law_1163 ?_
  refine l_call (rest := [.int v]) (n := 1) E (C_r_lone l G _ m h2) ⟨by decide, by decide, by decide +kernel⟩ W1708 W1709 W1710 W103 W1711 rfl rfl rfl rfl (Nat.le_of_ble_eq_true rfl) (by decide) (by decide) dL_law_1164 ?_
  exact l_eq (tgt := 1772) E dL_law_1167 (by decide) (hgo _ hI)
set_option maxRecDepth 20000 in
theorem law_liar {l : Launch} {p : Program} {e : Env} {s : State} {mi : MethodId} {below : List Frame} {meth : Method} {c : Code} {G : GG} {b L : Nat} {xs : Nat → Int32} {I : M → Prop} (E : LEn l p e s mi meth c G b L xs) {i : Nat} {m : M} (hin : ∀ k : Nat, k < 5 → i + k < L) (hs : OK_liar I m) (hgo : ∀ m1 : M, I m1 → Lm l p e s mi below meth c G b 97 3849 1772 i [] m1) : Lm l p e s mi below meth c G b 97 3849 1172 i [] m := by
  obtain ⟨v, m2, h1, h2, hI⟩ := hs 
  refine l_aload1 E dL_law_1172 ?_
  refine l_call (rest := []) (n := 0) E (C_k_liar l G  m h1) ⟨by decide, by decide, by decide +kernel⟩ W1015 W1016 W1017 W91 W1018 rfl rfl rfl rfl (Nat.le_of_ble_eq_true rfl) (by decide) (by decide) dL_law_1173 ?_
  refine l_aload2 E dL_law_1176 ?_
  refine l_call (rest := [.int v]) (n := 0) E (C_r_liar l G  m h2) ⟨by decide, by decide, by decide +kernel⟩ W1724 W1725 W1726 W103 W1727 rfl rfl rfl rfl (Nat.le_of_ble_eq_true rfl) (by decide) (by decide) dL_law_1177 ?_
  exact l_eq (tgt := 1772) E dL_law_1180 (by decide) (hgo _ hI)
set_option maxRecDepth 20000 in
theorem law_seed {l : Launch} {p : Program} {e : Env} {s : State} {mi : MethodId} {below : List Frame} {meth : Method} {c : Code} {G : GG} {b L : Nat} {xs : Nat → Int32} {I : M → Prop} (E : LEn l p e s mi meth c G b L xs) {i : Nat} {m : M} (hin : ∀ k : Nat, k < 5 → i + k < L) (hs : OK_seed I m) (hgo : ∀ m1 : M, I m1 → Lm l p e s mi below meth c G b 97 3849 1772 i [] m1) : Lm l p e s mi below meth c G b 97 3849 1185 i [] m := by
  obtain ⟨v, m1, m2, h1, h2, hI⟩ := hs (xs (i + 1))
  refine l_aload1 E dL_law_1185 ?_
  refine l_aload0 E dL_law_1186 ?_
  refine l_iload3 E dL_law_1187 ?_
  refine l_iconst (v := (1 : Int32)) E dL_law_1188 (by decide) ?_
  refine l_iadd E dL_law_1189 ?_
  refine l_iald (k0 := 1) E (by decide) (hin 1 (by decide)) dL_law_1190 ?_
  refine l_call (rest := []) (n := 1) E (C_k_seed l G _ m h1) ⟨by decide, by decide, by decide +kernel⟩ W1019 W1020 W1021 W91 W1022 rfl rfl rfl rfl (Nat.le_of_ble_eq_true rfl) (by decide) (by decide) dL_law_1191 ?_
  refine l_aload2 E dL_law_1194 ?_
  refine l_aload0 E dL_law_1195 ?_
  refine l_iload3 E dL_law_1196 ?_
  refine l_iconst (v := (1 : Int32)) E dL_law_1197 (by decide) ?_
  refine l_iadd E dL_law_1198 ?_
  refine l_iald (k0 := 1) E (by decide) (hin 1 (by decide)) dL_law_1199 ?_
  refine l_call (rest := [.int v]) (n := 1) E (C_r_seed l G _ m1 h2) ⟨by decide, by decide, by decide +kernel⟩ W1728 W1729 W1730 W103 W1731 rfl rfl rfl rfl (Nat.le_of_ble_eq_true rfl) (by decide) (by decide) dL_law_1200 ?_
  exact l_eq (tgt := 1772) E dL_law_1203 (by decide) (hgo _ hI)
set_option maxRecDepth 20000 in
theorem law_lot {l : Launch} {p : Program} {e : Env} {s : State} {mi : MethodId} {below : List Frame} {meth : Method} {c : Code} {G : GG} {b L : Nat} {xs : Nat → Int32} {I : M → Prop} (E : LEn l p e s mi meth c G b L xs) {i : Nat} {m : M} (hin : ∀ k : Nat, k < 5 → i + k < L) (hs : OK_lot I m) (hgo : ∀ m1 : M, I m1 → Lm l p e s mi below meth c G b 97 3849 1772 i [] m1) : Lm l p e s mi below meth c G b 97 3849 1208 i [] m := by
  obtain ⟨v, m1, m2, h1, h2, hI⟩ := hs 
  refine l_aload1 E dL_law_1208 ?_
  refine l_call (rest := []) (n := 0) E (C_k_lot l G  m h1) ⟨by decide, by decide, by decide +kernel⟩ W1023 W1024 W1025 W91 W1026 rfl rfl rfl rfl (Nat.le_of_ble_eq_true rfl) (by decide) (by decide) dL_law_1209 ?_
  refine l_aload2 E dL_law_1212 ?_
  refine l_call (rest := [.int v]) (n := 0) E (C_r_lot l G  m1 h2) ⟨by decide, by decide, by decide +kernel⟩ W1732 W1733 W1734 W103 W1735 rfl rfl rfl rfl (Nat.le_of_ble_eq_true rfl) (by decide) (by decide) dL_law_1213 ?_
  exact l_eq (tgt := 1772) E dL_law_1216 (by decide) (hgo _ hI)
set_option maxRecDepth 20000 in
theorem law_times {l : Launch} {p : Program} {e : Env} {s : State} {mi : MethodId} {below : List Frame} {meth : Method} {c : Code} {G : GG} {b L : Nat} {xs : Nat → Int32} {I : M → Prop} (E : LEn l p e s mi meth c G b L xs) {i : Nat} {m : M} (hin : ∀ k : Nat, k < 5 → i + k < L) (hs : OK_times I m) (hgo : ∀ m1 : M, I m1 → Lm l p e s mi below meth c G b 97 3849 1772 i [] m1) : Lm l p e s mi below meth c G b 97 3849 1221 i [] m := by
  obtain ⟨v, m1, m2, h1, h2, hI⟩ := hs (xs (i + 1)) (xs (i + 2))
  refine l_aload1 E dL_law_1221 ?_
  refine l_aload0 E dL_law_1222 ?_
  refine l_iload3 E dL_law_1223 ?_
  refine l_iconst (v := (1 : Int32)) E dL_law_1224 (by decide) ?_
  refine l_iadd E dL_law_1225 ?_
  refine l_iald (k0 := 1) E (by decide) (hin 1 (by decide)) dL_law_1226 ?_
  refine l_aload0 E dL_law_1227 ?_
  refine l_iload3 E dL_law_1228 ?_
  refine l_iconst (v := (2 : Int32)) E dL_law_1229 (by decide) ?_
  refine l_iadd E dL_law_1230 ?_
  refine l_iald (k0 := 2) E (by decide) (hin 2 (by decide)) dL_law_1231 ?_
  refine l_call (rest := []) (n := 2) E (C_k_times l G _ _ m h1) ⟨by decide, by decide, by decide +kernel⟩ W1032 W1033 W1034 W91 W1035 rfl rfl rfl rfl (Nat.le_of_ble_eq_true rfl) (by decide) (by decide) dL_law_1232 ?_
  refine l_aload2 E dL_law_1235 ?_
  refine l_aload0 E dL_law_1236 ?_
  refine l_iload3 E dL_law_1237 ?_
  refine l_iconst (v := (1 : Int32)) E dL_law_1238 (by decide) ?_
  refine l_iadd E dL_law_1239 ?_
  refine l_iald (k0 := 1) E (by decide) (hin 1 (by decide)) dL_law_1240 ?_
  refine l_aload0 E dL_law_1241 ?_
  refine l_iload3 E dL_law_1242 ?_
  refine l_iconst (v := (2 : Int32)) E dL_law_1243 (by decide) ?_
  refine l_iadd E dL_law_1244 ?_
  refine l_iald (k0 := 2) E (by decide) (hin 2 (by decide)) dL_law_1245 ?_
  refine l_call (rest := [.int v]) (n := 2) E (C_r_times l G _ _ m1 h2) ⟨by decide, by decide, by decide +kernel⟩ W1741 W1742 W1743 W103 W1744 rfl rfl rfl rfl (Nat.le_of_ble_eq_true rfl) (by decide) (by decide) dL_law_1246 ?_
  exact l_eq (tgt := 1772) E dL_law_1249 (by decide) (hgo _ hI)
set_option maxRecDepth 20000 in
theorem law_prove {l : Launch} {p : Program} {e : Env} {s : State} {mi : MethodId} {below : List Frame} {meth : Method} {c : Code} {G : GG} {b L : Nat} {xs : Nat → Int32} {I : M → Prop} (E : LEn l p e s mi meth c G b L xs) {i : Nat} {m : M} (hin : ∀ k : Nat, k < 5 → i + k < L) (hs : OK_prove I m) (hgo : ∀ m1 : M, I m1 → Lm l p e s mi below meth c G b 97 3849 1772 i [] m1) : Lm l p e s mi below meth c G b 97 3849 1254 i [] m := by
  obtain ⟨v, m1, m2, h1, h2, hI⟩ := hs (xs (i + 1))
  refine l_aload1 E dL_law_1254 ?_
  refine l_aload0 E dL_law_1255 ?_
  refine l_iload3 E dL_law_1256 ?_
  refine l_iconst (v := (1 : Int32)) E dL_law_1257 (by decide) ?_
  refine l_iadd E dL_law_1258 ?_
  refine l_iald (k0 := 1) E (by decide) (hin 1 (by decide)) dL_law_1259 ?_
  refine l_call (rest := []) (n := 1) E (C_k_prove l G _ m h1) ⟨by decide, by decide, by decide +kernel⟩ W1036 W1037 W1038 W91 W1039 rfl rfl rfl rfl (Nat.le_of_ble_eq_true rfl) (by decide) (by decide) dL_law_1260 ?_
  refine l_aload2 E dL_law_1263 ?_
  refine l_aload0 E dL_law_1264 ?_
  refine l_iload3 E dL_law_1265 ?_
  refine l_iconst (v := (1 : Int32)) E dL_law_1266 (by decide) ?_
  refine l_iadd E dL_law_1267 ?_
  refine l_iald (k0 := 1) E (by decide) (hin 1 (by decide)) dL_law_1268 ?_
  refine l_call (rest := [.int v]) (n := 1) E (C_r_prove l G _ m1 h2) ⟨by decide, by decide, by decide +kernel⟩ W1745 W1746 W1747 W103 W1748 rfl rfl rfl rfl (Nat.le_of_ble_eq_true rfl) (by decide) (by decide) dL_law_1269 ?_
  exact l_eq (tgt := 1772) E dL_law_1272 (by decide) (hgo _ hI)
set_option maxRecDepth 20000 in
theorem law_row {l : Launch} {p : Program} {e : Env} {s : State} {mi : MethodId} {below : List Frame} {meth : Method} {c : Code} {G : GG} {b L : Nat} {xs : Nat → Int32} {I : M → Prop} (E : LEn l p e s mi meth c G b L xs) {i : Nat} {m : M} (hin : ∀ k : Nat, k < 5 → i + k < L) (hs : OK_row I m) (hgo : ∀ m1 : M, I m1 → Lm l p e s mi below meth c G b 97 3849 1772 i [] m1) : Lm l p e s mi below meth c G b 97 3849 1277 i [] m := by
  obtain ⟨v, h1, h2, hI⟩ := hs (xs (i + 1)) (xs (i + 2))
  refine l_aload1 E dL_law_1277 ?_
  refine l_aload0 E dL_law_1278 ?_
  refine l_iload3 E dL_law_1279 ?_
  refine l_iconst (v := (1 : Int32)) E dL_law_1280 (by decide) ?_
  refine l_iadd E dL_law_1281 ?_
  refine l_iald (k0 := 1) E (by decide) (hin 1 (by decide)) dL_law_1282 ?_
  refine l_aload0 E dL_law_1283 ?_
  refine l_iload3 E dL_law_1284 ?_
  refine l_iconst (v := (2 : Int32)) E dL_law_1285 (by decide) ?_
  refine l_iadd E dL_law_1286 ?_
  refine l_iald (k0 := 2) E (by decide) (hin 2 (by decide)) dL_law_1287 ?_
  refine l_call (rest := []) (n := 2) E (C_k_row l G _ _ m h1) ⟨by decide, by decide, by decide +kernel⟩ W1040 W1041 W1042 W91 W1043 rfl rfl rfl rfl (Nat.le_of_ble_eq_true rfl) (by decide) (by decide) dL_law_1288 ?_
  refine l_aload2 E dL_law_1291 ?_
  refine l_aload0 E dL_law_1292 ?_
  refine l_iload3 E dL_law_1293 ?_
  refine l_iconst (v := (1 : Int32)) E dL_law_1294 (by decide) ?_
  refine l_iadd E dL_law_1295 ?_
  refine l_iald (k0 := 1) E (by decide) (hin 1 (by decide)) dL_law_1296 ?_
  refine l_aload0 E dL_law_1297 ?_
  refine l_iload3 E dL_law_1298 ?_
  refine l_iconst (v := (2 : Int32)) E dL_law_1299 (by decide) ?_
  refine l_iadd E dL_law_1300 ?_
  refine l_iald (k0 := 2) E (by decide) (hin 2 (by decide)) dL_law_1301 ?_
  refine l_call (rest := [.int v]) (n := 2) E (C_r_row l G _ _ m h2) ⟨by decide, by decide, by decide +kernel⟩ W1749 W1750 W1751 W103 W1752 rfl rfl rfl rfl (Nat.le_of_ble_eq_true rfl) (by decide) (by decide) dL_law_1302 ?_
  exact l_eq (tgt := 1772) E dL_law_1305 (by decide) (hgo _ hI)
set_option maxRecDepth 20000 in
theorem law_alterRow {l : Launch} {p : Program} {e : Env} {s : State} {mi : MethodId} {below : List Frame} {meth : Method} {c : Code} {G : GG} {b L : Nat} {xs : Nat → Int32} {I : M → Prop} (E : LEn l p e s mi meth c G b L xs) {i : Nat} {m : M} (hin : ∀ k : Nat, k < 5 → i + k < L) (hs : OK_alterRow I m) (hgo : ∀ m1 : M, I m1 → Lm l p e s mi below meth c G b 97 3849 1772 i [] m1) : Lm l p e s mi below meth c G b 97 3849 1310 i [] m := by
  obtain ⟨v, m1, m2, h1, h2, hI⟩ := hs (xs (i + 1)) (xs (i + 2)) (xs (i + 3))
  refine l_aload1 E dL_law_1310 ?_
  refine l_aload0 E dL_law_1311 ?_
  refine l_iload3 E dL_law_1312 ?_
  refine l_iconst (v := (1 : Int32)) E dL_law_1313 (by decide) ?_
  refine l_iadd E dL_law_1314 ?_
  refine l_iald (k0 := 1) E (by decide) (hin 1 (by decide)) dL_law_1315 ?_
  refine l_aload0 E dL_law_1316 ?_
  refine l_iload3 E dL_law_1317 ?_
  refine l_iconst (v := (2 : Int32)) E dL_law_1318 (by decide) ?_
  refine l_iadd E dL_law_1319 ?_
  refine l_iald (k0 := 2) E (by decide) (hin 2 (by decide)) dL_law_1320 ?_
  refine l_aload0 E dL_law_1321 ?_
  refine l_iload3 E dL_law_1322 ?_
  refine l_iconst (v := (3 : Int32)) E dL_law_1323 (by decide) ?_
  refine l_iadd E dL_law_1324 ?_
  refine l_iald (k0 := 3) E (by decide) (hin 3 (by decide)) dL_law_1325 ?_
  refine l_call (rest := []) (n := 3) E (C_k_alterRow l G _ _ _ m h1) ⟨by decide, by decide, by decide +kernel⟩ W1048 W1049 W1050 W91 W1051 rfl rfl rfl rfl (Nat.le_of_ble_eq_true rfl) (by decide) (by decide) dL_law_1326 ?_
  refine l_aload2 E dL_law_1329 ?_
  refine l_aload0 E dL_law_1330 ?_
  refine l_iload3 E dL_law_1331 ?_
  refine l_iconst (v := (1 : Int32)) E dL_law_1332 (by decide) ?_
  refine l_iadd E dL_law_1333 ?_
  refine l_iald (k0 := 1) E (by decide) (hin 1 (by decide)) dL_law_1334 ?_
  refine l_aload0 E dL_law_1335 ?_
  refine l_iload3 E dL_law_1336 ?_
  refine l_iconst (v := (2 : Int32)) E dL_law_1337 (by decide) ?_
  refine l_iadd E dL_law_1338 ?_
  refine l_iald (k0 := 2) E (by decide) (hin 2 (by decide)) dL_law_1339 ?_
  refine l_aload0 E dL_law_1340 ?_
  refine l_iload3 E dL_law_1341 ?_
  refine l_iconst (v := (3 : Int32)) E dL_law_1342 (by decide) ?_
  refine l_iadd E dL_law_1343 ?_
  refine l_iald (k0 := 3) E (by decide) (hin 3 (by decide)) dL_law_1344 ?_
  refine l_call (rest := [.int v]) (n := 3) E (C_r_alterRow l G _ _ _ m1 h2) ⟨by decide, by decide, by decide +kernel⟩ W1757 W1758 W1759 W103 W1760 rfl rfl rfl rfl (Nat.le_of_ble_eq_true rfl) (by decide) (by decide) dL_law_1345 ?_
  exact l_eq (tgt := 1772) E dL_law_1348 (by decide) (hgo _ hI)
set_option maxRecDepth 20000 in
theorem law_judge {l : Launch} {p : Program} {e : Env} {s : State} {mi : MethodId} {below : List Frame} {meth : Method} {c : Code} {G : GG} {b L : Nat} {xs : Nat → Int32} {I : M → Prop} (E : LEn l p e s mi meth c G b L xs) {i : Nat} {m : M} (hin : ∀ k : Nat, k < 5 → i + k < L) (hs : OK_judge I m) (hgo : ∀ m1 : M, I m1 → Lm l p e s mi below meth c G b 97 3849 1772 i [] m1) : Lm l p e s mi below meth c G b 97 3849 1353 i [] m := by
  obtain ⟨v, m1, m2, h1, h2, hI⟩ := hs 
  refine l_aload1 E dL_law_1353 ?_
  refine l_call (rest := []) (n := 0) E (C_k_judge l G  m h1) ⟨by decide, by decide, by decide +kernel⟩ W1052 W1053 W1054 W91 W1055 rfl rfl rfl rfl (Nat.le_of_ble_eq_true rfl) (by decide) (by decide) dL_law_1354 ?_
  refine l_aload2 E dL_law_1357 ?_
  refine l_call (rest := [.int v]) (n := 0) E (C_r_judge l G  m1 h2) ⟨by decide, by decide, by decide +kernel⟩ W1761 W1762 W1763 W103 W1764 rfl rfl rfl rfl (Nat.le_of_ble_eq_true rfl) (by decide) (by decide) dL_law_1358 ?_
  exact l_eq (tgt := 1772) E dL_law_1361 (by decide) (hgo _ hI)
set_option maxRecDepth 20000 in
theorem law_sheet {l : Launch} {p : Program} {e : Env} {s : State} {mi : MethodId} {below : List Frame} {meth : Method} {c : Code} {G : GG} {b L : Nat} {xs : Nat → Int32} {I : M → Prop} (E : LEn l p e s mi meth c G b L xs) {i : Nat} {m : M} (hin : ∀ k : Nat, k < 5 → i + k < L) (hs : OK_sheet I m) (hgo : ∀ m1 : M, I m1 → Lm l p e s mi below meth c G b 97 3849 1772 i [] m1) : Lm l p e s mi below meth c G b 97 3849 1366 i [] m := by
  obtain ⟨v, m1, m2, h1, h2, hI⟩ := hs (xs (i + 1)) (xs (i + 2)) (xs (i + 3))
  refine l_aload1 E dL_law_1366 ?_
  refine l_aload0 E dL_law_1367 ?_
  refine l_iload3 E dL_law_1368 ?_
  refine l_iconst (v := (1 : Int32)) E dL_law_1369 (by decide) ?_
  refine l_iadd E dL_law_1370 ?_
  refine l_iald (k0 := 1) E (by decide) (hin 1 (by decide)) dL_law_1371 ?_
  refine l_aload0 E dL_law_1372 ?_
  refine l_iload3 E dL_law_1373 ?_
  refine l_iconst (v := (2 : Int32)) E dL_law_1374 (by decide) ?_
  refine l_iadd E dL_law_1375 ?_
  refine l_iald (k0 := 2) E (by decide) (hin 2 (by decide)) dL_law_1376 ?_
  refine l_aload0 E dL_law_1377 ?_
  refine l_iload3 E dL_law_1378 ?_
  refine l_iconst (v := (3 : Int32)) E dL_law_1379 (by decide) ?_
  refine l_iadd E dL_law_1380 ?_
  refine l_iald (k0 := 3) E (by decide) (hin 3 (by decide)) dL_law_1381 ?_
  refine l_call (rest := []) (n := 3) E (C_k_sheet l G _ _ _ m h1) ⟨by decide, by decide, by decide +kernel⟩ W1064 W1065 W1066 W91 W1067 rfl rfl rfl rfl (Nat.le_of_ble_eq_true rfl) (by decide) (by decide) dL_law_1382 ?_
  refine l_aload2 E dL_law_1385 ?_
  refine l_aload0 E dL_law_1386 ?_
  refine l_iload3 E dL_law_1387 ?_
  refine l_iconst (v := (1 : Int32)) E dL_law_1388 (by decide) ?_
  refine l_iadd E dL_law_1389 ?_
  refine l_iald (k0 := 1) E (by decide) (hin 1 (by decide)) dL_law_1390 ?_
  refine l_aload0 E dL_law_1391 ?_
  refine l_iload3 E dL_law_1392 ?_
  refine l_iconst (v := (2 : Int32)) E dL_law_1393 (by decide) ?_
  refine l_iadd E dL_law_1394 ?_
  refine l_iald (k0 := 2) E (by decide) (hin 2 (by decide)) dL_law_1395 ?_
  refine l_aload0 E dL_law_1396 ?_
  refine l_iload3 E dL_law_1397 ?_
  refine l_iconst (v := (3 : Int32)) E dL_law_1398 (by decide) ?_
  refine l_iadd E dL_law_1399 ?_
  refine l_iald (k0 := 3) E (by decide) (hin 3 (by decide)) dL_law_1400 ?_
  refine l_call (rest := [.int v]) (n := 3) E (C_r_sheet l G _ _ _ m1 h2) ⟨by decide, by decide, by decide +kernel⟩ W1769 W1770 W1771 W103 W1772 rfl rfl rfl rfl (Nat.le_of_ble_eq_true rfl) (by decide) (by decide) dL_law_1401 ?_
  exact l_eq (tgt := 1772) E dL_law_1404 (by decide) (hgo _ hI)
set_option maxRecDepth 20000 in
theorem law_write {l : Launch} {p : Program} {e : Env} {s : State} {mi : MethodId} {below : List Frame} {meth : Method} {c : Code} {G : GG} {b L : Nat} {xs : Nat → Int32} {I : M → Prop} (E : LEn l p e s mi meth c G b L xs) {i : Nat} {m : M} (hin : ∀ k : Nat, k < 5 → i + k < L) (hs : OK_write I m) (hgo : ∀ m1 : M, I m1 → Lm l p e s mi below meth c G b 97 3849 1772 i [] m1) : Lm l p e s mi below meth c G b 97 3849 1409 i [] m := by
  obtain ⟨v, m1, m2, h1, h2, hI⟩ := hs (xs (i + 1)) (xs (i + 2)) (xs (i + 3))
  refine l_aload1 E dL_law_1409 ?_
  refine l_aload0 E dL_law_1410 ?_
  refine l_iload3 E dL_law_1411 ?_
  refine l_iconst (v := (1 : Int32)) E dL_law_1412 (by decide) ?_
  refine l_iadd E dL_law_1413 ?_
  refine l_iald (k0 := 1) E (by decide) (hin 1 (by decide)) dL_law_1414 ?_
  refine l_aload0 E dL_law_1415 ?_
  refine l_iload3 E dL_law_1416 ?_
  refine l_iconst (v := (2 : Int32)) E dL_law_1417 (by decide) ?_
  refine l_iadd E dL_law_1418 ?_
  refine l_iald (k0 := 2) E (by decide) (hin 2 (by decide)) dL_law_1419 ?_
  refine l_aload0 E dL_law_1420 ?_
  refine l_iload3 E dL_law_1421 ?_
  refine l_iconst (v := (3 : Int32)) E dL_law_1422 (by decide) ?_
  refine l_iadd E dL_law_1423 ?_
  refine l_iald (k0 := 3) E (by decide) (hin 3 (by decide)) dL_law_1424 ?_
  refine l_call (rest := []) (n := 3) E (C_k_write l G _ _ _ m h1) ⟨by decide, by decide, by decide +kernel⟩ W1068 W1069 W1070 W91 W1071 rfl rfl rfl rfl (Nat.le_of_ble_eq_true rfl) (by decide) (by decide) dL_law_1425 ?_
  refine l_aload2 E dL_law_1428 ?_
  refine l_aload0 E dL_law_1429 ?_
  refine l_iload3 E dL_law_1430 ?_
  refine l_iconst (v := (1 : Int32)) E dL_law_1431 (by decide) ?_
  refine l_iadd E dL_law_1432 ?_
  refine l_iald (k0 := 1) E (by decide) (hin 1 (by decide)) dL_law_1433 ?_
  refine l_aload0 E dL_law_1434 ?_
  refine l_iload3 E dL_law_1435 ?_
  refine l_iconst (v := (2 : Int32)) E dL_law_1436 (by decide) ?_
  refine l_iadd E dL_law_1437 ?_
  refine l_iald (k0 := 2) E (by decide) (hin 2 (by decide)) dL_law_1438 ?_
  refine l_aload0 E dL_law_1439 ?_
  refine l_iload3 E dL_law_1440 ?_
  refine l_iconst (v := (3 : Int32)) E dL_law_1441 (by decide) ?_
  refine l_iadd E dL_law_1442 ?_
  refine l_iald (k0 := 3) E (by decide) (hin 3 (by decide)) dL_law_1443 ?_
  refine l_call (rest := [.int v]) (n := 3) E (C_r_write l G _ _ _ m1 h2) ⟨by decide, by decide, by decide +kernel⟩ W1776 W1777 W1778 W103 W1779 rfl rfl rfl rfl (Nat.le_of_ble_eq_true rfl) (by decide) (by decide) dL_law_1444 ?_
  exact l_eq (tgt := 1772) E dL_law_1447 (by decide) (hgo _ hI)
set_option maxRecDepth 20000 in
theorem law_item {l : Launch} {p : Program} {e : Env} {s : State} {mi : MethodId} {below : List Frame} {meth : Method} {c : Code} {G : GG} {b L : Nat} {xs : Nat → Int32} {I : M → Prop} (E : LEn l p e s mi meth c G b L xs) {i : Nat} {m : M} (hin : ∀ k : Nat, k < 5 → i + k < L) (hs : OK_item I m) (hgo : ∀ m1 : M, I m1 → Lm l p e s mi below meth c G b 97 3849 1772 i [] m1) : Lm l p e s mi below meth c G b 97 3849 1452 i [] m := by
  obtain ⟨v, h1, h2, hI⟩ := hs (xs (i + 1)) (xs (i + 2)) (xs (i + 3))
  refine l_aload1 E dL_law_1452 ?_
  refine l_aload0 E dL_law_1453 ?_
  refine l_iload3 E dL_law_1454 ?_
  refine l_iconst (v := (1 : Int32)) E dL_law_1455 (by decide) ?_
  refine l_iadd E dL_law_1456 ?_
  refine l_iald (k0 := 1) E (by decide) (hin 1 (by decide)) dL_law_1457 ?_
  refine l_aload0 E dL_law_1458 ?_
  refine l_iload3 E dL_law_1459 ?_
  refine l_iconst (v := (2 : Int32)) E dL_law_1460 (by decide) ?_
  refine l_iadd E dL_law_1461 ?_
  refine l_iald (k0 := 2) E (by decide) (hin 2 (by decide)) dL_law_1462 ?_
  refine l_aload0 E dL_law_1463 ?_
  refine l_iload3 E dL_law_1464 ?_
  refine l_iconst (v := (3 : Int32)) E dL_law_1465 (by decide) ?_
  refine l_iadd E dL_law_1466 ?_
  refine l_iald (k0 := 3) E (by decide) (hin 3 (by decide)) dL_law_1467 ?_
  refine l_call (rest := []) (n := 3) E (C_k_item l G _ _ _ m h1) ⟨by decide, by decide, by decide +kernel⟩ W1079 W1080 W1081 W91 W1082 rfl rfl rfl rfl (Nat.le_of_ble_eq_true rfl) (by decide) (by decide) dL_law_1468 ?_
  refine l_aload2 E dL_law_1471 ?_
  refine l_aload0 E dL_law_1472 ?_
  refine l_iload3 E dL_law_1473 ?_
  refine l_iconst (v := (1 : Int32)) E dL_law_1474 (by decide) ?_
  refine l_iadd E dL_law_1475 ?_
  refine l_iald (k0 := 1) E (by decide) (hin 1 (by decide)) dL_law_1476 ?_
  refine l_aload0 E dL_law_1477 ?_
  refine l_iload3 E dL_law_1478 ?_
  refine l_iconst (v := (2 : Int32)) E dL_law_1479 (by decide) ?_
  refine l_iadd E dL_law_1480 ?_
  refine l_iald (k0 := 2) E (by decide) (hin 2 (by decide)) dL_law_1481 ?_
  refine l_aload0 E dL_law_1482 ?_
  refine l_iload3 E dL_law_1483 ?_
  refine l_iconst (v := (3 : Int32)) E dL_law_1484 (by decide) ?_
  refine l_iadd E dL_law_1485 ?_
  refine l_iald (k0 := 3) E (by decide) (hin 3 (by decide)) dL_law_1486 ?_
  refine l_call (rest := [.int v]) (n := 3) E (C_r_item l G _ _ _ m h2) ⟨by decide, by decide, by decide +kernel⟩ W1783 W1784 W1785 W103 W1786 rfl rfl rfl rfl (Nat.le_of_ble_eq_true rfl) (by decide) (by decide) dL_law_1487 ?_
  exact l_eq (tgt := 1772) E dL_law_1490 (by decide) (hgo _ hI)
set_option maxRecDepth 20000 in
theorem law_goAll {l : Launch} {p : Program} {e : Env} {s : State} {mi : MethodId} {below : List Frame} {meth : Method} {c : Code} {G : GG} {b L : Nat} {xs : Nat → Int32} {I : M → Prop} (E : LEn l p e s mi meth c G b L xs) {i : Nat} {m : M} (hin : ∀ k : Nat, k < 5 → i + k < L) (hs : OK_goAll I m) (hgo : ∀ m1 : M, I m1 → Lm l p e s mi below meth c G b 97 3849 1772 i [] m1) : Lm l p e s mi below meth c G b 97 3849 1495 i [] m := by
  obtain ⟨v, m1, m2, h1, h2, hI⟩ := hs (xs (i + 1)) (xs (i + 2)) (xs (i + 3))
  refine l_aload1 E dL_law_1495 ?_
  refine l_aload0 E dL_law_1496 ?_
  refine l_iload3 E dL_law_1497 ?_
  refine l_iconst (v := (1 : Int32)) E dL_law_1498 (by decide) ?_
  refine l_iadd E dL_law_1499 ?_
  refine l_iald (k0 := 1) E (by decide) (hin 1 (by decide)) dL_law_1500 ?_
  refine l_aload0 E dL_law_1501 ?_
  refine l_iload3 E dL_law_1502 ?_
  refine l_iconst (v := (2 : Int32)) E dL_law_1503 (by decide) ?_
  refine l_iadd E dL_law_1504 ?_
  refine l_iald (k0 := 2) E (by decide) (hin 2 (by decide)) dL_law_1505 ?_
  refine l_aload0 E dL_law_1506 ?_
  refine l_iload3 E dL_law_1507 ?_
  refine l_iconst (v := (3 : Int32)) E dL_law_1508 (by decide) ?_
  refine l_iadd E dL_law_1509 ?_
  refine l_iald (k0 := 3) E (by decide) (hin 3 (by decide)) dL_law_1510 ?_
  refine l_call (rest := []) (n := 3) E (C_k_goAll l G _ _ _ m h1) ⟨by decide, by decide, by decide +kernel⟩ W1091 W1092 W1093 W91 W1094 rfl rfl rfl rfl (Nat.le_of_ble_eq_true rfl) (by decide) (by decide) dL_law_1511 ?_
  refine l_aload2 E dL_law_1514 ?_
  refine l_aload0 E dL_law_1515 ?_
  refine l_iload3 E dL_law_1516 ?_
  refine l_iconst (v := (1 : Int32)) E dL_law_1517 (by decide) ?_
  refine l_iadd E dL_law_1518 ?_
  refine l_iald (k0 := 1) E (by decide) (hin 1 (by decide)) dL_law_1519 ?_
  refine l_aload0 E dL_law_1520 ?_
  refine l_iload3 E dL_law_1521 ?_
  refine l_iconst (v := (2 : Int32)) E dL_law_1522 (by decide) ?_
  refine l_iadd E dL_law_1523 ?_
  refine l_iald (k0 := 2) E (by decide) (hin 2 (by decide)) dL_law_1524 ?_
  refine l_aload0 E dL_law_1525 ?_
  refine l_iload3 E dL_law_1526 ?_
  refine l_iconst (v := (3 : Int32)) E dL_law_1527 (by decide) ?_
  refine l_iadd E dL_law_1528 ?_
  refine l_iald (k0 := 3) E (by decide) (hin 3 (by decide)) dL_law_1529 ?_
  refine l_call (rest := [.int v]) (n := 3) E (C_r_goAll l G _ _ _ m1 h2) ⟨by decide, by decide, by decide +kernel⟩ W1791 W1792 W1793 W103 W1794 rfl rfl rfl rfl (Nat.le_of_ble_eq_true rfl) (by decide) (by decide) dL_law_1530 ?_
  exact l_eq (tgt := 1772) E dL_law_1533 (by decide) (hgo _ hI)
set_option maxRecDepth 20000 in
theorem law_wouldBe {l : Launch} {p : Program} {e : Env} {s : State} {mi : MethodId} {below : List Frame} {meth : Method} {c : Code} {G : GG} {b L : Nat} {xs : Nat → Int32} {I : M → Prop} (E : LEn l p e s mi meth c G b L xs) {i : Nat} {m : M} (hin : ∀ k : Nat, k < 5 → i + k < L) (hs : OK_wouldBe I m) (hgo : ∀ m1 : M, I m1 → Lm l p e s mi below meth c G b 97 3849 1772 i [] m1) : Lm l p e s mi below meth c G b 97 3849 1538 i [] m := by
  obtain ⟨v, m1, m2, h1, h2, hI⟩ := hs (xs (i + 1)) (xs (i + 2)) (xs (i + 3))
  refine l_aload1 E dL_law_1538 ?_
  refine l_aload0 E dL_law_1539 ?_
  refine l_iload3 E dL_law_1540 ?_
  refine l_iconst (v := (1 : Int32)) E dL_law_1541 (by decide) ?_
  refine l_iadd E dL_law_1542 ?_
  refine l_iald (k0 := 1) E (by decide) (hin 1 (by decide)) dL_law_1543 ?_
  refine l_aload0 E dL_law_1544 ?_
  refine l_iload3 E dL_law_1545 ?_
  refine l_iconst (v := (2 : Int32)) E dL_law_1546 (by decide) ?_
  refine l_iadd E dL_law_1547 ?_
  refine l_iald (k0 := 2) E (by decide) (hin 2 (by decide)) dL_law_1548 ?_
  refine l_aload0 E dL_law_1549 ?_
  refine l_iload3 E dL_law_1550 ?_
  refine l_iconst (v := (3 : Int32)) E dL_law_1551 (by decide) ?_
  refine l_iadd E dL_law_1552 ?_
  refine l_iald (k0 := 3) E (by decide) (hin 3 (by decide)) dL_law_1553 ?_
  refine l_call (rest := []) (n := 3) E (C_k_wouldBe l G _ _ _ m h1) ⟨by decide, by decide, by decide +kernel⟩ W1095 W1096 W1097 W91 W1098 rfl rfl rfl rfl (Nat.le_of_ble_eq_true rfl) (by decide) (by decide) dL_law_1554 ?_
  refine l_aload2 E dL_law_1557 ?_
  refine l_aload0 E dL_law_1558 ?_
  refine l_iload3 E dL_law_1559 ?_
  refine l_iconst (v := (1 : Int32)) E dL_law_1560 (by decide) ?_
  refine l_iadd E dL_law_1561 ?_
  refine l_iald (k0 := 1) E (by decide) (hin 1 (by decide)) dL_law_1562 ?_
  refine l_aload0 E dL_law_1563 ?_
  refine l_iload3 E dL_law_1564 ?_
  refine l_iconst (v := (2 : Int32)) E dL_law_1565 (by decide) ?_
  refine l_iadd E dL_law_1566 ?_
  refine l_iald (k0 := 2) E (by decide) (hin 2 (by decide)) dL_law_1567 ?_
  refine l_aload0 E dL_law_1568 ?_
  refine l_iload3 E dL_law_1569 ?_
  refine l_iconst (v := (3 : Int32)) E dL_law_1570 (by decide) ?_
  refine l_iadd E dL_law_1571 ?_
  refine l_iald (k0 := 3) E (by decide) (hin 3 (by decide)) dL_law_1572 ?_
  refine l_call (rest := [.int v]) (n := 3) E (C_r_wouldBe l G _ _ _ m1 h2) ⟨by decide, by decide, by decide +kernel⟩ W1799 W1800 W1801 W103 W1802 rfl rfl rfl rfl (Nat.le_of_ble_eq_true rfl) (by decide) (by decide) dL_law_1573 ?_
  exact l_eq (tgt := 1772) E dL_law_1576 (by decide) (hgo _ hI)
set_option maxRecDepth 20000 in
theorem law_shelf {l : Launch} {p : Program} {e : Env} {s : State} {mi : MethodId} {below : List Frame} {meth : Method} {c : Code} {G : GG} {b L : Nat} {xs : Nat → Int32} {I : M → Prop} (E : LEn l p e s mi meth c G b L xs) {i : Nat} {m : M} (hin : ∀ k : Nat, k < 5 → i + k < L) (hs : OK_shelf I m) (hgo : ∀ m1 : M, I m1 → Lm l p e s mi below meth c G b 97 3849 1772 i [] m1) : Lm l p e s mi below meth c G b 97 3849 1581 i [] m := by
  obtain ⟨v, m1, m2, h1, h2, hI⟩ := hs (xs (i + 1)) (xs (i + 2)) (xs (i + 3))
  refine l_aload1 E dL_law_1581 ?_
  refine l_aload0 E dL_law_1582 ?_
  refine l_iload3 E dL_law_1583 ?_
  refine l_iconst (v := (1 : Int32)) E dL_law_1584 (by decide) ?_
  refine l_iadd E dL_law_1585 ?_
  refine l_iald (k0 := 1) E (by decide) (hin 1 (by decide)) dL_law_1586 ?_
  refine l_aload0 E dL_law_1587 ?_
  refine l_iload3 E dL_law_1588 ?_
  refine l_iconst (v := (2 : Int32)) E dL_law_1589 (by decide) ?_
  refine l_iadd E dL_law_1590 ?_
  refine l_iald (k0 := 2) E (by decide) (hin 2 (by decide)) dL_law_1591 ?_
  refine l_aload0 E dL_law_1592 ?_
  refine l_iload3 E dL_law_1593 ?_
  refine l_iconst (v := (3 : Int32)) E dL_law_1594 (by decide) ?_
  refine l_iadd E dL_law_1595 ?_
  refine l_iald (k0 := 3) E (by decide) (hin 3 (by decide)) dL_law_1596 ?_
  refine l_call (rest := []) (n := 3) E (C_k_shelf l G _ _ _ m h1) ⟨by decide, by decide, by decide +kernel⟩ W1099 W1100 W1101 W91 W1102 rfl rfl rfl rfl (Nat.le_of_ble_eq_true rfl) (by decide) (by decide) dL_law_1597 ?_
  refine l_aload2 E dL_law_1600 ?_
  refine l_aload0 E dL_law_1601 ?_
  refine l_iload3 E dL_law_1602 ?_
  refine l_iconst (v := (1 : Int32)) E dL_law_1603 (by decide) ?_
  refine l_iadd E dL_law_1604 ?_
  refine l_iald (k0 := 1) E (by decide) (hin 1 (by decide)) dL_law_1605 ?_
  refine l_aload0 E dL_law_1606 ?_
  refine l_iload3 E dL_law_1607 ?_
  refine l_iconst (v := (2 : Int32)) E dL_law_1608 (by decide) ?_
  refine l_iadd E dL_law_1609 ?_
  refine l_iald (k0 := 2) E (by decide) (hin 2 (by decide)) dL_law_1610 ?_
  refine l_aload0 E dL_law_1611 ?_
  refine l_iload3 E dL_law_1612 ?_
  refine l_iconst (v := (3 : Int32)) E dL_law_1613 (by decide) ?_
  refine l_iadd E dL_law_1614 ?_
  refine l_iald (k0 := 3) E (by decide) (hin 3 (by decide)) dL_law_1615 ?_
  refine l_call (rest := [.int v]) (n := 3) E (C_r_shelf l G _ _ _ m1 h2) ⟨by decide, by decide, by decide +kernel⟩ W1803 W1804 W1805 W103 W1806 rfl rfl rfl rfl (Nat.le_of_ble_eq_true rfl) (by decide) (by decide) dL_law_1616 ?_
  exact l_eq (tgt := 1772) E dL_law_1619 (by decide) (hgo _ hI)
set_option maxRecDepth 20000 in
theorem law_taken {l : Launch} {p : Program} {e : Env} {s : State} {mi : MethodId} {below : List Frame} {meth : Method} {c : Code} {G : GG} {b L : Nat} {xs : Nat → Int32} {I : M → Prop} (E : LEn l p e s mi meth c G b L xs) {i : Nat} {m : M} (hin : ∀ k : Nat, k < 5 → i + k < L) (hs : OK_taken I m) (hgo : ∀ m1 : M, I m1 → Lm l p e s mi below meth c G b 97 3849 1772 i [] m1) : Lm l p e s mi below meth c G b 97 3849 1624 i [] m := by
  obtain ⟨v, h1, h2, hI⟩ := hs (xs (i + 1)) (xs (i + 2))
  refine l_aload1 E dL_law_1624 ?_
  refine l_aload0 E dL_law_1625 ?_
  refine l_iload3 E dL_law_1626 ?_
  refine l_iconst (v := (1 : Int32)) E dL_law_1627 (by decide) ?_
  refine l_iadd E dL_law_1628 ?_
  refine l_iald (k0 := 1) E (by decide) (hin 1 (by decide)) dL_law_1629 ?_
  refine l_aload0 E dL_law_1630 ?_
  refine l_iload3 E dL_law_1631 ?_
  refine l_iconst (v := (2 : Int32)) E dL_law_1632 (by decide) ?_
  refine l_iadd E dL_law_1633 ?_
  refine l_iald (k0 := 2) E (by decide) (hin 2 (by decide)) dL_law_1634 ?_
  refine l_call (rest := []) (n := 2) E (C_k_taken l G _ _ m h1) ⟨by decide, by decide, by decide +kernel⟩ W1107 W1108 W1109 W91 W1110 rfl rfl rfl rfl (Nat.le_of_ble_eq_true rfl) (by decide) (by decide) dL_law_1635 ?_
  refine l_aload2 E dL_law_1638 ?_
  refine l_aload0 E dL_law_1639 ?_
  refine l_iload3 E dL_law_1640 ?_
  refine l_iconst (v := (1 : Int32)) E dL_law_1641 (by decide) ?_
  refine l_iadd E dL_law_1642 ?_
  refine l_iald (k0 := 1) E (by decide) (hin 1 (by decide)) dL_law_1643 ?_
  refine l_aload0 E dL_law_1644 ?_
  refine l_iload3 E dL_law_1645 ?_
  refine l_iconst (v := (2 : Int32)) E dL_law_1646 (by decide) ?_
  refine l_iadd E dL_law_1647 ?_
  refine l_iald (k0 := 2) E (by decide) (hin 2 (by decide)) dL_law_1648 ?_
  refine l_call (rest := [.int v]) (n := 2) E (C_r_taken l G _ _ m h2) ⟨by decide, by decide, by decide +kernel⟩ W1807 W1808 W1809 W103 W1810 rfl rfl rfl rfl (Nat.le_of_ble_eq_true rfl) (by decide) (by decide) dL_law_1649 ?_
  exact l_eq (tgt := 1772) E dL_law_1652 (by decide) (hgo _ hI)
set_option maxRecDepth 20000 in
theorem law_act {l : Launch} {p : Program} {e : Env} {s : State} {mi : MethodId} {below : List Frame} {meth : Method} {c : Code} {G : GG} {b L : Nat} {xs : Nat → Int32} {I : M → Prop} (E : LEn l p e s mi meth c G b L xs) {i : Nat} {m : M} (hin : ∀ k : Nat, k < 5 → i + k < L) (hs : OK_act I m) (hgo : ∀ m1 : M, I m1 → Lm l p e s mi below meth c G b 97 3849 1772 i [] m1) : Lm l p e s mi below meth c G b 97 3849 1657 i [] m := by
  obtain ⟨v, m1, m2, h1, h2, hI⟩ := hs (xs (i + 1)) (xs (i + 2)) (xs (i + 3))
  refine l_aload1 E dL_law_1657 ?_
  refine l_aload0 E dL_law_1658 ?_
  refine l_iload3 E dL_law_1659 ?_
  refine l_iconst (v := (1 : Int32)) E dL_law_1660 (by decide) ?_
  refine l_iadd E dL_law_1661 ?_
  refine l_iald (k0 := 1) E (by decide) (hin 1 (by decide)) dL_law_1662 ?_
  refine l_aload0 E dL_law_1663 ?_
  refine l_iload3 E dL_law_1664 ?_
  refine l_iconst (v := (2 : Int32)) E dL_law_1665 (by decide) ?_
  refine l_iadd E dL_law_1666 ?_
  refine l_iald (k0 := 2) E (by decide) (hin 2 (by decide)) dL_law_1667 ?_
  refine l_aload0 E dL_law_1668 ?_
  refine l_iload3 E dL_law_1669 ?_
  refine l_iconst (v := (3 : Int32)) E dL_law_1670 (by decide) ?_
  refine l_iadd E dL_law_1671 ?_
  refine l_iald (k0 := 3) E (by decide) (hin 3 (by decide)) dL_law_1672 ?_
  refine l_call (rest := []) (n := 3) E (C_k_act l G _ _ _ m h1) ⟨by decide, by decide, by decide +kernel⟩ W1112 W1113 W1114 W91 W1115 rfl rfl rfl rfl (Nat.le_of_ble_eq_true rfl) (by decide) (by decide) dL_law_1673 ?_
  refine l_aload2 E dL_law_1676 ?_
  refine l_aload0 E dL_law_1677 ?_
  refine l_iload3 E dL_law_1678 ?_
  refine l_iconst (v := (1 : Int32)) E dL_law_1679 (by decide) ?_
  refine l_iadd E dL_law_1680 ?_
  refine l_iald (k0 := 1) E (by decide) (hin 1 (by decide)) dL_law_1681 ?_
  refine l_aload0 E dL_law_1682 ?_
  refine l_iload3 E dL_law_1683 ?_
  refine l_iconst (v := (2 : Int32)) E dL_law_1684 (by decide) ?_
  refine l_iadd E dL_law_1685 ?_
  refine l_iald (k0 := 2) E (by decide) (hin 2 (by decide)) dL_law_1686 ?_
  refine l_aload0 E dL_law_1687 ?_
  refine l_iload3 E dL_law_1688 ?_
  refine l_iconst (v := (3 : Int32)) E dL_law_1689 (by decide) ?_
  refine l_iadd E dL_law_1690 ?_
  refine l_iald (k0 := 3) E (by decide) (hin 3 (by decide)) dL_law_1691 ?_
  refine l_call (rest := [.int v]) (n := 3) E (C_r_act l G _ _ _ m1 h2) ⟨by decide, by decide, by decide +kernel⟩ W1815 W1816 W1817 W103 W1818 rfl rfl rfl rfl (Nat.le_of_ble_eq_true rfl) (by decide) (by decide) dL_law_1692 ?_
  exact l_eq (tgt := 1772) E dL_law_1695 (by decide) (hgo _ hI)
set_option maxRecDepth 20000 in
theorem law_trace {l : Launch} {p : Program} {e : Env} {s : State} {mi : MethodId} {below : List Frame} {meth : Method} {c : Code} {G : GG} {b L : Nat} {xs : Nat → Int32} {I : M → Prop} (E : LEn l p e s mi meth c G b L xs) {i : Nat} {m : M} (hin : ∀ k : Nat, k < 5 → i + k < L) (hs : OK_trace I m) (hgo : ∀ m1 : M, I m1 → Lm l p e s mi below meth c G b 97 3849 1772 i [] m1) : Lm l p e s mi below meth c G b 97 3849 1700 i [] m := by
  obtain ⟨v, h1, h2, hI⟩ := hs (xs (i + 1))
  refine l_aload1 E dL_law_1700 ?_
  refine l_aload0 E dL_law_1701 ?_
  refine l_iload3 E dL_law_1702 ?_
  refine l_iconst (v := (1 : Int32)) E dL_law_1703 (by decide) ?_
  refine l_iadd E dL_law_1704 ?_
  refine l_iald (k0 := 1) E (by decide) (hin 1 (by decide)) dL_law_1705 ?_
  refine l_call (rest := []) (n := 1) E (C_k_trace l G _ m h1) ⟨by decide, by decide, by decide +kernel⟩ W1206 W1207 W1208 W91 W1209 rfl rfl rfl rfl (Nat.le_of_ble_eq_true rfl) (by decide) (by decide) dL_law_1706 ?_
  refine l_aload2 E dL_law_1709 ?_
  refine l_aload0 E dL_law_1710 ?_
  refine l_iload3 E dL_law_1711 ?_
  refine l_iconst (v := (1 : Int32)) E dL_law_1712 (by decide) ?_
  refine l_iadd E dL_law_1713 ?_
  refine l_iald (k0 := 1) E (by decide) (hin 1 (by decide)) dL_law_1714 ?_
  refine l_call (rest := [.int v]) (n := 1) E (C_r_trace l G _ m h2) ⟨by decide, by decide, by decide +kernel⟩ W1839 W1840 W1841 W103 W1842 rfl rfl rfl rfl (Nat.le_of_ble_eq_true rfl) (by decide) (by decide) dL_law_1715 ?_
  exact l_eq (tgt := 1772) E dL_law_1718 (by decide) (hgo _ hI)
set_option maxRecDepth 20000 in
theorem law_many {l : Launch} {p : Program} {e : Env} {s : State} {mi : MethodId} {below : List Frame} {meth : Method} {c : Code} {G : GG} {b L : Nat} {xs : Nat → Int32} {I : M → Prop} (E : LEn l p e s mi meth c G b L xs) {i : Nat} {m : M} (hin : ∀ k : Nat, k < 5 → i + k < L) (hs : OK_many I m) (hgo : ∀ m1 : M, I m1 → Lm l p e s mi below meth c G b 97 3849 1772 i [] m1) : Lm l p e s mi below meth c G b 97 3849 1723 i [] m := by
  obtain ⟨v, h1, h2, hI⟩ := hs (xs (i + 1))
  refine l_aload1 E dL_law_1723 ?_
  refine l_aload0 E dL_law_1724 ?_
  refine l_iload3 E dL_law_1725 ?_
  refine l_iconst (v := (1 : Int32)) E dL_law_1726 (by decide) ?_
  refine l_iadd E dL_law_1727 ?_
  refine l_iald (k0 := 1) E (by decide) (hin 1 (by decide)) dL_law_1728 ?_
  refine l_call (rest := []) (n := 1) E (C_k_many l G _ m h1) ⟨by decide, by decide, by decide +kernel⟩ W1210 W1211 W1212 W91 W1213 rfl rfl rfl rfl (Nat.le_of_ble_eq_true rfl) (by decide) (by decide) dL_law_1729 ?_
  refine l_aload2 E dL_law_1732 ?_
  refine l_aload0 E dL_law_1733 ?_
  refine l_iload3 E dL_law_1734 ?_
  refine l_iconst (v := (1 : Int32)) E dL_law_1735 (by decide) ?_
  refine l_iadd E dL_law_1736 ?_
  refine l_iald (k0 := 1) E (by decide) (hin 1 (by decide)) dL_law_1737 ?_
  refine l_call (rest := [.int v]) (n := 1) E (C_r_many l G _ m h2) ⟨by decide, by decide, by decide +kernel⟩ W1843 W1844 W1845 W103 W1846 rfl rfl rfl rfl (Nat.le_of_ble_eq_true rfl) (by decide) (by decide) dL_law_1738 ?_
  exact l_eq (tgt := 1772) E dL_law_1741 (by decide) (hgo _ hI)
set_option maxRecDepth 20000 in
theorem law_keep {l : Launch} {p : Program} {e : Env} {s : State} {mi : MethodId} {below : List Frame} {meth : Method} {c : Code} {G : GG} {b L : Nat} {xs : Nat → Int32} {I : M → Prop} (E : LEn l p e s mi meth c G b L xs) {i : Nat} {m : M} (hin : ∀ k : Nat, k < 5 → i + k < L) (hs : OK_keep I m) (hgo : ∀ m1 : M, I m1 → Lm l p e s mi below meth c G b 97 3849 1772 i [] m1) : Lm l p e s mi below meth c G b 97 3849 1746 i [] m := by
  obtain ⟨v, m1, m2, h1, h2, hI⟩ := hs 
  refine l_aload1 E dL_law_1746 ?_
  refine l_call (rest := []) (n := 0) E (C_k_keep l G  m h1) ⟨by decide, by decide, by decide +kernel⟩ W1214 W1215 W1216 W91 W1217 rfl rfl rfl rfl (Nat.le_of_ble_eq_true rfl) (by decide) (by decide) dL_law_1747 ?_
  refine l_aload2 E dL_law_1750 ?_
  refine l_call (rest := [.int v]) (n := 0) E (C_r_keep l G  m1 h2) ⟨by decide, by decide, by decide +kernel⟩ W1850 W1851 W1852 W103 W1853 rfl rfl rfl rfl (Nat.le_of_ble_eq_true rfl) (by decide) (by decide) dL_law_1751 ?_
  exact l_eq (tgt := 1772) E dL_law_1754 (by decide) (hgo _ hI)
set_option maxRecDepth 20000 in
theorem law_again {l : Launch} {p : Program} {e : Env} {s : State} {mi : MethodId} {below : List Frame} {meth : Method} {c : Code} {G : GG} {b L : Nat} {xs : Nat → Int32} {I : M → Prop} (E : LEn l p e s mi meth c G b L xs) {i : Nat} {m : M} (hin : ∀ k : Nat, k < 5 → i + k < L) (hs : OK_again I m) (hgo : ∀ m1 : M, I m1 → Lm l p e s mi below meth c G b 97 3849 1772 i [] m1) : Lm l p e s mi below meth c G b 97 3849 1759 i [] m := by
  obtain ⟨v, m1, m2, h1, h2, hI⟩ := hs 
  refine l_aload1 E dL_law_1759 ?_
  refine l_call (rest := []) (n := 0) E (C_k_again l G  m h1) ⟨by decide, by decide, by decide +kernel⟩ W1229 W1230 W1231 W91 W1232 rfl rfl rfl rfl (Nat.le_of_ble_eq_true rfl) (by decide) (by decide) dL_law_1760 ?_
  refine l_aload2 E dL_law_1763 ?_
  refine l_call (rest := [.int v]) (n := 0) E (C_r_again l G  m1 h2) ⟨by decide, by decide, by decide +kernel⟩ W1854 W1855 W1856 W103 W1857 rfl rfl rfl rfl (Nat.le_of_ble_eq_true rfl) (by decide) (by decide) dL_law_1764 ?_
  exact l_eq (tgt := 1772) E dL_law_1767 (by decide) (hgo _ hI)
