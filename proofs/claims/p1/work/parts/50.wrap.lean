theorem u_275 : Cond.methodLink RL 7 yX7_poly ∈ uU := uU_in (by decide +kernel) (by decide +kernel)
theorem u_276 : Cond.instanceMethod yX7_poly ∈ uU := uU_in (by decide +kernel) (by decide +kernel)
theorem u_277 : Cond.selects yX7_poly.cls yX7_poly yX7_poly ∈ uU := uU_in (by decide +kernel) (by decide +kernel)
theorem u_278 : Cond.initialized yX7_poly.cls ∈ uU := uU_in (by decide +kernel) (by decide +kernel)
theorem u_279 : Cond.code yX7_poly cX7_poly 1 (some .int) ∈ uU := uU_in (by decide +kernel) (by decide +kernel)
theorem u_280 : Cond.methodLink RL 23 yX7_at ∈ uU := uU_in (by decide +kernel) (by decide +kernel)
theorem u_281 : Cond.instanceMethod yX7_at ∈ uU := uU_in (by decide +kernel) (by decide +kernel)
theorem u_282 : Cond.selects yX7_at.cls yX7_at yX7_at ∈ uU := uU_in (by decide +kernel) (by decide +kernel)
theorem u_283 : Cond.initialized yX7_at.cls ∈ uU := uU_in (by decide +kernel) (by decide +kernel)
theorem u_284 : Cond.code yX7_at cX7_at 3 (some .int) ∈ uU := uU_in (by decide +kernel) (by decide +kernel)
theorem u_285 : Cond.classLink RL 19 nAI ∈ uU := uU_in (by decide +kernel) (by decide +kernel)
theorem u_286 : Cond.methodLink RL 15 yX7_set ∈ uU := uU_in (by decide +kernel) (by decide +kernel)
theorem u_287 : Cond.instanceMethod yX7_set ∈ uU := uU_in (by decide +kernel) (by decide +kernel)
theorem u_288 : Cond.selects yX7_set.cls yX7_set yX7_set ∈ uU := uU_in (by decide +kernel) (by decide +kernel)
theorem u_289 : Cond.initialized yX7_set.cls ∈ uU := uU_in (by decide +kernel) (by decide +kernel)
theorem u_290 : Cond.code yX7_set cX7_set 5 (some .boolean) ∈ uU := uU_in (by decide +kernel) (by decide +kernel)
theorem u_291 : Cond.classLink RL 21 nIA ∈ uU := uU_in (by decide +kernel) (by decide +kernel)
theorem u_292 : Cond.methodLink RL 27 yX7_times ∈ uU := uU_in (by decide +kernel) (by decide +kernel)
theorem u_293 : Cond.instanceMethod yX7_times ∈ uU := uU_in (by decide +kernel) (by decide +kernel)
theorem u_294 : Cond.selects yX7_times.cls yX7_times yX7_times ∈ uU := uU_in (by decide +kernel) (by decide +kernel)
theorem u_295 : Cond.initialized yX7_times.cls ∈ uU := uU_in (by decide +kernel) (by decide +kernel)
theorem u_296 : Cond.code yX7_times cX7_times 3 (some .int) ∈ uU := uU_in (by decide +kernel) (by decide +kernel)
theorem u_297 : Cond.methodLink RL 35 yX7_gcd ∈ uU := uU_in (by decide +kernel) (by decide +kernel)
theorem u_298 : Cond.instanceMethod yX7_gcd ∈ uU := uU_in (by decide +kernel) (by decide +kernel)
theorem u_299 : Cond.selects yX7_gcd.cls yX7_gcd yX7_gcd ∈ uU := uU_in (by decide +kernel) (by decide +kernel)
theorem u_300 : Cond.initialized yX7_gcd.cls ∈ uU := uU_in (by decide +kernel) (by decide +kernel)
theorem u_301 : Cond.code yX7_gcd cX7_gcd 3 (some .int) ∈ uU := uU_in (by decide +kernel) (by decide +kernel)
theorem u_302 : Cond.methodLink RL 30 yX7_over ∈ uU := uU_in (by decide +kernel) (by decide +kernel)
theorem u_303 : Cond.instanceMethod yX7_over ∈ uU := uU_in (by decide +kernel) (by decide +kernel)
theorem u_304 : Cond.selects yX7_over.cls yX7_over yX7_over ∈ uU := uU_in (by decide +kernel) (by decide +kernel)
theorem u_305 : Cond.initialized yX7_over.cls ∈ uU := uU_in (by decide +kernel) (by decide +kernel)
theorem u_306 : Cond.code yX7_over cX7_over 3 (some .int) ∈ uU := uU_in (by decide +kernel) (by decide +kernel)
theorem u_307 : Cond.classLink RL 13 nIS ∈ uU := uU_in (by decide +kernel) (by decide +kernel)
theorem u_308 : Cond.classLink RL 33 nAR ∈ uU := uU_in (by decide +kernel) (by decide +kernel)
theorem u_309 : Cond.methodLink RL 38 yX7_run ∈ uU := uU_in (by decide +kernel) (by decide +kernel)
theorem u_310 : Cond.instanceMethod yX7_run ∈ uU := uU_in (by decide +kernel) (by decide +kernel)
theorem u_311 : Cond.selects yX7_run.cls yX7_run yX7_run ∈ uU := uU_in (by decide +kernel) (by decide +kernel)
theorem u_312 : Cond.initialized yX7_run.cls ∈ uU := uU_in (by decide +kernel) (by decide +kernel)
theorem u_313 : Cond.code yX7_run cX7_run 4 (some .int) ∈ uU := uU_in (by decide +kernel) (by decide +kernel)
theorem u_314 : Cond.methodLink RL 42 yX7_factor ∈ uU := uU_in (by decide +kernel) (by decide +kernel)
theorem u_315 : Cond.instanceMethod yX7_factor ∈ uU := uU_in (by decide +kernel) (by decide +kernel)
theorem u_316 : Cond.selects yX7_factor.cls yX7_factor yX7_factor ∈ uU := uU_in (by decide +kernel) (by decide +kernel)
theorem u_317 : Cond.initialized yX7_factor.cls ∈ uU := uU_in (by decide +kernel) (by decide +kernel)
theorem u_318 : Cond.code yX7_factor cX7_factor 2 (some .int) ∈ uU := uU_in (by decide +kernel) (by decide +kernel)
theorem u_319 : Cond.methodLink RL 45 yX7_multiplicity ∈ uU := uU_in (by decide +kernel) (by decide +kernel)
theorem u_320 : Cond.instanceMethod yX7_multiplicity ∈ uU := uU_in (by decide +kernel) (by decide +kernel)
theorem u_321 : Cond.selects yX7_multiplicity.cls yX7_multiplicity yX7_multiplicity ∈ uU := uU_in (by decide +kernel) (by decide +kernel)
theorem u_322 : Cond.initialized yX7_multiplicity.cls ∈ uU := uU_in (by decide +kernel) (by decide +kernel)
theorem u_323 : Cond.code yX7_multiplicity cX7_multiplicity 2 (some .int) ∈ uU := uU_in (by decide +kernel) (by decide +kernel)
theorem u_324 : Cond.methodLink RL 48 yX7_content ∈ uU := uU_in (by decide +kernel) (by decide +kernel)
theorem u_325 : Cond.instanceMethod yX7_content ∈ uU := uU_in (by decide +kernel) (by decide +kernel)
theorem u_326 : Cond.selects yX7_content.cls yX7_content yX7_content ∈ uU := uU_in (by decide +kernel) (by decide +kernel)
theorem u_327 : Cond.initialized yX7_content.cls ∈ uU := uU_in (by decide +kernel) (by decide +kernel)
theorem u_328 : Cond.code yX7_content cX7_content 2 (some .int) ∈ uU := uU_in (by decide +kernel) (by decide +kernel)
theorem u_329 : Cond.methodLink RL 51 yX7_root ∈ uU := uU_in (by decide +kernel) (by decide +kernel)
theorem u_330 : Cond.instanceMethod yX7_root ∈ uU := uU_in (by decide +kernel) (by decide +kernel)
theorem u_331 : Cond.selects yX7_root.cls yX7_root yX7_root ∈ uU := uU_in (by decide +kernel) (by decide +kernel)
theorem u_332 : Cond.initialized yX7_root.cls ∈ uU := uU_in (by decide +kernel) (by decide +kernel)
theorem u_333 : Cond.code yX7_root cX7_root 4 (some .int) ∈ uU := uU_in (by decide +kernel) (by decide +kernel)
theorem u_334 : Cond.methodLink RL 55 yX7_roots ∈ uU := uU_in (by decide +kernel) (by decide +kernel)
theorem u_335 : Cond.instanceMethod yX7_roots ∈ uU := uU_in (by decide +kernel) (by decide +kernel)
theorem u_336 : Cond.selects yX7_roots.cls yX7_roots yX7_roots ∈ uU := uU_in (by decide +kernel) (by decide +kernel)
theorem u_337 : Cond.initialized yX7_roots.cls ∈ uU := uU_in (by decide +kernel) (by decide +kernel)
theorem u_338 : Cond.code yX7_roots cX7_roots 2 (some .int) ∈ uU := uU_in (by decide +kernel) (by decide +kernel)
theorem u_339 : Cond.methodLink RL 58 yX7_parts ∈ uU := uU_in (by decide +kernel) (by decide +kernel)
theorem u_340 : Cond.instanceMethod yX7_parts ∈ uU := uU_in (by decide +kernel) (by decide +kernel)
theorem u_341 : Cond.selects yX7_parts.cls yX7_parts yX7_parts ∈ uU := uU_in (by decide +kernel) (by decide +kernel)
theorem u_342 : Cond.initialized yX7_parts.cls ∈ uU := uU_in (by decide +kernel) (by decide +kernel)
theorem u_343 : Cond.code yX7_parts cX7_parts 4 (some .int) ∈ uU := uU_in (by decide +kernel) (by decide +kernel)
theorem u_344 : Cond.methodLink RL 61 yX7_squareFree ∈ uU := uU_in (by decide +kernel) (by decide +kernel)
theorem u_345 : Cond.instanceMethod yX7_squareFree ∈ uU := uU_in (by decide +kernel) (by decide +kernel)
theorem u_346 : Cond.selects yX7_squareFree.cls yX7_squareFree yX7_squareFree ∈ uU := uU_in (by decide +kernel) (by decide +kernel)
theorem u_347 : Cond.initialized yX7_squareFree.cls ∈ uU := uU_in (by decide +kernel) (by decide +kernel)
theorem u_348 : Cond.code yX7_squareFree cX7_squareFree 2 (some .boolean) ∈ uU := uU_in (by decide +kernel) (by decide +kernel)
theorem u_349 : Cond.methodLink RL 65 yX7_value ∈ uU := uU_in (by decide +kernel) (by decide +kernel)
theorem u_350 : Cond.instanceMethod yX7_value ∈ uU := uU_in (by decide +kernel) (by decide +kernel)
theorem u_351 : Cond.selects yX7_value.cls yX7_value yX7_value ∈ uU := uU_in (by decide +kernel) (by decide +kernel)
theorem u_352 : Cond.initialized yX7_value.cls ∈ uU := uU_in (by decide +kernel) (by decide +kernel)
theorem u_353 : Cond.code yX7_value cX7_value 9 (some .int) ∈ uU := uU_in (by decide +kernel) (by decide +kernel)
def uWH (y : MethodName) (cc : ByteArray) (n : Nat) (ret : Option FieldType) (hh : List (Nat × Nat × Nat × Nat)) : List Cond := .codeWith y cc n ret hh :: uU
set_option maxHeartbeats 1000000 in
theorem hEnter {l : Launch} {y : MethodName} {rm : Room} {G : gG} {av : List Value} {L : List Nat} {f : Nat → va_E} {sz : Nat} {Qc : Array Value → State → Outcome → State → Prop} {mc ms : Nat} {cc : ByteArray} {n : Nat} {ret : Option FieldType} {hh : List (Nat × Nat × Nat × Nat)}
    (hy : plainName y.cls = true) (hn : (lg_sl av).length ≤ n)
    (body : ∀ (p : Program) (e : Env) (s : State) (m : MethodId) (below : List Frame) (meth : Method) (c : Code) (ls : Array Slot), cX p s m av.toArray meth c cc ret n y.cls → c.exceptionTable.toList = tableOf hh → lv_has ls n (lv_args 0 av) → wH G (wA L f sz) s.heap s L f s.heap [] → tX (wA L f sz) s s.heap →
      W p l e rm s m av.toArray below meth c s.heap [] 0 0 (MQ below Qc av.toArray s mc ms (wA L f sz)) (F0 m 0 ls [])) :
    Met l y (uWH y cc n ret hh) rm (wInX G av L f sz) Qc mc ms (wA L f sz) := by
  refine va_MetW (cc := cc) (maxL := n) (ret := ret) (hh := hh) hy rfl ?_
  intro p e s m args below meth c s₁ B hml hv
  obtain ⟨rfl, hsz, hP, hK, hD0, hX⟩ := hv
  have hts := atoms_spec (ws := uWH y cc n ret hh) B.pre
  have htab := vx_table (x := y) B (hts _ List.mem_cons_self)
  have hown : s.vm.findClass y.cls = some m.cls := findClass_of_methodNamed B.named
  have hl := lv_entry av (n := n) hn
  rw [lg_entry_eq]
  exact body p e s m below meth c _ ⟨B.exec, B.bytes, B.returns, hml, hown, fun w h => hts w (List.mem_cons_of_mem _ h), B.notSynchronized⟩ htab hl ⟨hK, hP, hD0.self, va_S.rf, fun q h => Or.inr (by rw [← hsz]; exact h)⟩ hX
def wrO (own : Nat → Prop) (ou : Nat) (f g : Nat → va_E) : Prop := ∀ q : Nat, ¬ own q → q ≠ ou → g q = f q
def bL (b : Int32) : Int64 := if b = 0 then 0 else 1
set_option maxRecDepth 100000 in
set_option maxHeartbeats 4000000 in
theorem z_L_poly (l : Launch) (hl0 : l.stackTraces = false) (G : gG) (L : List Nat) (f : Nat → va_E) (sz : Nat) (x ou : Nat) (own : Nat → Prop) (r : Nat → Int64) (hz : cZ G L f x own) (hoL : ou ∈ L) (hou : f ou = eJ G 1 r) (hno : ¬ own ou) :
    Met l yL_poly (uWH yL_poly cL_poly 3 (some .int) [(0, 8, 11, 13)]) { frames := 2, cells := 0, slots := 0, locals := 44 } (wInX G [.ref x, .ref ou] L f sz) (va_Qi (fun (r9 : Int32) (g : Nat → va_E) => r9 = nI 0 ∧ (r9 = nI 0 → g ou = eJ G 1 (vp_updL r 0 ((nI 0).toInt64))) ∧ wrO own ou f g) (fun g => wAt G (wA L f sz) L g) (wA L f sz)) 0 0 (wA L f sz) := by
  refine hEnter (by decide) (Nat.le_of_ble_eq_true rfl) ?_
  intro p e s m below meth c ls cx htab hl hw hX
  obtain ⟨hx, hb, hr, hml, hown, hts, hlocks⟩ := id cx
  have hown : s.vm.findClass RL = some m.cls := hown
  have hl : lv_has ls 3 [(0, .ref x), (1, .ref ou)] := hl
  generalize wA L f sz = A at hw hX ⊢
  obtain ⟨fs, hxL, hxo⟩ : ∃ fs, x ∈ L ∧ f x = eO 7 fs := by
    obtain ⟨fs, fs6, fs3, co, b1, b2, b3, b4, o3, o6, cr0, cr, r1, r2, r3, r4, h1, h2, -⟩ := hz
    exact ⟨fs, h1, h2⟩
  refine lv_aload_n hx hb dL_poly_0 rfl (lv_at hl 1 rfl) ?_
  refine lv_iconst (v := nI 0) hx hb dL_poly_1 (by decide) ?_
  refine lv_aload_n hx hb dL_poly_2 rfl (lv_at hl 0 rfl) ?_
  refine w_callVi (lf := fun g => (L, g)) (As := []) (rest := [.int (nI 0), .ref ou]) cx.fix hw (z_X7_poly l G L f _ x own hz) hxL hxo rfl rfl (w_cV 0 hts u_275 u_276 u_277 u_278 u_279 rfl rfl (by decide) (by decide)) hl.1 rfl (lv_room (Nat.le_of_ble_eq_true rfl)) dL_poly_3 (by decide) (fun r9 u H locs hp hw => ?_)
  have hw : wH G A s.heap s L u H locs := hw
  obtain ⟨e9, hcO⟩ := hp
  subst e9
  have hou2 : u ou = eJ G 1 r := (hcO ou hno).trans hou
  refine lv_i2l (v := (nI 0).toInt64) hx hb dL_poly_6 rfl ?_
  refine n_last hx hb hw hoL hou2 0 (by omega) (by omega) dL_poly_7 (fun H locs hw => ?_)
  refine lv_goto (tgt := 14) hx hb dL_poly_8 (by decide) ?_
  refine lv_iconst (v := nI 0) hx hb dL_poly_14 (by decide) ?_
  refine W.widen (k := 0) (n := 0) (by decide) (by decide) ?_
  exact w_iret (lf := fun g => (L, g)) hx hb hr hlocks _ hw (⟨rfl, fun _ => va_up_eq _ _ _, fun q h1 h2 => (va_up_ne _ _ h2).trans (hcO q h1)⟩) dL_poly_15
set_option maxRecDepth 100000 in
set_option maxHeartbeats 4000000 in
theorem z_L_at (l : Launch) (hl0 : l.stackTraces = false) (G : gG) (L : List Nat) (f : Nat → va_E) (sz : Nat) (x ou : Nat) (own : Nat → Prop) (r : Nat → Int64) (hz : cZ G L f x own) (hoL : ou ∈ L) (hou : f ou = eJ G 1 r) (hno : ¬ own ou) (v : Int32) (k : Int32) :
    Met l yL_at (uWH yL_at cL_at 5 (some .int) [(0, 10, 13, 19)]) { frames := 9, cells := 2, slots := 12, locals := 137 } (wInX G [.ref x, .int v, .int k, .ref ou] L f sz) (va_Qi (fun (r9 : Int32) (g : Nat → va_E) => r9 = (if inB v 80 && inB k 11 then nI 0 else nI 1) ∧ (r9 = nI 0 → g ou = eJ G 1 (vp_updL r 0 ((nI 0).toInt64))) ∧ wrO own ou f g) (fun g => wAt G (wA L f sz) L g) (wA L f sz)) 2 12 (wA L f sz) := by
  refine hEnter (by decide) (Nat.le_of_ble_eq_true rfl) ?_
  intro p e s m below meth c ls cx htab hl hw hX
  obtain ⟨hx, hb, hr, hml, hown, hts, hlocks⟩ := id cx
  have hown : s.vm.findClass RL = some m.cls := hown
  have hl : lv_has ls 5 [(0, .ref x), (1, .int v), (2, .int k), (3, .ref ou)] := hl
  generalize wA L f sz = A at hw hX ⊢
  obtain ⟨fs, hxL, hxo⟩ : ∃ fs, x ∈ L ∧ f x = eO 7 fs := by
    obtain ⟨fs, fs6, fs3, co, b1, b2, b3, b4, o3, o6, cr0, cr, r1, r2, r3, r4, h1, h2, -⟩ := hz
    exact ⟨fs, h1, h2⟩
  refine lv_aload_n hx hb dL_at_0 rfl (lv_at hl 3 rfl) ?_
  refine lv_iconst (v := nI 0) hx hb dL_at_1 (by decide) ?_
  refine lv_aload_n hx hb dL_at_2 rfl (lv_at hl 0 rfl) ?_
  refine lv_iload_n hx hb dL_at_3 rfl (lv_at hl 1 rfl) ?_
  refine lv_iload_n hx hb dL_at_4 rfl (lv_at hl 2 rfl) ?_
  refine x_callVi (As := [.int v, .int k]) (rest := [.int (nI 0), .ref ou]) cx.fix hX hw (z_X7_at l hl0 G L f _ x own hz v k) hxL hxo rfl rfl (w_cV 2 hts u_280 u_281 u_282 u_283 u_284 rfl rfl (by decide) (by decide)) hl.1 rfl (lv_room (Nat.le_of_ble_eq_true rfl)) dL_at_5 (by decide) (fun E ce q9 u H locs hpe hw hce hcv hcl => ?_) (fun r9 u H locs hp hw => ?_)
  · skip
    rcases hpe with ⟨hE, hc, hcO⟩
    subst hE
    refine vx_catch (name := nAI) hown [] ⟨0, 10, 13, 19⟩ [] (by rw [htab]; rfl) (fun z h => nomatch h) (by decide) (by decide) (hts _ u_285) (va_Nw.use rfl (hX.2.2.2.1 (.castable nAI nAI) (by decide +kernel))) hce hcv hcl ?_
    refine lv_astore (lv' := [(4, .ref q9), (0, .ref x), (1, .int v), (2, .int k), (3, .ref ou)]) hx hb dL_at_13 hl (by decide) rfl (fun ls hl => ?_)
    refine lv_iconst (v := nI 1) hx hb dL_at_15 (by decide) ?_
    refine W.widen (k := 2) (n := 12) (by decide) (by decide) ?_
    exact w_iret (lf := fun g => (L, g)) hx hb hr hlocks u hw (⟨by rw [hc]; rfl, fun h9 => absurd h9 (by decide), fun q h1 _ => hcO q h1⟩) dL_at_16
  · skip
    obtain ⟨⟨hc, e9⟩, hcO⟩ := hp
    subst e9
    have hou2 : u ou = eJ G 1 r := (hcO ou hno).trans hou
    refine lv_i2l (v := (nI 0).toInt64) hx hb dL_at_8 rfl ?_
    refine n_last hx hb hw hoL hou2 0 (by omega) (by omega) dL_at_9 (fun H locs hw => ?_)
    refine lv_goto (tgt := 17) hx hb dL_at_10 (by decide) ?_
    refine lv_iconst (v := nI 0) hx hb dL_at_17 (by decide) ?_
    refine W.widen (k := 2) (n := 12) (by decide) (by decide) ?_
    exact w_iret (lf := fun g => (L, g)) hx hb hr hlocks _ hw (⟨by rw [hc]; rfl, fun _ => va_up_eq _ _ _, fun q h1 h2 => (va_up_ne _ _ h2).trans (hcO q h1)⟩) dL_at_18
set_option maxRecDepth 100000 in
set_option maxHeartbeats 4000000 in
theorem z_L_set (l : Launch) (hl0 : l.stackTraces = false) (G : gG) (L : List Nat) (f : Nat → va_E) (sz : Nat) (x ou : Nat) (own : Nat → Prop) (r : Nat → Int64) (hz : cZ G L f x own) (hoL : ou ∈ L) (hou : f ou = eJ G 1 r) (hno : ¬ own ou) (v : Int32) (k : Int32) (z : Int32) :
    Met l yL_set (uWH yL_set cL_set 6 (some .int) [(0, 19, 22, 19), (0, 19, 26, 21)]) { frames := 9, cells := 3, slots := 18, locals := 139 } (wInX G [.ref x, .int v, .int k, .int z, .ref ou] L f sz) (va_Qi (fun (r9 : Int32) (g : Nat → va_E) => r9 = (if inB v 80 && inB k 11 then (if okV z then nI 0 else nI 2) else nI 1) ∧ (r9 = nI 0 → g ou = eJ G 1 (vp_updL r 0 (bL (if z = nI 0 then nI 0 else nI 1)))) ∧ wrO own ou f g) (fun g => wAt G (wA L f sz) L g) (wA L f sz)) 3 18 (wA L f sz) := by
  refine hEnter (by decide) (Nat.le_of_ble_eq_true rfl) ?_
  intro p e s m below meth c ls cx htab hl hw hX
  obtain ⟨hx, hb, hr, hml, hown, hts, hlocks⟩ := id cx
  have hown : s.vm.findClass RL = some m.cls := hown
  have hl : lv_has ls 6 [(0, .ref x), (1, .int v), (2, .int k), (3, .int z), (4, .ref ou)] := hl
  generalize wA L f sz = A at hw hX ⊢
  obtain ⟨fs, hxL, hxo⟩ : ∃ fs, x ∈ L ∧ f x = eO 7 fs := by
    obtain ⟨fs, fs6, fs3, co, b1, b2, b3, b4, o3, o6, cr0, cr, r1, r2, r3, r4, h1, h2, -⟩ := hz
    exact ⟨fs, h1, h2⟩
  refine lv_aload hx hb dL_set_0 (lv_at hl 4 rfl) ?_
  refine lv_iconst (v := nI 0) hx hb dL_set_2 (by decide) ?_
  refine lv_aload_n hx hb dL_set_3 rfl (lv_at hl 0 rfl) ?_
  refine lv_iload_n hx hb dL_set_4 rfl (lv_at hl 1 rfl) ?_
  refine lv_iload_n hx hb dL_set_5 rfl (lv_at hl 2 rfl) ?_
  refine lv_iload_n hx hb dL_set_6 rfl (lv_at hl 3 rfl) ?_
  refine x_callVi (As := [.int v, .int k, .int z]) (rest := [.int (nI 0), .ref ou]) cx.fix hX hw (z_X7_set l hl0 G L f _ x own hz v k z) hxL hxo rfl rfl (w_cV 3 hts u_286 u_287 u_288 u_289 u_290 rfl rfl (by decide) (by decide)) hl.1 rfl (lv_room (Nat.le_of_ble_eq_true rfl)) dL_set_7 (by decide) (fun E ce q9 u H locs hpe hw hce hcv hcl => ?_) (fun r9 u H locs hp hw => ?_)
  · skip
    obtain ⟨hpe, hcO⟩ := hpe
    rcases hpe with ⟨hE, hc⟩ | ⟨hE, hc, hc2⟩
    · skip
      subst hE
      refine vx_catch (name := nAI) hown [] ⟨0, 19, 22, 19⟩ [⟨0, 19, 26, 21⟩] (by rw [htab]; rfl) (fun z h => nomatch h) (by decide) (by decide) (hts _ u_285) (va_Nw.use rfl (hX.2.2.2.1 (.castable nAI nAI) (by decide +kernel))) hce hcv hcl ?_
      refine lv_astore (lv' := [(5, .ref q9), (0, .ref x), (1, .int v), (2, .int k), (3, .int z), (4, .ref ou)]) hx hb dL_set_22 hl (by decide) rfl (fun ls hl => ?_)
      refine lv_iconst (v := nI 1) hx hb dL_set_24 (by decide) ?_
      refine W.widen (k := 3) (n := 18) (by decide) (by decide) ?_
      exact w_iret (lf := fun g => (L, g)) hx hb hr hlocks u hw (⟨by rw [hc]; rfl, fun h9 => absurd h9 (by decide), fun q h1 _ => hcO q h1⟩) dL_set_25
    · skip
      subst hE
      refine vx_catch (name := nIA) hown [⟨0, 19, 22, 19⟩] ⟨0, 19, 26, 21⟩ [] (by rw [htab]; rfl) (List.forall_mem_cons.mpr ⟨Or.inr ⟨by decide, nAI, hts _ u_285, hX.2.2.2.2 (nIA, nAI) (by decide)⟩, fun z h => nomatch h⟩) (by decide) (by decide) (hts _ u_291) (va_Nw.use rfl (hX.2.2.2.1 (.castable nIA nIA) (by decide +kernel))) hce hcv hcl ?_
      refine lv_astore (lv' := [(5, .ref q9), (0, .ref x), (1, .int v), (2, .int k), (3, .int z), (4, .ref ou)]) hx hb dL_set_26 hl (by decide) rfl (fun ls hl => ?_)
      refine lv_iconst (v := nI 2) hx hb dL_set_28 (by decide) ?_
      refine W.widen (k := 3) (n := 18) (by decide) (by decide) ?_
      exact w_iret (lf := fun g => (L, g)) hx hb hr hlocks u hw (⟨by rw [hc, hc2]; rfl, fun h9 => absurd h9 (by decide), fun q h1 _ => hcO q h1⟩) dL_set_29
  · skip
    obtain ⟨⟨hc, e9⟩, hcO⟩ := hp
    subst e9
    have hou2 : u ou = eJ G 1 r := (hcO ou hno).trans hou
    refine lv_if_eq (tgt := 17) hx hb dL_set_10 (by decide) (fun hb9 => ?_) (fun hb9 => ?_)
    · skip
      refine lv_lconst (v := 0) hx hb dL_set_17 (by decide) ?_
      refine n_last hx hb hw hoL hou2 0 (by omega) (by omega) dL_set_18 (fun H locs hw => ?_)
      refine lv_goto (tgt := 30) hx hb dL_set_19 (by decide) ?_
      refine lv_iconst (v := nI 0) hx hb dL_set_30 (by decide) ?_
      refine W.widen (k := 3) (n := 18) (by decide) (by decide) ?_
      exact w_iret (lf := fun g => (L, g)) hx hb hr hlocks _ hw (⟨by rw [Bool.and_eq_true] at hc; rw [hc.1, hc.2]; rfl, fun _ => (va_up_eq _ _ _).trans (by rw [show bL (if z = nI 0 then nI 0 else nI 1) = 0 from if_pos (hb9)]), fun q h1 h2 => (va_up_ne _ _ h2).trans (hcO q h1)⟩) dL_set_31
    · skip
      refine lv_lconst (v := 1) hx hb dL_set_13 (by decide) ?_
      refine lv_goto (tgt := 18) hx hb dL_set_14 (by decide) ?_
      refine n_last hx hb hw hoL hou2 0 (by omega) (by omega) dL_set_18 (fun H locs hw => ?_)
      refine lv_goto (tgt := 30) hx hb dL_set_19 (by decide) ?_
      refine lv_iconst (v := nI 0) hx hb dL_set_30 (by decide) ?_
      refine W.widen (k := 3) (n := 18) (by decide) (by decide) ?_
      exact w_iret (lf := fun g => (L, g)) hx hb hr hlocks _ hw (⟨by rw [Bool.and_eq_true] at hc; rw [hc.1, hc.2]; rfl, fun _ => (va_up_eq _ _ _).trans (by rw [show bL (if z = nI 0 then nI 0 else nI 1) = 1 from if_neg (hb9)]), fun q h1 h2 => (va_up_ne _ _ h2).trans (hcO q h1)⟩) dL_set_31
set_option maxRecDepth 100000 in
set_option maxHeartbeats 4000000 in
theorem z_L_times (l : Launch) (hl0 : l.stackTraces = false) (G : gG) (L : List Nat) (f : Nat → va_E) (sz : Nat) (x ou : Nat) (own : Nat → Prop) (r : Nat → Int64) (hz : cZ G L f x own) (hoL : ou ∈ L) (hou : f ou = eJ G 1 r) (hno : ¬ own ou) (v : Int32) (k : Int32) :
    Met l yL_times (uWH yL_times cL_times 5 (some .int) [(0, 10, 13, 19), (0, 10, 17, 13), (0, 10, 21, 21)]) { frames := 9, cells := 2, slots := 12, locals := 137 } (wInX G [.ref x, .int v, .int k, .ref ou] L f sz) (va_Qi (fun (r9 : Int32) (g : Nat → va_E) => r9 = (if inB v 80 && inB k 80 then nI 0 else nI 1) ∧ (r9 = nI 0 → g ou = eJ G 1 (vp_updL r 0 ((nI 0).toInt64))) ∧ wrO own ou f g) (fun g => wAt G (wA L f sz) L g) (wA L f sz)) 2 12 (wA L f sz) := by
  refine hEnter (by decide) (Nat.le_of_ble_eq_true rfl) ?_
  intro p e s m below meth c ls cx htab hl hw hX
  obtain ⟨hx, hb, hr, hml, hown, hts, hlocks⟩ := id cx
  have hown : s.vm.findClass RL = some m.cls := hown
  have hl : lv_has ls 5 [(0, .ref x), (1, .int v), (2, .int k), (3, .ref ou)] := hl
  generalize wA L f sz = A at hw hX ⊢
  obtain ⟨fs, hxL, hxo⟩ : ∃ fs, x ∈ L ∧ f x = eO 7 fs := by
    obtain ⟨fs, fs6, fs3, co, b1, b2, b3, b4, o3, o6, cr0, cr, r1, r2, r3, r4, h1, h2, -⟩ := hz
    exact ⟨fs, h1, h2⟩
  refine lv_aload_n hx hb dL_times_0 rfl (lv_at hl 3 rfl) ?_
  refine lv_iconst (v := nI 0) hx hb dL_times_1 (by decide) ?_
  refine lv_aload_n hx hb dL_times_2 rfl (lv_at hl 0 rfl) ?_
  refine lv_iload_n hx hb dL_times_3 rfl (lv_at hl 1 rfl) ?_
  refine lv_iload_n hx hb dL_times_4 rfl (lv_at hl 2 rfl) ?_
  refine x_callVi (As := [.int v, .int k]) (rest := [.int (nI 0), .ref ou]) cx.fix hX hw (z_X7_times l hl0 G L f _ x own hz v k) hxL hxo rfl rfl (w_cV 2 hts u_292 u_293 u_294 u_295 u_296 rfl rfl (by decide) (by decide)) hl.1 rfl (lv_room (Nat.le_of_ble_eq_true rfl)) dL_times_5 (by decide) (fun E ce q9 u H locs hpe hw hce hcv hcl => ?_) (fun r9 u H locs hp hw => ?_)
  · skip
    rcases hpe with ⟨hE, hc, hcO⟩
    subst hE
    refine vx_catch (name := nAI) hown [] ⟨0, 10, 13, 19⟩ [⟨0, 10, 17, 13⟩, ⟨0, 10, 21, 21⟩] (by rw [htab]; rfl) (fun z h => nomatch h) (by decide) (by decide) (hts _ u_285) (va_Nw.use rfl (hX.2.2.2.1 (.castable nAI nAI) (by decide +kernel))) hce hcv hcl ?_
    refine lv_astore (lv' := [(4, .ref q9), (0, .ref x), (1, .int v), (2, .int k), (3, .ref ou)]) hx hb dL_times_13 hl (by decide) rfl (fun ls hl => ?_)
    refine lv_iconst (v := nI 1) hx hb dL_times_15 (by decide) ?_
    refine W.widen (k := 2) (n := 12) (by decide) (by decide) ?_
    exact w_iret (lf := fun g => (L, g)) hx hb hr hlocks u hw (⟨by rw [hc]; rfl, fun h9 => absurd h9 (by decide), fun q h1 _ => hcO q h1⟩) dL_times_16
  · skip
    obtain ⟨⟨hc, e9⟩, hcO⟩ := hp
    subst e9
    have hou2 : u ou = eJ G 1 r := (hcO ou hno).trans hou
    refine lv_i2l (v := (nI 0).toInt64) hx hb dL_times_8 rfl ?_
    refine n_last hx hb hw hoL hou2 0 (by omega) (by omega) dL_times_9 (fun H locs hw => ?_)
    refine lv_goto (tgt := 25) hx hb dL_times_10 (by decide) ?_
    refine lv_iconst (v := nI 0) hx hb dL_times_25 (by decide) ?_
    refine W.widen (k := 2) (n := 12) (by decide) (by decide) ?_
    exact w_iret (lf := fun g => (L, g)) hx hb hr hlocks _ hw (⟨by rw [hc]; rfl, fun _ => va_up_eq _ _ _, fun q h1 h2 => (va_up_ne _ _ h2).trans (hcO q h1)⟩) dL_times_26
set_option maxRecDepth 100000 in
set_option maxHeartbeats 4000000 in
theorem z_L_gcd (l : Launch) (hl0 : l.stackTraces = false) (G : gG) (L : List Nat) (f : Nat → va_E) (sz : Nat) (x ou : Nat) (own : Nat → Prop) (r : Nat → Int64) (hz : cZ G L f x own) (hoL : ou ∈ L) (hou : f ou = eJ G 1 r) (hno : ¬ own ou) (v : Int32) (k : Int32) :
    Met l yL_gcd (uWH yL_gcd cL_gcd 5 (some .int) [(0, 10, 13, 19), (0, 10, 17, 13)]) { frames := 9, cells := 2, slots := 12, locals := 137 } (wInX G [.ref x, .int v, .int k, .ref ou] L f sz) (va_Qi (fun (r9 : Int32) (g : Nat → va_E) => r9 = (if inB v 80 && inB k 80 then nI 0 else nI 1) ∧ (r9 = nI 0 → g ou = eJ G 1 (vp_updL r 0 ((nI 0).toInt64))) ∧ wrO own ou f g) (fun g => wAt G (wA L f sz) L g) (wA L f sz)) 2 12 (wA L f sz) := by
  refine hEnter (by decide) (Nat.le_of_ble_eq_true rfl) ?_
  intro p e s m below meth c ls cx htab hl hw hX
  obtain ⟨hx, hb, hr, hml, hown, hts, hlocks⟩ := id cx
  have hown : s.vm.findClass RL = some m.cls := hown
  have hl : lv_has ls 5 [(0, .ref x), (1, .int v), (2, .int k), (3, .ref ou)] := hl
  generalize wA L f sz = A at hw hX ⊢
  obtain ⟨fs, hxL, hxo⟩ : ∃ fs, x ∈ L ∧ f x = eO 7 fs := by
    obtain ⟨fs, fs6, fs3, co, b1, b2, b3, b4, o3, o6, cr0, cr, r1, r2, r3, r4, h1, h2, -⟩ := hz
    exact ⟨fs, h1, h2⟩
  refine lv_aload_n hx hb dL_gcd_0 rfl (lv_at hl 3 rfl) ?_
  refine lv_iconst (v := nI 0) hx hb dL_gcd_1 (by decide) ?_
  refine lv_aload_n hx hb dL_gcd_2 rfl (lv_at hl 0 rfl) ?_
  refine lv_iload_n hx hb dL_gcd_3 rfl (lv_at hl 1 rfl) ?_
  refine lv_iload_n hx hb dL_gcd_4 rfl (lv_at hl 2 rfl) ?_
  refine x_callVi (As := [.int v, .int k]) (rest := [.int (nI 0), .ref ou]) cx.fix hX hw (z_X7_gcd l hl0 G L f _ x own hz v k) hxL hxo rfl rfl (w_cV 2 hts u_297 u_298 u_299 u_300 u_301 rfl rfl (by decide) (by decide)) hl.1 rfl (lv_room (Nat.le_of_ble_eq_true rfl)) dL_gcd_5 (by decide) (fun E ce q9 u H locs hpe hw hce hcv hcl => ?_) (fun r9 u H locs hp hw => ?_)
  · skip
    rcases hpe with ⟨hE, hc, hcO⟩
    subst hE
    refine vx_catch (name := nAI) hown [] ⟨0, 10, 13, 19⟩ [⟨0, 10, 17, 13⟩] (by rw [htab]; rfl) (fun z h => nomatch h) (by decide) (by decide) (hts _ u_285) (va_Nw.use rfl (hX.2.2.2.1 (.castable nAI nAI) (by decide +kernel))) hce hcv hcl ?_
    refine lv_astore (lv' := [(4, .ref q9), (0, .ref x), (1, .int v), (2, .int k), (3, .ref ou)]) hx hb dL_gcd_13 hl (by decide) rfl (fun ls hl => ?_)
    refine lv_iconst (v := nI 1) hx hb dL_gcd_15 (by decide) ?_
    refine W.widen (k := 2) (n := 12) (by decide) (by decide) ?_
    exact w_iret (lf := fun g => (L, g)) hx hb hr hlocks u hw (⟨by rw [hc]; rfl, fun h9 => absurd h9 (by decide), fun q h1 _ => hcO q h1⟩) dL_gcd_16
  · skip
    obtain ⟨⟨hc, e9⟩, hcO⟩ := hp
    subst e9
    have hou2 : u ou = eJ G 1 r := (hcO ou hno).trans hou
    refine lv_i2l (v := (nI 0).toInt64) hx hb dL_gcd_8 rfl ?_
    refine n_last hx hb hw hoL hou2 0 (by omega) (by omega) dL_gcd_9 (fun H locs hw => ?_)
    refine lv_goto (tgt := 21) hx hb dL_gcd_10 (by decide) ?_
    refine lv_iconst (v := nI 0) hx hb dL_gcd_21 (by decide) ?_
    refine W.widen (k := 2) (n := 12) (by decide) (by decide) ?_
    exact w_iret (lf := fun g => (L, g)) hx hb hr hlocks _ hw (⟨by rw [hc]; rfl, fun _ => va_up_eq _ _ _, fun q h1 h2 => (va_up_ne _ _ h2).trans (hcO q h1)⟩) dL_gcd_22
set_option maxRecDepth 100000 in
set_option maxHeartbeats 4000000 in
theorem z_L_over (l : Launch) (hl0 : l.stackTraces = false) (G : gG) (L : List Nat) (f : Nat → va_E) (sz : Nat) (x ou : Nat) (own : Nat → Prop) (r : Nat → Int64) (hz : cZ G L f x own) (hoL : ou ∈ L) (hou : f ou = eJ G 1 r) (hno : ¬ own ou) (v : Int32) (k : Int32) :
    Met l yL_over (uWH yL_over cL_over 5 (some .int) [(0, 10, 13, 19), (0, 10, 17, 13), (0, 10, 21, 33)]) { frames := 9, cells := 3, slots := 18, locals := 137 } (wInX G [.ref x, .int v, .int k, .ref ou] L f sz) (va_Qi (fun (r9 : Int32) (g : Nat → va_E) => r9 = (if inB v 80 && inB k 80 then nI 3 else nI 1) ∧ (r9 = nI 0 → g ou = eJ G 1 (vp_updL r 0 (0))) ∧ wrO own ou f g) (fun g => wAt G (wA L f sz) L g) (wA L f sz)) 3 18 (wA L f sz) := by
  refine hEnter (by decide) (Nat.le_of_ble_eq_true rfl) ?_
  intro p e s m below meth c ls cx htab hl hw hX
  obtain ⟨hx, hb, hr, hml, hown, hts, hlocks⟩ := id cx
  have hown : s.vm.findClass RL = some m.cls := hown
  have hl : lv_has ls 5 [(0, .ref x), (1, .int v), (2, .int k), (3, .ref ou)] := hl
  generalize wA L f sz = A at hw hX ⊢
  obtain ⟨fs, hxL, hxo⟩ : ∃ fs, x ∈ L ∧ f x = eO 7 fs := by
    obtain ⟨fs, fs6, fs3, co, b1, b2, b3, b4, o3, o6, cr0, cr, r1, r2, r3, r4, h1, h2, -⟩ := hz
    exact ⟨fs, h1, h2⟩
  refine lv_aload_n hx hb dL_over_0 rfl (lv_at hl 3 rfl) ?_
  refine lv_iconst (v := nI 0) hx hb dL_over_1 (by decide) ?_
  refine lv_aload_n hx hb dL_over_2 rfl (lv_at hl 0 rfl) ?_
  refine lv_iload_n hx hb dL_over_3 rfl (lv_at hl 1 rfl) ?_
  refine lv_iload_n hx hb dL_over_4 rfl (lv_at hl 2 rfl) ?_
  refine x_callVi (As := [.int v, .int k]) (rest := [.int (nI 0), .ref ou]) cx.fix hX hw (z_X7_over l hl0 G L f _ x own hz v k) hxL hxo rfl rfl (w_cV 2 hts u_302 u_303 u_304 u_305 u_306 rfl rfl (by decide) (by decide)) hl.1 rfl (lv_room (Nat.le_of_ble_eq_true rfl)) dL_over_5 (by decide) (fun E ce q9 u H locs hpe hw hce hcv hcl => ?_) (fun r9 u H locs hp hw => ?_)
  · skip
    obtain ⟨hpe, hcO⟩ := hpe
    rcases hpe with ⟨hE, hc⟩ | ⟨hE, hc⟩
    · skip
      subst hE
      refine vx_catch (name := nAI) hown [] ⟨0, 10, 13, 19⟩ [⟨0, 10, 17, 13⟩, ⟨0, 10, 21, 33⟩] (by rw [htab]; rfl) (fun z h => nomatch h) (by decide) (by decide) (hts _ u_285) (va_Nw.use rfl (hX.2.2.2.1 (.castable nAI nAI) (by decide +kernel))) hce hcv hcl ?_
      refine lv_astore (lv' := [(4, .ref q9), (0, .ref x), (1, .int v), (2, .int k), (3, .ref ou)]) hx hb dL_over_13 hl (by decide) rfl (fun ls hl => ?_)
      refine lv_iconst (v := nI 1) hx hb dL_over_15 (by decide) ?_
      refine W.widen (k := 3) (n := 18) (by decide) (by decide) ?_
      exact w_iret (lf := fun g => (L, g)) hx hb hr hlocks u hw (⟨by rw [hc]; rfl, fun h9 => absurd h9 (by decide), fun q h1 _ => hcO q h1⟩) dL_over_16
    · skip
      subst hE
      refine vx_catch (name := nAR) hown [⟨0, 10, 13, 19⟩, ⟨0, 10, 17, 13⟩] ⟨0, 10, 21, 33⟩ [] (by rw [htab]; rfl) (List.forall_mem_cons.mpr ⟨Or.inr ⟨by decide, nAI, hts _ u_285, hX.2.2.2.2 (nAR, nAI) (by decide)⟩, List.forall_mem_cons.mpr ⟨Or.inr ⟨by decide, nIS, hts _ u_307, hX.2.2.2.2 (nAR, nIS) (by decide)⟩, fun z h => nomatch h⟩⟩) (by decide) (by decide) (hts _ u_308) (va_Nw.use rfl (hX.2.2.2.1 (.castable nAR nAR) (by decide +kernel))) hce hcv hcl ?_
      refine lv_astore (lv' := [(4, .ref q9), (0, .ref x), (1, .int v), (2, .int k), (3, .ref ou)]) hx hb dL_over_21 hl (by decide) rfl (fun ls hl => ?_)
      refine lv_iconst (v := nI 3) hx hb dL_over_23 (by decide) ?_
      refine W.widen (k := 3) (n := 18) (by decide) (by decide) ?_
      exact w_iret (lf := fun g => (L, g)) hx hb hr hlocks u hw (⟨by rw [hc]; rfl, fun h9 => absurd h9 (by decide), fun q h1 _ => hcO q h1⟩) dL_over_24
  · exact hp.elim
set_option maxRecDepth 100000 in
set_option maxHeartbeats 4000000 in
theorem z_L_run (l : Launch) (hl0 : l.stackTraces = false) (G : gG) (L : List Nat) (f : Nat → va_E) (sz : Nat) (x ou : Nat) (own : Nat → Prop) (r : Nat → Int64) (hz : cZ G L f x own) (hoL : ou ∈ L) (hou : f ou = eJ G 1 r) (hno : ¬ own ou) (v : Int32) :
    Met l yL_run (uWH yL_run cL_run 4 (some .int) [(0, 9, 12, 19), (0, 9, 15, 13)]) { frames := 9, cells := 1, slots := 6, locals := 138 } (wInX G [.ref x, .int v, .ref ou] L f sz) (va_Qi (fun (r9 : Int32) (g : Nat → va_E) => r9 = (if inB v 80 then nI 0 else nI 1) ∧ (r9 = nI 0 → g ou = eJ G 1 (vp_updL r 0 ((-1 : Int32).toInt64))) ∧ wrO own ou f g) (fun g => wAt G (wA L f sz) L g) (wA L f sz)) 1 6 (wA L f sz) := by
  refine hEnter (by decide) (Nat.le_of_ble_eq_true rfl) ?_
  intro p e s m below meth c ls cx htab hl hw hX
  obtain ⟨hx, hb, hr, hml, hown, hts, hlocks⟩ := id cx
  have hown : s.vm.findClass RL = some m.cls := hown
  have hl : lv_has ls 4 [(0, .ref x), (1, .int v), (2, .ref ou)] := hl
  generalize wA L f sz = A at hw hX ⊢
  obtain ⟨fs, hxL, hxo⟩ : ∃ fs, x ∈ L ∧ f x = eO 7 fs := by
    obtain ⟨fs, fs6, fs3, co, b1, b2, b3, b4, o3, o6, cr0, cr, r1, r2, r3, r4, h1, h2, -⟩ := hz
    exact ⟨fs, h1, h2⟩
  refine lv_aload_n hx hb dL_run_0 rfl (lv_at hl 2 rfl) ?_
  refine lv_iconst (v := nI 0) hx hb dL_run_1 (by decide) ?_
  refine lv_aload_n hx hb dL_run_2 rfl (lv_at hl 0 rfl) ?_
  refine lv_iload_n hx hb dL_run_3 rfl (lv_at hl 1 rfl) ?_
  refine x_callVi (As := [.int v]) (rest := [.int (nI 0), .ref ou]) cx.fix hX hw (z_X7_run l hl0 G L f _ x own hz v) hxL hxo rfl rfl (w_cV 1 hts u_309 u_310 u_311 u_312 u_313 rfl rfl (by decide) (by decide)) hl.1 rfl (lv_room (Nat.le_of_ble_eq_true rfl)) dL_run_4 (by decide) (fun E ce q9 u H locs hpe hw hce hcv hcl => ?_) (fun r9 u H locs hp hw => ?_)
  · skip
    rcases hpe with ⟨hE, hc, hcO⟩
    subst hE
    refine vx_catch (name := nAI) hown [] ⟨0, 9, 12, 19⟩ [⟨0, 9, 15, 13⟩] (by rw [htab]; rfl) (fun z h => nomatch h) (by decide) (by decide) (hts _ u_285) (va_Nw.use rfl (hX.2.2.2.1 (.castable nAI nAI) (by decide +kernel))) hce hcv hcl ?_
    refine lv_astore_n (lv' := [(3, .ref q9), (0, .ref x), (1, .int v), (2, .ref ou)]) hx hb dL_run_12 rfl hl (by decide) rfl (fun ls hl => ?_)
    refine lv_iconst (v := nI 1) hx hb dL_run_13 (by decide) ?_
    refine W.widen (k := 1) (n := 6) (by decide) (by decide) ?_
    exact w_iret (lf := fun g => (L, g)) hx hb hr hlocks u hw (⟨by rw [hc]; rfl, fun h9 => absurd h9 (by decide), fun q h1 _ => hcO q h1⟩) dL_run_14
  · skip
    obtain ⟨⟨hc, e9⟩, hcO⟩ := hp
    subst e9
    have hou2 : u ou = eJ G 1 r := (hcO ou hno).trans hou
    refine lv_i2l (v := (-1).toInt64) hx hb dL_run_7 rfl ?_
    refine n_last hx hb hw hoL hou2 0 (by omega) (by omega) dL_run_8 (fun H locs hw => ?_)
    refine lv_goto (tgt := 18) hx hb dL_run_9 (by decide) ?_
    refine lv_iconst (v := nI 0) hx hb dL_run_18 (by decide) ?_
    refine W.widen (k := 1) (n := 6) (by decide) (by decide) ?_
    exact w_iret (lf := fun g => (L, g)) hx hb hr hlocks _ hw (⟨by rw [hc]; rfl, fun _ => va_up_eq _ _ _, fun q h1 h2 => (va_up_ne _ _ h2).trans (hcO q h1)⟩) dL_run_19
set_option maxRecDepth 100000 in
set_option maxHeartbeats 4000000 in
theorem z_L_factor (l : Launch) (hl0 : l.stackTraces = false) (G : gG) (L : List Nat) (f : Nat → va_E) (sz : Nat) (x ou : Nat) (own : Nat → Prop) (r : Nat → Int64) (hz : cZ G L f x own) (hoL : ou ∈ L) (hou : f ou = eJ G 1 r) (hno : ¬ own ou) (k : Int32) :
    Met l yL_factor (uWH yL_factor cL_factor 4 (some .int) [(0, 9, 12, 19)]) { frames := 9, cells := 1, slots := 6, locals := 137 } (wInX G [.ref x, .int k, .ref ou] L f sz) (va_Qi (fun (r9 : Int32) (g : Nat → va_E) => r9 = nI 1 ∧ (r9 = nI 0 → g ou = eJ G 1 (vp_updL r 0 (0))) ∧ wrO own ou f g) (fun g => wAt G (wA L f sz) L g) (wA L f sz)) 1 6 (wA L f sz) := by
  refine hEnter (by decide) (Nat.le_of_ble_eq_true rfl) ?_
  intro p e s m below meth c ls cx htab hl hw hX
  obtain ⟨hx, hb, hr, hml, hown, hts, hlocks⟩ := id cx
  have hown : s.vm.findClass RL = some m.cls := hown
  have hl : lv_has ls 4 [(0, .ref x), (1, .int k), (2, .ref ou)] := hl
  generalize wA L f sz = A at hw hX ⊢
  obtain ⟨fs, hxL, hxo⟩ : ∃ fs, x ∈ L ∧ f x = eO 7 fs := by
    obtain ⟨fs, fs6, fs3, co, b1, b2, b3, b4, o3, o6, cr0, cr, r1, r2, r3, r4, h1, h2, -⟩ := hz
    exact ⟨fs, h1, h2⟩
  refine lv_aload_n hx hb dL_factor_0 rfl (lv_at hl 2 rfl) ?_
  refine lv_iconst (v := nI 0) hx hb dL_factor_1 (by decide) ?_
  refine lv_aload_n hx hb dL_factor_2 rfl (lv_at hl 0 rfl) ?_
  refine lv_iload_n hx hb dL_factor_3 rfl (lv_at hl 1 rfl) ?_
  refine x_callVi (As := [.int k]) (rest := [.int (nI 0), .ref ou]) cx.fix hX hw (z_X7_factor l hl0 G L f _ x own hz k) hxL hxo rfl rfl (w_cV 1 hts u_314 u_315 u_316 u_317 u_318 rfl rfl (by decide) (by decide)) hl.1 rfl (lv_room (Nat.le_of_ble_eq_true rfl)) dL_factor_4 (by decide) (fun E ce q9 u H locs hpe hw hce hcv hcl => ?_) (fun r9 u H locs hp hw => ?_)
  · skip
    rcases hpe with ⟨hE, hcO⟩
    subst hE
    refine vx_catch (name := nAI) hown [] ⟨0, 9, 12, 19⟩ [] (by rw [htab]; rfl) (fun z h => nomatch h) (by decide) (by decide) (hts _ u_285) (va_Nw.use rfl (hX.2.2.2.1 (.castable nAI nAI) (by decide +kernel))) hce hcv hcl ?_
    refine lv_astore_n (lv' := [(3, .ref q9), (0, .ref x), (1, .int k), (2, .ref ou)]) hx hb dL_factor_12 rfl hl (by decide) rfl (fun ls hl => ?_)
    refine lv_iconst (v := nI 1) hx hb dL_factor_13 (by decide) ?_
    refine W.widen (k := 1) (n := 6) (by decide) (by decide) ?_
    exact w_iret (lf := fun g => (L, g)) hx hb hr hlocks u hw (⟨by rfl, fun h9 => absurd h9 (by decide), fun q h1 _ => hcO q h1⟩) dL_factor_14
  · exact hp.elim
set_option maxRecDepth 100000 in
set_option maxHeartbeats 4000000 in
theorem z_L_multiplicity (l : Launch) (hl0 : l.stackTraces = false) (G : gG) (L : List Nat) (f : Nat → va_E) (sz : Nat) (x ou : Nat) (own : Nat → Prop) (r : Nat → Int64) (hz : cZ G L f x own) (hoL : ou ∈ L) (hou : f ou = eJ G 1 r) (hno : ¬ own ou) (k : Int32) :
    Met l yL_multiplicity (uWH yL_multiplicity cL_multiplicity 4 (some .int) [(0, 9, 12, 19)]) { frames := 9, cells := 1, slots := 6, locals := 137 } (wInX G [.ref x, .int k, .ref ou] L f sz) (va_Qi (fun (r9 : Int32) (g : Nat → va_E) => r9 = nI 1 ∧ (r9 = nI 0 → g ou = eJ G 1 (vp_updL r 0 (0))) ∧ wrO own ou f g) (fun g => wAt G (wA L f sz) L g) (wA L f sz)) 1 6 (wA L f sz) := by
  refine hEnter (by decide) (Nat.le_of_ble_eq_true rfl) ?_
  intro p e s m below meth c ls cx htab hl hw hX
  obtain ⟨hx, hb, hr, hml, hown, hts, hlocks⟩ := id cx
  have hown : s.vm.findClass RL = some m.cls := hown
  have hl : lv_has ls 4 [(0, .ref x), (1, .int k), (2, .ref ou)] := hl
  generalize wA L f sz = A at hw hX ⊢
  obtain ⟨fs, hxL, hxo⟩ : ∃ fs, x ∈ L ∧ f x = eO 7 fs := by
    obtain ⟨fs, fs6, fs3, co, b1, b2, b3, b4, o3, o6, cr0, cr, r1, r2, r3, r4, h1, h2, -⟩ := hz
    exact ⟨fs, h1, h2⟩
  refine lv_aload_n hx hb dL_multiplicity_0 rfl (lv_at hl 2 rfl) ?_
  refine lv_iconst (v := nI 0) hx hb dL_multiplicity_1 (by decide) ?_
  refine lv_aload_n hx hb dL_multiplicity_2 rfl (lv_at hl 0 rfl) ?_
  refine lv_iload_n hx hb dL_multiplicity_3 rfl (lv_at hl 1 rfl) ?_
  refine x_callVi (As := [.int k]) (rest := [.int (nI 0), .ref ou]) cx.fix hX hw (z_X7_multiplicity l hl0 G L f _ x own hz k) hxL hxo rfl rfl (w_cV 1 hts u_319 u_320 u_321 u_322 u_323 rfl rfl (by decide) (by decide)) hl.1 rfl (lv_room (Nat.le_of_ble_eq_true rfl)) dL_multiplicity_4 (by decide) (fun E ce q9 u H locs hpe hw hce hcv hcl => ?_) (fun r9 u H locs hp hw => ?_)
  · skip
    rcases hpe with ⟨hE, hcO⟩
    subst hE
    refine vx_catch (name := nAI) hown [] ⟨0, 9, 12, 19⟩ [] (by rw [htab]; rfl) (fun z h => nomatch h) (by decide) (by decide) (hts _ u_285) (va_Nw.use rfl (hX.2.2.2.1 (.castable nAI nAI) (by decide +kernel))) hce hcv hcl ?_
    refine lv_astore_n (lv' := [(3, .ref q9), (0, .ref x), (1, .int k), (2, .ref ou)]) hx hb dL_multiplicity_12 rfl hl (by decide) rfl (fun ls hl => ?_)
    refine lv_iconst (v := nI 1) hx hb dL_multiplicity_13 (by decide) ?_
    refine W.widen (k := 1) (n := 6) (by decide) (by decide) ?_
    exact w_iret (lf := fun g => (L, g)) hx hb hr hlocks u hw (⟨by rfl, fun h9 => absurd h9 (by decide), fun q h1 _ => hcO q h1⟩) dL_multiplicity_14
  · exact hp.elim
set_option maxRecDepth 100000 in
set_option maxHeartbeats 4000000 in
theorem z_L_content (l : Launch) (hl0 : l.stackTraces = false) (G : gG) (L : List Nat) (f : Nat → va_E) (sz : Nat) (x ou : Nat) (own : Nat → Prop) (r : Nat → Int64) (hz : cZ G L f x own) (hoL : ou ∈ L) (hou : f ou = eJ G 1 r) (hno : ¬ own ou) (v : Int32) :
    Met l yL_content (uWH yL_content cL_content 4 (some .int) [(0, 9, 12, 19)]) { frames := 9, cells := 1, slots := 6, locals := 136 } (wInX G [.ref x, .int v, .ref ou] L f sz) (va_Qi (fun (r9 : Int32) (g : Nat → va_E) => r9 = (if inB v 80 then nI 0 else nI 1) ∧ (r9 = nI 0 → g ou = eJ G 1 (vp_updL r 0 ((nI 0).toInt64))) ∧ wrO own ou f g) (fun g => wAt G (wA L f sz) L g) (wA L f sz)) 1 6 (wA L f sz) := by
  refine hEnter (by decide) (Nat.le_of_ble_eq_true rfl) ?_
  intro p e s m below meth c ls cx htab hl hw hX
  obtain ⟨hx, hb, hr, hml, hown, hts, hlocks⟩ := id cx
  have hown : s.vm.findClass RL = some m.cls := hown
  have hl : lv_has ls 4 [(0, .ref x), (1, .int v), (2, .ref ou)] := hl
  generalize wA L f sz = A at hw hX ⊢
  obtain ⟨fs, hxL, hxo⟩ : ∃ fs, x ∈ L ∧ f x = eO 7 fs := by
    obtain ⟨fs, fs6, fs3, co, b1, b2, b3, b4, o3, o6, cr0, cr, r1, r2, r3, r4, h1, h2, -⟩ := hz
    exact ⟨fs, h1, h2⟩
  refine lv_aload_n hx hb dL_content_0 rfl (lv_at hl 2 rfl) ?_
  refine lv_iconst (v := nI 0) hx hb dL_content_1 (by decide) ?_
  refine lv_aload_n hx hb dL_content_2 rfl (lv_at hl 0 rfl) ?_
  refine lv_iload_n hx hb dL_content_3 rfl (lv_at hl 1 rfl) ?_
  refine x_callVi (As := [.int v]) (rest := [.int (nI 0), .ref ou]) cx.fix hX hw (z_X7_content l hl0 G L f _ x own hz v) hxL hxo rfl rfl (w_cV 1 hts u_324 u_325 u_326 u_327 u_328 rfl rfl (by decide) (by decide)) hl.1 rfl (lv_room (Nat.le_of_ble_eq_true rfl)) dL_content_4 (by decide) (fun E ce q9 u H locs hpe hw hce hcv hcl => ?_) (fun r9 u H locs hp hw => ?_)
  · skip
    rcases hpe with ⟨hE, hc, hcO⟩
    subst hE
    refine vx_catch (name := nAI) hown [] ⟨0, 9, 12, 19⟩ [] (by rw [htab]; rfl) (fun z h => nomatch h) (by decide) (by decide) (hts _ u_285) (va_Nw.use rfl (hX.2.2.2.1 (.castable nAI nAI) (by decide +kernel))) hce hcv hcl ?_
    refine lv_astore_n (lv' := [(3, .ref q9), (0, .ref x), (1, .int v), (2, .ref ou)]) hx hb dL_content_12 rfl hl (by decide) rfl (fun ls hl => ?_)
    refine lv_iconst (v := nI 1) hx hb dL_content_13 (by decide) ?_
    refine W.widen (k := 1) (n := 6) (by decide) (by decide) ?_
    exact w_iret (lf := fun g => (L, g)) hx hb hr hlocks u hw (⟨by rw [hc]; rfl, fun h9 => absurd h9 (by decide), fun q h1 _ => hcO q h1⟩) dL_content_14
  · skip
    obtain ⟨⟨hc, e9⟩, hcO⟩ := hp
    subst e9
    have hou2 : u ou = eJ G 1 r := (hcO ou hno).trans hou
    refine lv_i2l (v := (nI 0).toInt64) hx hb dL_content_7 rfl ?_
    refine n_last hx hb hw hoL hou2 0 (by omega) (by omega) dL_content_8 (fun H locs hw => ?_)
    refine lv_goto (tgt := 15) hx hb dL_content_9 (by decide) ?_
    refine lv_iconst (v := nI 0) hx hb dL_content_15 (by decide) ?_
    refine W.widen (k := 1) (n := 6) (by decide) (by decide) ?_
    exact w_iret (lf := fun g => (L, g)) hx hb hr hlocks _ hw (⟨by rw [hc]; rfl, fun _ => va_up_eq _ _ _, fun q h1 h2 => (va_up_ne _ _ h2).trans (hcO q h1)⟩) dL_content_16
set_option maxRecDepth 100000 in
set_option maxHeartbeats 4000000 in
theorem z_L_root (l : Launch) (hl0 : l.stackTraces = false) (G : gG) (L : List Nat) (f : Nat → va_E) (sz : Nat) (x ou : Nat) (own : Nat → Prop) (r : Nat → Int64) (hz : cZ G L f x own) (hoL : ou ∈ L) (hou : f ou = eJ G 1 r) (hno : ¬ own ou) (v : Int32) (k : Int32) (q : Int32) :
    Met l yL_root (uWH yL_root cL_root 6 (some .int) [(0, 12, 15, 19), (0, 12, 19, 21)]) { frames := 9, cells := 2, slots := 12, locals := 138 } (wInX G [.ref x, .int v, .int k, .int q, .ref ou] L f sz) (va_Qi (fun (r9 : Int32) (g : Nat → va_E) => r9 = (if inB v 80 then nI 2 else nI 1) ∧ (r9 = nI 0 → g ou = eJ G 1 (vp_updL r 0 (0))) ∧ wrO own ou f g) (fun g => wAt G (wA L f sz) L g) (wA L f sz)) 2 12 (wA L f sz) := by
  refine hEnter (by decide) (Nat.le_of_ble_eq_true rfl) ?_
  intro p e s m below meth c ls cx htab hl hw hX
  obtain ⟨hx, hb, hr, hml, hown, hts, hlocks⟩ := id cx
  have hown : s.vm.findClass RL = some m.cls := hown
  have hl : lv_has ls 6 [(0, .ref x), (1, .int v), (2, .int k), (3, .int q), (4, .ref ou)] := hl
  generalize wA L f sz = A at hw hX ⊢
  obtain ⟨fs, hxL, hxo⟩ : ∃ fs, x ∈ L ∧ f x = eO 7 fs := by
    obtain ⟨fs, fs6, fs3, co, b1, b2, b3, b4, o3, o6, cr0, cr, r1, r2, r3, r4, h1, h2, -⟩ := hz
    exact ⟨fs, h1, h2⟩
  refine lv_aload hx hb dL_root_0 (lv_at hl 4 rfl) ?_
  refine lv_iconst (v := nI 0) hx hb dL_root_2 (by decide) ?_
  refine lv_aload_n hx hb dL_root_3 rfl (lv_at hl 0 rfl) ?_
  refine lv_iload_n hx hb dL_root_4 rfl (lv_at hl 1 rfl) ?_
  refine lv_iload_n hx hb dL_root_5 rfl (lv_at hl 2 rfl) ?_
  refine lv_iload_n hx hb dL_root_6 rfl (lv_at hl 3 rfl) ?_
  refine x_callVi (As := [.int v, .int k, .int q]) (rest := [.int (nI 0), .ref ou]) cx.fix hX hw (z_X7_root l hl0 G L f _ x own hz v k q) hxL hxo rfl rfl (w_cV 3 hts u_329 u_330 u_331 u_332 u_333 rfl rfl (by decide) (by decide)) hl.1 rfl (lv_room (Nat.le_of_ble_eq_true rfl)) dL_root_7 (by decide) (fun E ce q9 u H locs hpe hw hce hcv hcl => ?_) (fun r9 u H locs hp hw => ?_)
  · skip
    obtain ⟨hpe, hcO⟩ := hpe
    rcases hpe with ⟨hE, hc⟩ | ⟨hE, hc⟩
    · skip
      subst hE
      refine vx_catch (name := nAI) hown [] ⟨0, 12, 15, 19⟩ [⟨0, 12, 19, 21⟩] (by rw [htab]; rfl) (fun z h => nomatch h) (by decide) (by decide) (hts _ u_285) (va_Nw.use rfl (hX.2.2.2.1 (.castable nAI nAI) (by decide +kernel))) hce hcv hcl ?_
      refine lv_astore (lv' := [(5, .ref q9), (0, .ref x), (1, .int v), (2, .int k), (3, .int q), (4, .ref ou)]) hx hb dL_root_15 hl (by decide) rfl (fun ls hl => ?_)
      refine lv_iconst (v := nI 1) hx hb dL_root_17 (by decide) ?_
      refine W.widen (k := 2) (n := 12) (by decide) (by decide) ?_
      exact w_iret (lf := fun g => (L, g)) hx hb hr hlocks u hw (⟨by rw [hc]; rfl, fun h9 => absurd h9 (by decide), fun q h1 _ => hcO q h1⟩) dL_root_18
    · skip
      subst hE
      refine vx_catch (name := nIA) hown [⟨0, 12, 15, 19⟩] ⟨0, 12, 19, 21⟩ [] (by rw [htab]; rfl) (List.forall_mem_cons.mpr ⟨Or.inr ⟨by decide, nAI, hts _ u_285, hX.2.2.2.2 (nIA, nAI) (by decide)⟩, fun z h => nomatch h⟩) (by decide) (by decide) (hts _ u_291) (va_Nw.use rfl (hX.2.2.2.1 (.castable nIA nIA) (by decide +kernel))) hce hcv hcl ?_
      refine lv_astore (lv' := [(5, .ref q9), (0, .ref x), (1, .int v), (2, .int k), (3, .int q), (4, .ref ou)]) hx hb dL_root_19 hl (by decide) rfl (fun ls hl => ?_)
      refine lv_iconst (v := nI 2) hx hb dL_root_21 (by decide) ?_
      refine W.widen (k := 2) (n := 12) (by decide) (by decide) ?_
      exact w_iret (lf := fun g => (L, g)) hx hb hr hlocks u hw (⟨by rw [hc]; rfl, fun h9 => absurd h9 (by decide), fun q h1 _ => hcO q h1⟩) dL_root_22
  · exact hp.elim
set_option maxRecDepth 100000 in
set_option maxHeartbeats 4000000 in
theorem z_L_roots (l : Launch) (hl0 : l.stackTraces = false) (G : gG) (L : List Nat) (f : Nat → va_E) (sz : Nat) (x ou : Nat) (own : Nat → Prop) (r : Nat → Int64) (hz : cZ G L f x own) (hoL : ou ∈ L) (hou : f ou = eJ G 1 r) (hno : ¬ own ou) (v : Int32) :
    Met l yL_roots (uWH yL_roots cL_roots 4 (some .int) [(0, 9, 12, 19)]) { frames := 9, cells := 1, slots := 6, locals := 136 } (wInX G [.ref x, .int v, .ref ou] L f sz) (va_Qi (fun (r9 : Int32) (g : Nat → va_E) => r9 = (if inB v 80 then nI 0 else nI 1) ∧ (r9 = nI 0 → g ou = eJ G 1 (vp_updL r 0 ((-1 : Int32).toInt64))) ∧ wrO own ou f g) (fun g => wAt G (wA L f sz) L g) (wA L f sz)) 1 6 (wA L f sz) := by
  refine hEnter (by decide) (Nat.le_of_ble_eq_true rfl) ?_
  intro p e s m below meth c ls cx htab hl hw hX
  obtain ⟨hx, hb, hr, hml, hown, hts, hlocks⟩ := id cx
  have hown : s.vm.findClass RL = some m.cls := hown
  have hl : lv_has ls 4 [(0, .ref x), (1, .int v), (2, .ref ou)] := hl
  generalize wA L f sz = A at hw hX ⊢
  obtain ⟨fs, hxL, hxo⟩ : ∃ fs, x ∈ L ∧ f x = eO 7 fs := by
    obtain ⟨fs, fs6, fs3, co, b1, b2, b3, b4, o3, o6, cr0, cr, r1, r2, r3, r4, h1, h2, -⟩ := hz
    exact ⟨fs, h1, h2⟩
  refine lv_aload_n hx hb dL_roots_0 rfl (lv_at hl 2 rfl) ?_
  refine lv_iconst (v := nI 0) hx hb dL_roots_1 (by decide) ?_
  refine lv_aload_n hx hb dL_roots_2 rfl (lv_at hl 0 rfl) ?_
  refine lv_iload_n hx hb dL_roots_3 rfl (lv_at hl 1 rfl) ?_
  refine x_callVi (As := [.int v]) (rest := [.int (nI 0), .ref ou]) cx.fix hX hw (z_X7_roots l hl0 G L f _ x own hz v) hxL hxo rfl rfl (w_cV 1 hts u_334 u_335 u_336 u_337 u_338 rfl rfl (by decide) (by decide)) hl.1 rfl (lv_room (Nat.le_of_ble_eq_true rfl)) dL_roots_4 (by decide) (fun E ce q9 u H locs hpe hw hce hcv hcl => ?_) (fun r9 u H locs hp hw => ?_)
  · skip
    rcases hpe with ⟨hE, hc, hcO⟩
    subst hE
    refine vx_catch (name := nAI) hown [] ⟨0, 9, 12, 19⟩ [] (by rw [htab]; rfl) (fun z h => nomatch h) (by decide) (by decide) (hts _ u_285) (va_Nw.use rfl (hX.2.2.2.1 (.castable nAI nAI) (by decide +kernel))) hce hcv hcl ?_
    refine lv_astore_n (lv' := [(3, .ref q9), (0, .ref x), (1, .int v), (2, .ref ou)]) hx hb dL_roots_12 rfl hl (by decide) rfl (fun ls hl => ?_)
    refine lv_iconst (v := nI 1) hx hb dL_roots_13 (by decide) ?_
    refine W.widen (k := 1) (n := 6) (by decide) (by decide) ?_
    exact w_iret (lf := fun g => (L, g)) hx hb hr hlocks u hw (⟨by rw [hc]; rfl, fun h9 => absurd h9 (by decide), fun q h1 _ => hcO q h1⟩) dL_roots_14
  · skip
    obtain ⟨⟨hc, e9⟩, hcO⟩ := hp
    subst e9
    have hou2 : u ou = eJ G 1 r := (hcO ou hno).trans hou
    refine lv_i2l (v := (-1).toInt64) hx hb dL_roots_7 rfl ?_
    refine n_last hx hb hw hoL hou2 0 (by omega) (by omega) dL_roots_8 (fun H locs hw => ?_)
    refine lv_goto (tgt := 15) hx hb dL_roots_9 (by decide) ?_
    refine lv_iconst (v := nI 0) hx hb dL_roots_15 (by decide) ?_
    refine W.widen (k := 1) (n := 6) (by decide) (by decide) ?_
    exact w_iret (lf := fun g => (L, g)) hx hb hr hlocks _ hw (⟨by rw [hc]; rfl, fun _ => va_up_eq _ _ _, fun q h1 h2 => (va_up_ne _ _ h2).trans (hcO q h1)⟩) dL_roots_16
set_option maxRecDepth 100000 in
set_option maxHeartbeats 4000000 in
theorem z_L_parts (l : Launch) (hl0 : l.stackTraces = false) (G : gG) (L : List Nat) (f : Nat → va_E) (sz : Nat) (x ou : Nat) (own : Nat → Prop) (r : Nat → Int64) (hz : cZ G L f x own) (hoL : ou ∈ L) (hou : f ou = eJ G 1 r) (hno : ¬ own ou) (v : Int32) (z : Int32) :
    Met l yL_parts (uWH yL_parts cL_parts 5 (some .int) [(0, 10, 13, 19), (0, 10, 17, 21)]) { frames := 9, cells := 2, slots := 12, locals := 138 } (wInX G [.ref x, .int v, .int z, .ref ou] L f sz) (va_Qi (fun (r9 : Int32) (g : Nat → va_E) => r9 = (if inB v 80 then (if spB z then nI 0 else nI 2) else nI 1) ∧ (r9 = nI 0 → g ou = eJ G 1 (vp_updL r 0 ((-1 : Int32).toInt64))) ∧ wrO own ou f g) (fun g => wAt G (wA L f sz) L g) (wA L f sz)) 2 12 (wA L f sz) := by
  refine hEnter (by decide) (Nat.le_of_ble_eq_true rfl) ?_
  intro p e s m below meth c ls cx htab hl hw hX
  obtain ⟨hx, hb, hr, hml, hown, hts, hlocks⟩ := id cx
  have hown : s.vm.findClass RL = some m.cls := hown
  have hl : lv_has ls 5 [(0, .ref x), (1, .int v), (2, .int z), (3, .ref ou)] := hl
  generalize wA L f sz = A at hw hX ⊢
  obtain ⟨fs, hxL, hxo⟩ : ∃ fs, x ∈ L ∧ f x = eO 7 fs := by
    obtain ⟨fs, fs6, fs3, co, b1, b2, b3, b4, o3, o6, cr0, cr, r1, r2, r3, r4, h1, h2, -⟩ := hz
    exact ⟨fs, h1, h2⟩
  refine lv_aload_n hx hb dL_parts_0 rfl (lv_at hl 3 rfl) ?_
  refine lv_iconst (v := nI 0) hx hb dL_parts_1 (by decide) ?_
  refine lv_aload_n hx hb dL_parts_2 rfl (lv_at hl 0 rfl) ?_
  refine lv_iload_n hx hb dL_parts_3 rfl (lv_at hl 1 rfl) ?_
  refine lv_iload_n hx hb dL_parts_4 rfl (lv_at hl 2 rfl) ?_
  refine x_callVi (As := [.int v, .int z]) (rest := [.int (nI 0), .ref ou]) cx.fix hX hw (z_X7_parts l hl0 G L f _ x own hz v z) hxL hxo rfl rfl (w_cV 2 hts u_339 u_340 u_341 u_342 u_343 rfl rfl (by decide) (by decide)) hl.1 rfl (lv_room (Nat.le_of_ble_eq_true rfl)) dL_parts_5 (by decide) (fun E ce q9 u H locs hpe hw hce hcv hcl => ?_) (fun r9 u H locs hp hw => ?_)
  · skip
    obtain ⟨hpe, hcO⟩ := hpe
    rcases hpe with ⟨hE, hc⟩ | ⟨hE, hc, hc2⟩
    · skip
      subst hE
      refine vx_catch (name := nAI) hown [] ⟨0, 10, 13, 19⟩ [⟨0, 10, 17, 21⟩] (by rw [htab]; rfl) (fun z h => nomatch h) (by decide) (by decide) (hts _ u_285) (va_Nw.use rfl (hX.2.2.2.1 (.castable nAI nAI) (by decide +kernel))) hce hcv hcl ?_
      refine lv_astore (lv' := [(4, .ref q9), (0, .ref x), (1, .int v), (2, .int z), (3, .ref ou)]) hx hb dL_parts_13 hl (by decide) rfl (fun ls hl => ?_)
      refine lv_iconst (v := nI 1) hx hb dL_parts_15 (by decide) ?_
      refine W.widen (k := 2) (n := 12) (by decide) (by decide) ?_
      exact w_iret (lf := fun g => (L, g)) hx hb hr hlocks u hw (⟨by rw [hc]; rfl, fun h9 => absurd h9 (by decide), fun q h1 _ => hcO q h1⟩) dL_parts_16
    · skip
      subst hE
      refine vx_catch (name := nIA) hown [⟨0, 10, 13, 19⟩] ⟨0, 10, 17, 21⟩ [] (by rw [htab]; rfl) (List.forall_mem_cons.mpr ⟨Or.inr ⟨by decide, nAI, hts _ u_285, hX.2.2.2.2 (nIA, nAI) (by decide)⟩, fun z h => nomatch h⟩) (by decide) (by decide) (hts _ u_291) (va_Nw.use rfl (hX.2.2.2.1 (.castable nIA nIA) (by decide +kernel))) hce hcv hcl ?_
      refine lv_astore (lv' := [(4, .ref q9), (0, .ref x), (1, .int v), (2, .int z), (3, .ref ou)]) hx hb dL_parts_17 hl (by decide) rfl (fun ls hl => ?_)
      refine lv_iconst (v := nI 2) hx hb dL_parts_19 (by decide) ?_
      refine W.widen (k := 2) (n := 12) (by decide) (by decide) ?_
      exact w_iret (lf := fun g => (L, g)) hx hb hr hlocks u hw (⟨by rw [hc, hc2]; rfl, fun h9 => absurd h9 (by decide), fun q h1 _ => hcO q h1⟩) dL_parts_20
  · skip
    obtain ⟨⟨hc, e9⟩, hcO⟩ := hp
    subst e9
    have hou2 : u ou = eJ G 1 r := (hcO ou hno).trans hou
    refine lv_i2l (v := (-1).toInt64) hx hb dL_parts_8 rfl ?_
    refine n_last hx hb hw hoL hou2 0 (by omega) (by omega) dL_parts_9 (fun H locs hw => ?_)
    refine lv_goto (tgt := 21) hx hb dL_parts_10 (by decide) ?_
    refine lv_iconst (v := nI 0) hx hb dL_parts_21 (by decide) ?_
    refine W.widen (k := 2) (n := 12) (by decide) (by decide) ?_
    exact w_iret (lf := fun g => (L, g)) hx hb hr hlocks _ hw (⟨by rw [Bool.and_eq_true] at hc; rw [hc.1, hc.2]; rfl, fun _ => va_up_eq _ _ _, fun q h1 h2 => (va_up_ne _ _ h2).trans (hcO q h1)⟩) dL_parts_22
set_option maxRecDepth 100000 in
set_option maxHeartbeats 4000000 in
theorem z_L_squareFree (l : Launch) (hl0 : l.stackTraces = false) (G : gG) (L : List Nat) (f : Nat → va_E) (sz : Nat) (x ou : Nat) (own : Nat → Prop) (r : Nat → Int64) (hz : cZ G L f x own) (hoL : ou ∈ L) (hou : f ou = eJ G 1 r) (hno : ¬ own ou) (v : Int32) :
    Met l yL_squareFree (uWH yL_squareFree cL_squareFree 4 (some .int) [(0, 16, 19, 19)]) { frames := 9, cells := 1, slots := 6, locals := 136 } (wInX G [.ref x, .int v, .ref ou] L f sz) (va_Qi (fun (r9 : Int32) (g : Nat → va_E) => r9 = (if inB v 80 then nI 0 else nI 1) ∧ (r9 = nI 0 → g ou = eJ G 1 (vp_updL r 0 (bL (nI 0)))) ∧ wrO own ou f g) (fun g => wAt G (wA L f sz) L g) (wA L f sz)) 1 6 (wA L f sz) := by
  refine hEnter (by decide) (Nat.le_of_ble_eq_true rfl) ?_
  intro p e s m below meth c ls cx htab hl hw hX
  obtain ⟨hx, hb, hr, hml, hown, hts, hlocks⟩ := id cx
  have hown : s.vm.findClass RL = some m.cls := hown
  have hl : lv_has ls 4 [(0, .ref x), (1, .int v), (2, .ref ou)] := hl
  generalize wA L f sz = A at hw hX ⊢
  obtain ⟨fs, hxL, hxo⟩ : ∃ fs, x ∈ L ∧ f x = eO 7 fs := by
    obtain ⟨fs, fs6, fs3, co, b1, b2, b3, b4, o3, o6, cr0, cr, r1, r2, r3, r4, h1, h2, -⟩ := hz
    exact ⟨fs, h1, h2⟩
  refine lv_aload_n hx hb dL_squareFree_0 rfl (lv_at hl 2 rfl) ?_
  refine lv_iconst (v := nI 0) hx hb dL_squareFree_1 (by decide) ?_
  refine lv_aload_n hx hb dL_squareFree_2 rfl (lv_at hl 0 rfl) ?_
  refine lv_iload_n hx hb dL_squareFree_3 rfl (lv_at hl 1 rfl) ?_
  refine x_callVi (As := [.int v]) (rest := [.int (nI 0), .ref ou]) cx.fix hX hw (z_X7_squareFree l hl0 G L f _ x own hz v) hxL hxo rfl rfl (w_cV 1 hts u_344 u_345 u_346 u_347 u_348 rfl rfl (by decide) (by decide)) hl.1 rfl (lv_room (Nat.le_of_ble_eq_true rfl)) dL_squareFree_4 (by decide) (fun E ce q9 u H locs hpe hw hce hcv hcl => ?_) (fun r9 u H locs hp hw => ?_)
  · skip
    rcases hpe with ⟨hE, hc, hcO⟩
    subst hE
    refine vx_catch (name := nAI) hown [] ⟨0, 16, 19, 19⟩ [] (by rw [htab]; rfl) (fun z h => nomatch h) (by decide) (by decide) (hts _ u_285) (va_Nw.use rfl (hX.2.2.2.1 (.castable nAI nAI) (by decide +kernel))) hce hcv hcl ?_
    refine lv_astore_n (lv' := [(3, .ref q9), (0, .ref x), (1, .int v), (2, .ref ou)]) hx hb dL_squareFree_19 rfl hl (by decide) rfl (fun ls hl => ?_)
    refine lv_iconst (v := nI 1) hx hb dL_squareFree_20 (by decide) ?_
    refine W.widen (k := 1) (n := 6) (by decide) (by decide) ?_
    exact w_iret (lf := fun g => (L, g)) hx hb hr hlocks u hw (⟨by rw [hc]; rfl, fun h9 => absurd h9 (by decide), fun q h1 _ => hcO q h1⟩) dL_squareFree_21
  · skip
    obtain ⟨⟨hc, e9⟩, hcO⟩ := hp
    subst e9
    have hou2 : u ou = eJ G 1 r := (hcO ou hno).trans hou
    refine lv_if_eq (tgt := 14) hx hb dL_squareFree_7 (by decide) (fun hb9 => ?_) (fun hb9 => ?_)
    · skip
      refine lv_lconst (v := 0) hx hb dL_squareFree_14 (by decide) ?_
      refine n_last hx hb hw hoL hou2 0 (by omega) (by omega) dL_squareFree_15 (fun H locs hw => ?_)
      refine lv_goto (tgt := 22) hx hb dL_squareFree_16 (by decide) ?_
      refine lv_iconst (v := nI 0) hx hb dL_squareFree_22 (by decide) ?_
      refine W.widen (k := 1) (n := 6) (by decide) (by decide) ?_
      exact w_iret (lf := fun g => (L, g)) hx hb hr hlocks _ hw (⟨by rw [hc]; rfl, fun _ => (va_up_eq _ _ _).trans (by rw [show bL (nI 0) = 0 from if_pos (hb9)]), fun q h1 h2 => (va_up_ne _ _ h2).trans (hcO q h1)⟩) dL_squareFree_23
    · skip
      refine lv_lconst (v := 1) hx hb dL_squareFree_10 (by decide) ?_
      refine lv_goto (tgt := 15) hx hb dL_squareFree_11 (by decide) ?_
      refine n_last hx hb hw hoL hou2 0 (by omega) (by omega) dL_squareFree_15 (fun H locs hw => ?_)
      refine lv_goto (tgt := 22) hx hb dL_squareFree_16 (by decide) ?_
      refine lv_iconst (v := nI 0) hx hb dL_squareFree_22 (by decide) ?_
      refine W.widen (k := 1) (n := 6) (by decide) (by decide) ?_
      exact w_iret (lf := fun g => (L, g)) hx hb hr hlocks _ hw (⟨by rw [hc]; rfl, fun _ => (va_up_eq _ _ _).trans (by rw [show bL (nI 0) = 1 from if_neg (hb9)]), fun q h1 h2 => (va_up_ne _ _ h2).trans (hcO q h1)⟩) dL_squareFree_23
set_option maxRecDepth 100000 in
set_option maxHeartbeats 4000000 in
theorem z_L_value (l : Launch) (hl0 : l.stackTraces = false) (G : gG) (L : List Nat) (f : Nat → va_E) (sz : Nat) (x ou : Nat) (own : Nat → Prop) (r : Nat → Int64) (hz : cZ G L f x own) (hoL : ou ∈ L) (hou : f ou = eJ G 1 r) (hno : ¬ own ou) (v : Int32) (z : Int32) (q : Int32) :
    Met l yL_value (uWH yL_value cL_value 6 (some .int) [(0, 12, 15, 19), (0, 12, 19, 21)]) { frames := 9, cells := 2, slots := 12, locals := 143 } (wInX G [.ref x, .int v, .int z, .int q, .ref ou] L f sz) (va_Qi (fun (r9 : Int32) (g : Nat → va_E) => r9 = (if inB v 80 then (if okM q then nI 0 else nI 2) else nI 1) ∧ (r9 = nI 0 → g ou = eJ G 1 (vp_updL r 0 ((nI 0).toInt64))) ∧ wrO own ou f g) (fun g => wAt G (wA L f sz) L g) (wA L f sz)) 2 12 (wA L f sz) := by
  refine hEnter (by decide) (Nat.le_of_ble_eq_true rfl) ?_
  intro p e s m below meth c ls cx htab hl hw hX
  obtain ⟨hx, hb, hr, hml, hown, hts, hlocks⟩ := id cx
  have hown : s.vm.findClass RL = some m.cls := hown
  have hl : lv_has ls 6 [(0, .ref x), (1, .int v), (2, .int z), (3, .int q), (4, .ref ou)] := hl
  generalize wA L f sz = A at hw hX ⊢
  obtain ⟨fs, hxL, hxo⟩ : ∃ fs, x ∈ L ∧ f x = eO 7 fs := by
    obtain ⟨fs, fs6, fs3, co, b1, b2, b3, b4, o3, o6, cr0, cr, r1, r2, r3, r4, h1, h2, -⟩ := hz
    exact ⟨fs, h1, h2⟩
  refine lv_aload hx hb dL_value_0 (lv_at hl 4 rfl) ?_
  refine lv_iconst (v := nI 0) hx hb dL_value_2 (by decide) ?_
  refine lv_aload_n hx hb dL_value_3 rfl (lv_at hl 0 rfl) ?_
  refine lv_iload_n hx hb dL_value_4 rfl (lv_at hl 1 rfl) ?_
  refine lv_iload_n hx hb dL_value_5 rfl (lv_at hl 2 rfl) ?_
  refine lv_iload_n hx hb dL_value_6 rfl (lv_at hl 3 rfl) ?_
  refine x_callVi (As := [.int v, .int z, .int q]) (rest := [.int (nI 0), .ref ou]) cx.fix hX hw (z_X7_value l hl0 G L f _ x own hz v z q) hxL hxo rfl rfl (w_cV 3 hts u_349 u_350 u_351 u_352 u_353 rfl rfl (by decide) (by decide)) hl.1 rfl (lv_room (Nat.le_of_ble_eq_true rfl)) dL_value_7 (by decide) (fun E ce q9 u H locs hpe hw hce hcv hcl => ?_) (fun r9 u H locs hp hw => ?_)
  · skip
    obtain ⟨hpe, hcO⟩ := hpe
    rcases hpe with ⟨hE, hc⟩ | ⟨hE, hc, hc2⟩
    · skip
      subst hE
      refine vx_catch (name := nAI) hown [] ⟨0, 12, 15, 19⟩ [⟨0, 12, 19, 21⟩] (by rw [htab]; rfl) (fun z h => nomatch h) (by decide) (by decide) (hts _ u_285) (va_Nw.use rfl (hX.2.2.2.1 (.castable nAI nAI) (by decide +kernel))) hce hcv hcl ?_
      refine lv_astore (lv' := [(5, .ref q9), (0, .ref x), (1, .int v), (2, .int z), (3, .int q), (4, .ref ou)]) hx hb dL_value_15 hl (by decide) rfl (fun ls hl => ?_)
      refine lv_iconst (v := nI 1) hx hb dL_value_17 (by decide) ?_
      refine W.widen (k := 2) (n := 12) (by decide) (by decide) ?_
      exact w_iret (lf := fun g => (L, g)) hx hb hr hlocks u hw (⟨by rw [hc]; rfl, fun h9 => absurd h9 (by decide), fun q h1 _ => hcO q h1⟩) dL_value_18
    · skip
      subst hE
      refine vx_catch (name := nIA) hown [⟨0, 12, 15, 19⟩] ⟨0, 12, 19, 21⟩ [] (by rw [htab]; rfl) (List.forall_mem_cons.mpr ⟨Or.inr ⟨by decide, nAI, hts _ u_285, hX.2.2.2.2 (nIA, nAI) (by decide)⟩, fun z h => nomatch h⟩) (by decide) (by decide) (hts _ u_291) (va_Nw.use rfl (hX.2.2.2.1 (.castable nIA nIA) (by decide +kernel))) hce hcv hcl ?_
      refine lv_astore (lv' := [(5, .ref q9), (0, .ref x), (1, .int v), (2, .int z), (3, .int q), (4, .ref ou)]) hx hb dL_value_19 hl (by decide) rfl (fun ls hl => ?_)
      refine lv_iconst (v := nI 2) hx hb dL_value_21 (by decide) ?_
      refine W.widen (k := 2) (n := 12) (by decide) (by decide) ?_
      exact w_iret (lf := fun g => (L, g)) hx hb hr hlocks u hw (⟨by rw [hc, hc2]; rfl, fun h9 => absurd h9 (by decide), fun q h1 _ => hcO q h1⟩) dL_value_22
  · skip
    obtain ⟨⟨hc, e9⟩, hcO⟩ := hp
    subst e9
    have hou2 : u ou = eJ G 1 r := (hcO ou hno).trans hou
    refine lv_i2l (v := (nI 0).toInt64) hx hb dL_value_10 rfl ?_
    refine n_last hx hb hw hoL hou2 0 (by omega) (by omega) dL_value_11 (fun H locs hw => ?_)
    refine lv_goto (tgt := 23) hx hb dL_value_12 (by decide) ?_
    refine lv_iconst (v := nI 0) hx hb dL_value_23 (by decide) ?_
    refine W.widen (k := 2) (n := 12) (by decide) (by decide) ?_
    exact w_iret (lf := fun g => (L, g)) hx hb hr hlocks _ hw (⟨by rw [Bool.and_eq_true] at hc; rw [hc.1, hc.2]; rfl, fun _ => va_up_eq _ _ _, fun q h1 h2 => (va_up_ne _ _ h2).trans (hcO q h1)⟩) dL_value_24
