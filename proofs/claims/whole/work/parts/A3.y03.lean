theorem q_547 : Cond.methodLink RX7 116 yX7_multiply ∈ uU := uU_in (by decide +kernel) (by decide +kernel)
theorem q_548 : Cond.instanceMethod yX7_multiply ∈ uU := uU_in (by decide +kernel) (by decide +kernel)
theorem q_549 : Cond.selects yX7_multiply.cls yX7_multiply yX7_multiply ∈ uU := uU_in (by decide +kernel) (by decide +kernel)
theorem q_550 : Cond.initialized yX7_multiply.cls ∈ uU := uU_in (by decide +kernel) (by decide +kernel)
theorem q_551 : Cond.code yX7_multiply cX7_multiply 5 none ∈ uU := uU_in (by decide +kernel) (by decide +kernel)
theorem q_552 : Cond.methodLink RX7 120 yX7_isTooGreat ∈ uU := uU_in (by decide +kernel) (by decide +kernel)
theorem q_553 : Cond.static yX7_isTooGreat ∈ uU := uU_in (by decide +kernel) (by decide +kernel)
theorem q_554 : Cond.initialized yX7_isTooGreat.cls ∈ uU := uU_in (by decide +kernel) (by decide +kernel)
theorem q_555 : Cond.code yX7_isTooGreat cX7_isTooGreat 4 (some .boolean) ∈ uU := uU_in (by decide +kernel) (by decide +kernel)
def f_X7_times (n : Nat) (a0 : Int) (a1 : Int) (M : MI) : Option ((Nat × MI) ⊕ (Int × MI)) :=
  Option.bind (f_X7_requirePolynomial a0 M) fun v1 => match v1 with
  | .inl o => some (.inl o)
  | .inr M2 =>
  Option.bind (f_X7_requirePolynomial a1 M2) fun v3 => match v3 with
  | .inl o => some (.inl o)
  | .inr M4 =>
  Option.bind (f_X7_requireNumber M4) fun v5 => match v5 with
  | .inl o => some (.inl o)
  | .inr M6 =>
  Option.bind (odA 7 a0) fun v7 =>
  Option.bind (odA 7 a1) fun v8 =>
  Option.bind (f_X7_multiply n v7 v8 M6) fun v9 =>
  Option.bind (f_X7_isTooGreat n 13 v9) fun v10 =>
  Option.bind (gI v10 0) fun _ =>
  if v10 = 0 then
    Option.bind (f_X7_keep n 13 v9) fun (v11, M12) =>
    some (.inr (v11, M12))
  else
    some (.inl (3, v9))
set_option maxRecDepth 100000 in
set_option maxHeartbeats 8000000 in
theorem b_X7_times {p : Program} {l : Launch} (hl0 : l.stackTraces = false) {e : Env} {s : State} {m : MethodId} {args : Array Value} {below : List Frame} {meth : Method} {c : Code} {Qc : Array Value → State → Outcome → State → Prop} {G : gG} {A : Nat → Prop} {adr : Nat → Nat} (cx : cX p s m args meth c cX7_times (some .int) 3 yX7_times.cls) (hnt : ∀ x ∈ c.exceptionTable.toList, False) (hY : tY A s s.heap) (hi : adi adr) {n : Nat} {a0 : Int} {a1 : Int} {M : MI} {o9 : (Nat × MI) ⊕ (Int × MI)} 
    (kr : (match o9 with | .inl _ => True | .inr q9 => ∀ (pc : Nat) (ls : Array Slot) (H : Heap) (locs : List Loc), decode cX7_times pc = .ok (.ireturn, 1) → wH G A s.heap s (LL adr) (wf G adr (tm q9.2)) H locs → W p l e { frames := 8, cells := 4, slots := 24, locals := 115 } s m args below meth c H locs 3 18 (vx_MQ below Qc (xX G A (LL adr) (fun E g => ∃ k M', o9 = .inl (k, M') ∧ E = eN k ∧ g = wf G adr (tm M'))) args s 4 24 A) (F0 m pc ls [.int (Int32.ofInt q9.1)])))
    (h : f_X7_times n a0 a1 M = some o9)
    {ls : Array Slot} {H : Heap} {locs : List Loc} (hl : lv_has ls 3 [(0, .ref (adr 0)), (1, .int (Int32.ofInt a0)), (2, .int (Int32.ofInt a1))]) (hw : wH G A s.heap s (LL adr) (wf G adr (tm M)) H locs) : W p l e { frames := 8, cells := 4, slots := 24, locals := 115 } s m args below meth c H locs 0 0 (vx_MQ below Qc (xX G A (LL adr) (fun E g => ∃ k M', o9 = .inl (k, M') ∧ E = eN k ∧ g = wf G adr (tm M'))) args s 4 24 A) (F0 m 0 ls []) := by
  obtain ⟨hx, hb, -, hml, hown, hts, hlocks⟩ := id cx
  have hown : s.vm.findClass RX7 = some m.cls := hown
  unfold f_X7_times at h
  refine lv_iload_n hx hb dX7_times_0 rfl (lv_at hl 1 rfl) ?_
  replace h := bnd h
  obtain ⟨v1, e1, h⟩ := h
  refine y_callSv (c1 := 1) (s1 := 6) (As := [.int (Int32.ofInt a0)]) (rest := []) cx.fix hY hw (cc_X7_requirePolynomial (l := l) (G := G) (sz := H.size) hl0 hi e1) (w_cS 1 hts q_539 q_540 q_541 q_542 rfl rfl (by decide) (by decide)) hl.1 rfl (lv_room (Nat.le_of_ble_eq_true rfl)) dX7_times_1 (by decide) rfl rfl (fun k9 M9 ce q9 H locs ho hw hce hcv hcl => ?_) (fun M2 H locs ho hw => ?_)
  · subst ho
    cases h
    exact x_out hnt hlocks hw ⟨k9, M9, rfl, rfl, rfl⟩ hce hcv hcl (by decide) (by decide)
  subst ho
  (try dsimp only at h)
  refine lv_iload_n hx hb dX7_times_4 rfl (lv_at hl 2 rfl) ?_
  replace h := bnd h
  obtain ⟨v3, e3, h⟩ := h
  refine y_callSv (c1 := 2) (s1 := 12) (As := [.int (Int32.ofInt a1)]) (rest := []) cx.fix hY hw (cc_X7_requirePolynomial (l := l) (G := G) (sz := H.size) hl0 hi e3) (w_cS 1 hts q_539 q_540 q_541 q_542 rfl rfl (by decide) (by decide)) hl.1 rfl (lv_room (Nat.le_of_ble_eq_true rfl)) dX7_times_5 (by decide) rfl rfl (fun k9 M9 ce q9 H locs ho hw hce hcv hcl => ?_) (fun M4 H locs ho hw => ?_)
  · subst ho
    cases h
    exact x_out hnt hlocks hw ⟨k9, M9, rfl, rfl, rfl⟩ hce hcv hcl (by decide) (by decide)
  subst ho
  (try dsimp only at h)
  refine lv_aload_n hx hb dX7_times_8 rfl (lv_at hl 0 rfl) ?_
  replace h := bnd h
  obtain ⟨v5, e5, h⟩ := h
  refine y_callVv (k := 0) (c1 := 3) (s1 := 18) (As := []) (rest := []) cx.fix hi hY hw (cc_X7_requireNumber (l := l) (G := G) (sz := H.size) hl0 hi e5) (by decide) rfl rfl (w_cV 0 hts q_533 q_534 q_535 q_536 q_537 rfl rfl (by decide) (by decide)) hl.1 rfl (lv_room (Nat.le_of_ble_eq_true rfl)) dX7_times_9 (by decide) rfl rfl (fun k9 M9 ce q9 H locs ho hw hce hcv hcl => ?_) (fun M6 H locs ho hw => ?_)
  · subst ho
    cases h
    exact x_out hnt hlocks hw ⟨k9, M9, rfl, rfl, rfl⟩ hce hcv hcl (by decide) (by decide)
  subst ho
  (try dsimp only at h)
  refine lv_aload_n hx hb dX7_times_12 rfl (lv_at hl 0 rfl) ?_
  refine lv_aload_n hx hb dX7_times_13 rfl (lv_at hl 0 rfl) ?_
  refine m_get (k := 0) (C := RX7) (T := TX7) (N := 15) (ref := "LiftFactors") (v := .ref (adr 7)) hx hb hi hts inX7_u hown hw (by decide) rfl 0 (by decide) q_466 rfl rfl dX7_times_14 ?_
  refine lv_iload_n hx hb dX7_times_17 rfl (lv_at hl 1 rfl) ?_
  replace h := bnd h
  obtain ⟨v7, e7, h⟩ := h
  refine o_aald hx hb hi hw e7 dX7_times_18 ?_
  refine lv_aload_n hx hb dX7_times_19 rfl (lv_at hl 0 rfl) ?_
  refine m_get (k := 0) (C := RX7) (T := TX7) (N := 15) (ref := "LiftFactors") (v := .ref (adr 7)) hx hb hi hts inX7_u hown hw (by decide) rfl 0 (by decide) q_466 rfl rfl dX7_times_20 ?_
  refine lv_iload_n hx hb dX7_times_23 rfl (lv_at hl 2 rfl) ?_
  replace h := bnd h
  obtain ⟨v8, e8, h⟩ := h
  refine o_aald hx hb hi hw e8 dX7_times_24 ?_
  replace h := bnd h
  obtain ⟨v9, e9, h⟩ := h
  refine n_callVv (k := 0) (As := [.ref (adr v7), .ref (adr v8)]) (rest := []) cx.fix hi hw (cc_X7_multiply (l := l) (G := G) (sz := H.size) hi e9) (by decide) rfl rfl (w_cV 2 hts q_547 q_548 q_549 q_550 q_551 rfl rfl (by decide) (by decide)) (by decide) hl.1 rfl (lv_room (Nat.le_of_ble_eq_true rfl)) dX7_times_25 (fun H locs hw => ?_)
  refine lv_aload_n hx hb dX7_times_28 rfl (lv_at hl 0 rfl) ?_
  refine m_get (k := 0) (C := RX7) (T := TX7) (N := 15) (ref := "LiftFactors") (v := .ref (adr 13)) hx hb hi hts inX7_u hown hw (by decide) rfl 8 (by decide) q_480 rfl rfl dX7_times_29 ?_
  replace h := bnd h
  obtain ⟨v10, e10, h⟩ := h
  refine n_callSi (As := [.ref (adr 13)]) (rest := []) cx.fix hw (cc_X7_isTooGreat (l := l) (G := G) (sz := H.size) hi e10) (w_cS 1 hts q_552 q_553 q_554 q_555 rfl rfl (by decide) (by decide)) (by decide) hl.1 rfl (lv_room (Nat.le_of_ble_eq_true rfl)) dX7_times_32 (fun H locs hw => ?_)
  replace h := bnd h
  obtain ⟨_, hg, h⟩ := h
  refine o_if_eq (tgt := 48) hx hb hg dX7_times_35 (by decide) (fun hc => ?_) (fun hc => ?_)
  · replace h := ite_t hc h
    refine lv_aload_n hx hb dX7_times_48 rfl (lv_at hl 0 rfl) ?_
    refine lv_aload_n hx hb dX7_times_49 rfl (lv_at hl 0 rfl) ?_
    refine m_get (k := 0) (C := RX7) (T := TX7) (N := 15) (ref := "LiftFactors") (v := .ref (adr 13)) hx hb hi hts inX7_u hown hw (by decide) rfl 8 (by decide) q_480 rfl rfl dX7_times_50 ?_
    replace h := bnd h
    obtain ⟨⟨v11, M12⟩, e11, h⟩ := h
    refine n_callVi (k := 0) (As := [.ref (adr 13)]) (rest := []) cx.fix hi hw (cc_X7_keep (l := l) (G := G) (sz := H.size) hi e11) (by decide) rfl rfl (w_cV 1 hts q_473 q_474 q_475 q_476 q_477 rfl rfl (by decide) (by decide)) (by decide) hl.1 rfl (lv_room (Nat.le_of_ble_eq_true rfl)) dX7_times_53 (fun H locs hw => ?_)
    cases h
    exact kr _ _ _ _ dX7_times_56 hw
  · replace h := ite_f hc h
    cases h
    exact w_throwS (cls := nIA) (text := "the product is too great") hx hb hl0 hown hts fit_IA fitn_2 uw_classLink_RX7_109_nIA uw_initialized_nIA (by decide +kernel) at_IA an_IA ot_IA hY.1 hw (hl.1.trans hml.symm) dX7_times_38 dX7_times_41 dX7_times_42 dX7_times_44 dX7_times_47 hnt (by decide) (by decide) (by decide) (by decide) hlocks ⟨3, _, rfl, rfl, rfl⟩ (by decide) (by decide)
theorem cc_X7_times {l : Launch} (hl0 : l.stackTraces = false) {G : gG} {adr : Nat → Nat} {sz : Nat} (hi : adi adr) {n : Nat} {a0 : Int} {a1 : Int} {M : MI} {o9 : (Nat × MI) ⊕ (Int × MI)} (h : f_X7_times n a0 a1 M = some o9) : yI l yX7_times cX7_times 3 (some .int) { frames := 8, cells := 4, slots := 24, locals := 115 } G adr [.ref (adr 0), .int (Int32.ofInt a0), .int (Int32.ofInt a1)] (tm M) sz 4 24 o9 := by
  refine yEnterX (by decide) (Nat.le_of_ble_eq_true rfl) ?_
  intro p e s m below meth c ls cx hnt hl hsz hw hY
  refine b_X7_times hl0 cx hnt hY hi ?_ h hl hw
  clear h
  rcases o9 with o9 | q9
  · trivial
  · dsimp only
    intro pc ls H locs hd hw
    refine vx_ret ?_
    refine W.widen (k := 4) (n := 24) (by decide) (by decide) ?_
    exact w_iret (post := fun (r9 : Int32) (u : Mem) => ∃ r M', Sum.inr q9 = (.inr (r, M') : (Nat × MI) ⊕ (Int × MI)) ∧ r9 = Int32.ofInt r ∧ u = tm M') (lf := fun u => (LL adr, wf G adr u)) cx.1 cx.2.1 cx.2.2.1 cx.2.2.2.2.2.2 (tm q9.2) hw ⟨q9.1, q9.2, rfl, rfl, rfl⟩ hd
