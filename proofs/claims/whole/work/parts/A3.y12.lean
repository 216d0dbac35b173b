theorem q_595 : Cond.methodLink RX7 195 yX7_isSmallPrime ∈ uU := uU_in (by decide +kernel) (by decide +kernel)
theorem q_596 : Cond.static yX7_isSmallPrime ∈ uU := uU_in (by decide +kernel) (by decide +kernel)
theorem q_597 : Cond.initialized yX7_isSmallPrime.cls ∈ uU := uU_in (by decide +kernel) (by decide +kernel)
theorem q_598 : Cond.code yX7_isSmallPrime cX7_isSmallPrime 2 (some .boolean) ∈ uU := uU_in (by decide +kernel) (by decide +kernel)
theorem q_599 : Cond.fieldLink RX7 44 "LiftFactors" "field" "LLiftFactors$Field;" ∈ uU := uU_in (by decide +kernel) (by decide +kernel)
theorem q_600 : Cond.methodLink RX7 201 yX3_choose ∈ uU := uU_in (by decide +kernel) (by decide +kernel)
theorem q_601 : Cond.methodLink RX7 205 yX3_makeMonic ∈ uU := uU_in (by decide +kernel) (by decide +kernel)
theorem q_602 : Cond.fieldLink RX7 69 "LiftFactors" "splitter" "LLiftFactors$Splitter;" ∈ uU := uU_in (by decide +kernel) (by decide +kernel)
theorem q_603 : Cond.methodLink RX7 209 yX6_findFixed ∈ uU := uU_in (by decide +kernel) (by decide +kernel)
theorem q_604 : Cond.fieldLink RX7 212 "LiftFactors$Splitter" "fixedCount" "I" ∈ uU := uU_in (by decide +kernel) (by decide +kernel)
def f_X7_parts (n : Nat) (a0 : Int) (a1 : Int) (M : MI) : Option ((Nat × MI) ⊕ (Int × MI)) :=
  Option.bind (f_X7_requirePolynomial a0 M) fun v1 => match v1 with
  | .inl o => some (.inl o)
  | .inr M2 =>
  Option.bind (f_X7_isSmallPrime n a1) fun v3 =>
  Option.bind (gI v3 0) fun _ =>
  if v3 = 0 then
    some (.inl (3, M2))
  else
    Option.bind (f_X7_load n a0 10 M2) fun v4 =>
    Option.bind (f_X5_degree n 10 v4) fun v5 =>
    Option.bind (gI v5 0) fun _ =>
    if v5 < 0 then
      some (.inr ((-1), v4))
    else
      Option.bind (odJ v4 10 v5) fun v6 =>
      Option.bind (gI a1 0) fun v7 =>
      Option.bind (orJ v6 a1) fun v8 =>
      Option.bind (gJ v8 (0)) fun _ =>
      if v8 = (0) then
        some (.inr ((-1), v4))
      else
        Option.bind (gI a1 0) fun v9 =>
        Option.bind (f_X3_choose a1 v4) fun v10 =>
        Option.bind (f_X3_makeMonic n 10 11 v10) fun v11 =>
        Option.bind (f_X6_findFixed n 11 v11) fun v12 =>
        some (.inr (v12.2 4 2, v12))
set_option maxRecDepth 100000 in
set_option maxHeartbeats 8000000 in
theorem b_X7_parts {p : Program} {l : Launch} (hl0 : l.stackTraces = false) {e : Env} {s : State} {m : MethodId} {args : Array Value} {below : List Frame} {meth : Method} {c : Code} {Qc : Array Value → State → Outcome → State → Prop} {G : gG} {A : Nat → Prop} {adr : Nat → Nat} (cx : cX p s m args meth c cX7_parts (some .int) 4 yX7_parts.cls) (hnt : ∀ x ∈ c.exceptionTable.toList, False) (hY : tY A s s.heap) (hi : adi adr) {n : Nat} {a0 : Int} {a1 : Int} {M : MI} {o9 : (Nat × MI) ⊕ (Int × MI)} 
    (kr : (match o9 with | .inl _ => True | .inr q9 => ∀ (pc : Nat) (ls : Array Slot) (H : Heap) (locs : List Loc), decode cX7_parts pc = .ok (.ireturn, 1) → wH G A s.heap s (LL adr) (wf G adr (tm q9.2)) H locs → W p l e { frames := 8, cells := 2, slots := 12, locals := 130 } s m args below meth c H locs 1 6 (vx_MQ below Qc (xX G A (LL adr) (fun E g => ∃ k M', o9 = .inl (k, M') ∧ E = eN k ∧ g = wf G adr (tm M'))) args s 2 12 A) (F0 m pc ls [.int (Int32.ofInt q9.1)])))
    (h : f_X7_parts n a0 a1 M = some o9)
    {ls : Array Slot} {H : Heap} {locs : List Loc} (hl : lv_has ls 4 [(0, .ref (adr 0)), (1, .int (Int32.ofInt a0)), (2, .int (Int32.ofInt a1))]) (hw : wH G A s.heap s (LL adr) (wf G adr (tm M)) H locs) : W p l e { frames := 8, cells := 2, slots := 12, locals := 130 } s m args below meth c H locs 0 0 (vx_MQ below Qc (xX G A (LL adr) (fun E g => ∃ k M', o9 = .inl (k, M') ∧ E = eN k ∧ g = wf G adr (tm M'))) args s 2 12 A) (F0 m 0 ls []) := by
  obtain ⟨hx, hb, -, hml, hown, hts, hlocks⟩ := id cx
  have hown : s.vm.findClass RX7 = some m.cls := hown
  unfold f_X7_parts at h
  refine lv_iload_n hx hb dX7_parts_0 rfl (lv_at hl 1 rfl) ?_
  replace h := bnd h
  obtain ⟨v1, e1, h⟩ := h
  refine y_callSv (c1 := 1) (s1 := 6) (As := [.int (Int32.ofInt a0)]) (rest := []) cx.fix hY hw (cc_X7_requirePolynomial (l := l) (G := G) (sz := H.size) hl0 hi e1) (w_cS 1 hts q_539 q_540 q_541 q_542 rfl rfl (by decide) (by decide)) hl.1 rfl (lv_room (Nat.le_of_ble_eq_true rfl)) dX7_parts_1 (by decide) rfl rfl (fun k9 M9 ce q9 H locs ho hw hce hcv hcl => ?_) (fun M2 H locs ho hw => ?_)
  · subst ho
    cases h
    exact x_out hnt hlocks hw ⟨k9, M9, rfl, rfl, rfl⟩ hce hcv hcl (by decide) (by decide)
  subst ho
  (try dsimp only at h)
  refine lv_iload_n hx hb dX7_parts_4 rfl (lv_at hl 2 rfl) ?_
  replace h := bnd h
  obtain ⟨v3, e3, h⟩ := h
  refine n_callSi (As := [.int (Int32.ofInt a1)]) (rest := []) cx.fix hw (cc_X7_isSmallPrime (l := l) (G := G) (sz := H.size) (M := M2) hi e3) (w_cS 1 hts q_595 q_596 q_597 q_598 rfl rfl (by decide) (by decide)) (by decide) hl.1 rfl (lv_room (Nat.le_of_ble_eq_true rfl)) dX7_parts_5 (fun H locs hw => ?_)
  replace h := bnd h
  obtain ⟨_, hg, h⟩ := h
  refine o_if_ne (tgt := 21) hx hb hg dX7_parts_8 (by decide) (fun hc => ?_) (fun hc => ?_)
  · replace h := ite_f hc h
    refine lv_aload_n hx hb dX7_parts_21 rfl (lv_at hl 0 rfl) ?_
    refine lv_iload_n hx hb dX7_parts_22 rfl (lv_at hl 1 rfl) ?_
    refine lv_aload_n hx hb dX7_parts_23 rfl (lv_at hl 0 rfl) ?_
    refine m_get (k := 0) (C := RX7) (T := TX7) (N := 15) (ref := "LiftFactors") (v := .ref (adr 10)) hx hb hi hts inX7_u hown hw (by decide) rfl 5 (by decide) q_556 rfl rfl dX7_parts_24 ?_
    replace h := bnd h
    obtain ⟨v4, e4, h⟩ := h
    refine n_callVv (k := 0) (As := [.int (Int32.ofInt a0), .ref (adr 10)]) (rest := []) cx.fix hi hw (cc_X7_load (l := l) (G := G) (sz := H.size) hi e4) (by decide) rfl rfl (w_cV 2 hts q_557 q_558 q_559 q_560 q_561 rfl rfl (by decide) (by decide)) (by decide) hl.1 rfl (lv_room (Nat.le_of_ble_eq_true rfl)) dX7_parts_27 (fun H locs hw => ?_)
    refine lv_aload_n hx hb dX7_parts_30 rfl (lv_at hl 0 rfl) ?_
    refine m_get (k := 0) (C := RX7) (T := TX7) (N := 15) (ref := "LiftFactors") (v := .ref (adr 10)) hx hb hi hts inX7_u hown hw (by decide) rfl 5 (by decide) q_556 rfl rfl dX7_parts_31 ?_
    replace h := bnd h
    obtain ⟨v5, e5, h⟩ := h
    refine n_callSi (As := [.ref (adr 10)]) (rest := []) cx.fix hw (cc_X5_degree (l := l) (G := G) (sz := H.size) hi e5) (w_cS 1 hts q_563 q_246 q_247 q_248 rfl rfl (by decide) (by decide)) (by decide) hl.1 rfl (lv_room (Nat.le_of_ble_eq_true rfl)) dX7_parts_34 (fun H locs hw => ?_)
    refine lv_istore_n (lv' := [(3, .int (Int32.ofInt v5)), (0, .ref (adr 0)), (1, .int (Int32.ofInt a0)), (2, .int (Int32.ofInt a1))]) hx hb dX7_parts_37 rfl hl (by decide) rfl (fun ls hl => ?_)
    refine lv_iload_n hx hb dX7_parts_38 rfl (lv_at hl 0 rfl) ?_
    replace h := bnd h
    obtain ⟨_, hg, h⟩ := h
    refine o_if_lt (tgt := 56) hx hb hg dX7_parts_39 (by decide) (fun hc => ?_) (fun hc => ?_)
    · replace h := ite_t hc h
      refine lv_iconst (v := Int32.ofInt (-1)) hx hb dX7_parts_56 rfl ?_
      cases h
      exact kr _ _ _ _ dX7_parts_57 hw
    · replace h := ite_f hc h
      refine lv_aload_n hx hb dX7_parts_42 rfl (lv_at hl 1 rfl) ?_
      refine m_get (k := 0) (C := RX7) (T := TX7) (N := 15) (ref := "LiftFactors") (v := .ref (adr 10)) hx hb hi hts inX7_u hown hw (by decide) rfl 5 (by decide) q_556 rfl rfl dX7_parts_43 ?_
      refine lv_iload_n hx hb dX7_parts_46 rfl (lv_at hl 0 rfl) ?_
      replace h := bnd h
      obtain ⟨v6, e6, h⟩ := h
      refine o_lald hx hb hi hw e6 dX7_parts_47 ?_
      refine lv_iload_n hx hb dX7_parts_48 rfl (lv_at hl 3 rfl) ?_
      replace h := bnd h
      obtain ⟨v7, e7, h⟩ := h
      refine o_i2l hx hb e7 dX7_parts_49 ?_
      replace h := bnd h
      obtain ⟨v8, e8, h⟩ := h
      refine o_lrem hx hb e8 dX7_parts_50 ?_
      refine lv_lconst (v := Int64.ofInt (0)) hx hb dX7_parts_51 (by decide) ?_
      replace h := bnd h
      obtain ⟨_, hg, h⟩ := h
      refine o_lcmp_ne (tgt := 58) hx hb hg dX7_parts_52 dX7_parts_53 (by decide) (fun hc => ?_) (fun hc => ?_)
      · replace h := ite_f hc h
        refine lv_aload_n hx hb dX7_parts_58 rfl (lv_at hl 1 rfl) ?_
        refine m_get (k := 0) (C := RX7) (T := TX7) (N := 15) (ref := "LiftFactors") (v := .ref (adr 1)) hx hb hi hts inX7_u hown hw (by decide) rfl 9 (by decide) q_599 rfl rfl dX7_parts_59 ?_
        refine lv_iload_n hx hb dX7_parts_62 rfl (lv_at hl 3 rfl) ?_
        replace h := bnd h
        obtain ⟨v9, e9, h⟩ := h
        refine o_i2l hx hb e9 dX7_parts_63 ?_
        replace h := bnd h
        obtain ⟨v10, e10, h⟩ := h
        refine n_callVv (k := 1) (As := [.long (Int64.ofInt a1)]) (rest := []) cx.fix hi hw (cc_X3_choose (l := l) (G := G) (sz := H.size) hi e10) (by decide) rfl rfl (w_cV 1 hts q_600 q_488 q_489 q_490 q_491 rfl rfl (by decide) (by decide)) (by decide) hl.1 rfl (lv_room (Nat.le_of_ble_eq_true rfl)) dX7_parts_64 (fun H locs hw => ?_)
        refine lv_aload_n hx hb dX7_parts_67 rfl (lv_at hl 1 rfl) ?_
        refine m_get (k := 0) (C := RX7) (T := TX7) (N := 15) (ref := "LiftFactors") (v := .ref (adr 1)) hx hb hi hts inX7_u hown hw (by decide) rfl 9 (by decide) q_599 rfl rfl dX7_parts_68 ?_
        refine lv_aload_n hx hb dX7_parts_71 rfl (lv_at hl 1 rfl) ?_
        refine m_get (k := 0) (C := RX7) (T := TX7) (N := 15) (ref := "LiftFactors") (v := .ref (adr 10)) hx hb hi hts inX7_u hown hw (by decide) rfl 5 (by decide) q_556 rfl rfl dX7_parts_72 ?_
        refine lv_aload_n hx hb dX7_parts_75 rfl (lv_at hl 1 rfl) ?_
        refine m_get (k := 0) (C := RX7) (T := TX7) (N := 15) (ref := "LiftFactors") (v := .ref (adr 11)) hx hb hi hts inX7_u hown hw (by decide) rfl 6 (by decide) q_562 rfl rfl dX7_parts_76 ?_
        replace h := bnd h
        obtain ⟨v11, e11, h⟩ := h
        refine n_callVv (k := 1) (As := [.ref (adr 10), .ref (adr 11)]) (rest := []) cx.fix hi hw (cc_X3_makeMonic (l := l) (G := G) (sz := H.size) hi e11) (by decide) rfl rfl (w_cV 2 hts q_601 q_301 q_302 q_303 q_304 rfl rfl (by decide) (by decide)) (by decide) hl.1 rfl (lv_room (Nat.le_of_ble_eq_true rfl)) dX7_parts_79 (fun H locs hw => ?_)
        refine lv_aload_n hx hb dX7_parts_82 rfl (lv_at hl 1 rfl) ?_
        refine m_get (k := 0) (C := RX7) (T := TX7) (N := 15) (ref := "LiftFactors") (v := .ref (adr 4)) hx hb hi hts inX7_u hown hw (by decide) rfl 12 (by decide) q_602 rfl rfl dX7_parts_83 ?_
        refine lv_aload_n hx hb dX7_parts_86 rfl (lv_at hl 1 rfl) ?_
        refine m_get (k := 0) (C := RX7) (T := TX7) (N := 15) (ref := "LiftFactors") (v := .ref (adr 11)) hx hb hi hts inX7_u hown hw (by decide) rfl 6 (by decide) q_562 rfl rfl dX7_parts_87 ?_
        replace h := bnd h
        obtain ⟨v12, e12, h⟩ := h
        refine n_callVv (k := 4) (As := [.ref (adr 11)]) (rest := []) cx.fix hi hw (cc_X6_findFixed (l := l) (G := G) (sz := H.size) hi e12) (by decide) rfl rfl (w_cV 1 hts q_603 q_514 q_515 q_516 q_517 rfl rfl (by decide) (by decide)) (by decide) hl.1 rfl (lv_room (Nat.le_of_ble_eq_true rfl)) dX7_parts_90 (fun H locs hw => ?_)
        refine lv_aload_n hx hb dX7_parts_93 rfl (lv_at hl 1 rfl) ?_
        refine m_get (k := 0) (C := RX7) (T := TX7) (N := 15) (ref := "LiftFactors") (v := .ref (adr 4)) hx hb hi hts inX7_u hown hw (by decide) rfl 12 (by decide) q_602 rfl rfl dX7_parts_94 ?_
        refine m_get (k := 4) (C := RX6) (T := TX6) (N := 9) (ref := "LiftFactors$Splitter") (v := .int (Int32.ofInt (v12.2 4 2))) hx hb hi hts inX6_u hown hw (by decide) rfl 2 (by decide) q_604 rfl rfl dX7_parts_97 ?_
        cases h
        exact kr _ _ _ _ dX7_parts_100 hw
      · replace h := ite_t hc h
        refine lv_iconst (v := Int32.ofInt (-1)) hx hb dX7_parts_56 rfl ?_
        cases h
        exact kr _ _ _ _ dX7_parts_57 hw
  · replace h := ite_t hc h
    cases h
    exact w_throwS (cls := nIA) (text := "no prime from 2 to 97") hx hb hl0 hown hts fit_IA fitn_2 uw_classLink_RX7_109_nIA uw_initialized_nIA (by decide +kernel) at_IA an_IA ot_IA hY.1 hw (hl.1.trans hml.symm) dX7_parts_11 dX7_parts_14 dX7_parts_15 dX7_parts_17 dX7_parts_20 hnt (by decide) (by decide) (by decide) (by decide) hlocks ⟨3, _, rfl, rfl, rfl⟩ (by decide) (by decide)
theorem cc_X7_parts {l : Launch} (hl0 : l.stackTraces = false) {G : gG} {adr : Nat → Nat} {sz : Nat} (hi : adi adr) {n : Nat} {a0 : Int} {a1 : Int} {M : MI} {o9 : (Nat × MI) ⊕ (Int × MI)} (h : f_X7_parts n a0 a1 M = some o9) : yI l yX7_parts cX7_parts 4 (some .int) { frames := 8, cells := 2, slots := 12, locals := 130 } G adr [.ref (adr 0), .int (Int32.ofInt a0), .int (Int32.ofInt a1)] (tm M) sz 2 12 o9 := by
  refine yEnterX (by decide) (Nat.le_of_ble_eq_true rfl) ?_
  intro p e s m below meth c ls cx hnt hl hsz hw hY
  refine b_X7_parts hl0 cx hnt hY hi ?_ h hl hw
  clear h
  rcases o9 with o9 | q9
  · trivial
  · dsimp only
    intro pc ls H locs hd hw
    refine vx_ret ?_
    refine W.widen (k := 2) (n := 12) (by decide) (by decide) ?_
    exact w_iret (post := fun (r9 : Int32) (u : Mem) => ∃ r M', Sum.inr q9 = (.inr (r, M') : (Nat × MI) ⊕ (Int × MI)) ∧ r9 = Int32.ofInt r ∧ u = tm M') (lf := fun u => (LL adr, wf G adr u)) cx.1 cx.2.1 cx.2.2.1 cx.2.2.2.2.2.2 (tm q9.2) hw ⟨q9.1, q9.2, rfl, rfl, rfl⟩ hd
