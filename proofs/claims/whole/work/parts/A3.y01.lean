theorem q_539 : Cond.methodLink RX7 102 yX7_requirePolynomial ∈ uU := uU_in (by decide +kernel) (by decide +kernel)
theorem q_540 : Cond.static yX7_requirePolynomial ∈ uU := uU_in (by decide +kernel) (by decide +kernel)
theorem q_541 : Cond.initialized yX7_requirePolynomial.cls ∈ uU := uU_in (by decide +kernel) (by decide +kernel)
theorem q_542 : Cond.code yX7_requirePolynomial cX7_requirePolynomial 1 none ∈ uU := uU_in (by decide +kernel) (by decide +kernel)
theorem q_543 : Cond.methodLink RX7 106 yX7_requirePower ∈ uU := uU_in (by decide +kernel) (by decide +kernel)
theorem q_544 : Cond.static yX7_requirePower ∈ uU := uU_in (by decide +kernel) (by decide +kernel)
theorem q_545 : Cond.initialized yX7_requirePower.cls ∈ uU := uU_in (by decide +kernel) (by decide +kernel)
theorem q_546 : Cond.code yX7_requirePower cX7_requirePower 1 none ∈ uU := uU_in (by decide +kernel) (by decide +kernel)
def f_X7_set (a0 : Int) (a1 : Int) (a2 : Int) (M : MI) : Option ((Nat × MI) ⊕ (Int × MI)) :=
  Option.bind (f_X7_requirePolynomial a0 M) fun v1 => match v1 with
  | .inl o => some (.inl o)
  | .inr M2 =>
  Option.bind (f_X7_requirePower a1 M2) fun v3 => match v3 with
  | .inl o => some (.inl o)
  | .inr M4 =>
  Option.bind (gI a2 (-9999)) fun _ =>
  if a2 < (-9999) then
    some (.inl (3, M4))
  else
    Option.bind (gI a2 (9999)) fun _ =>
    if a2 ≤ (9999) then
      Option.bind (odA 7 a0) fun v5 =>
      Option.bind (odI M4 v5 a1) fun v6 =>
      Option.bind (
        Option.bind (gI v6 a2) fun _ =>
        if v6 = a2 then
          some (0)
        else
          some (1)) fun v7 =>
      Option.bind (odA 7 a0) fun v8 =>
      Option.bind (osI M4 v8 a1 a2) fun v9 =>
      Option.bind (obz v7) fun v10 =>
      some (.inr (v10, v9))
    else
      some (.inl (3, M4))
set_option maxRecDepth 100000 in
set_option maxHeartbeats 8000000 in
theorem b_X7_set {p : Program} {l : Launch} (hl0 : l.stackTraces = false) {e : Env} {s : State} {m : MethodId} {args : Array Value} {below : List Frame} {meth : Method} {c : Code} {Qc : Array Value → State → Outcome → State → Prop} {G : gG} {A : Nat → Prop} {adr : Nat → Nat} (cx : cX p s m args meth c cX7_set (some .boolean) 5 yX7_set.cls) (hnt : ∀ x ∈ c.exceptionTable.toList, False) (hY : tY A s s.heap) (hi : adi adr) {a0 : Int} {a1 : Int} {a2 : Int} {M : MI} {o9 : (Nat × MI) ⊕ (Int × MI)} 
    (kr : (match o9 with | .inl _ => True | .inr q9 => ∀ (pc : Nat) (ls : Array Slot) (H : Heap) (locs : List Loc), decode cX7_set pc = .ok (.ireturn, 1) → narrow .boolean (.int (Int32.ofInt q9.1)) = .int (Int32.ofInt q9.1) → wH G A s.heap s (LL adr) (wf G adr (tm q9.2)) H locs → W p l e { frames := 8, cells := 3, slots := 18, locals := 115 } s m args below meth c H locs 2 12 (vx_MQ below Qc (xX G A (LL adr) (fun E g => ∃ k M', o9 = .inl (k, M') ∧ E = eN k ∧ g = wf G adr (tm M'))) args s 3 18 A) (F0 m pc ls [.int (Int32.ofInt q9.1)])))
    (h : f_X7_set a0 a1 a2 M = some o9)
    {ls : Array Slot} {H : Heap} {locs : List Loc} (hl : lv_has ls 5 [(0, .ref (adr 0)), (1, .int (Int32.ofInt a0)), (2, .int (Int32.ofInt a1)), (3, .int (Int32.ofInt a2))]) (hw : wH G A s.heap s (LL adr) (wf G adr (tm M)) H locs) : W p l e { frames := 8, cells := 3, slots := 18, locals := 115 } s m args below meth c H locs 0 0 (vx_MQ below Qc (xX G A (LL adr) (fun E g => ∃ k M', o9 = .inl (k, M') ∧ E = eN k ∧ g = wf G adr (tm M'))) args s 3 18 A) (F0 m 0 ls []) := by
  obtain ⟨hx, hb, -, hml, hown, hts, hlocks⟩ := id cx
  have hown : s.vm.findClass RX7 = some m.cls := hown
  unfold f_X7_set at h
  refine lv_iload_n hx hb dX7_set_0 rfl (lv_at hl 1 rfl) ?_
  replace h := bnd h
  obtain ⟨v1, e1, h⟩ := h
  refine y_callSv (c1 := 1) (s1 := 6) (As := [.int (Int32.ofInt a0)]) (rest := []) cx.fix hY hw (cc_X7_requirePolynomial (l := l) (G := G) (sz := H.size) hl0 hi e1) (w_cS 1 hts q_539 q_540 q_541 q_542 rfl rfl (by decide) (by decide)) hl.1 rfl (lv_room (Nat.le_of_ble_eq_true rfl)) dX7_set_1 (by decide) rfl rfl (fun k9 M9 ce q9 H locs ho hw hce hcv hcl => ?_) (fun M2 H locs ho hw => ?_)
  · subst ho
    cases h
    exact x_out hnt hlocks hw ⟨k9, M9, rfl, rfl, rfl⟩ hce hcv hcl (by decide) (by decide)
  subst ho
  (try dsimp only at h)
  refine lv_iload_n hx hb dX7_set_4 rfl (lv_at hl 2 rfl) ?_
  replace h := bnd h
  obtain ⟨v3, e3, h⟩ := h
  refine y_callSv (c1 := 2) (s1 := 12) (As := [.int (Int32.ofInt a1)]) (rest := []) cx.fix hY hw (cc_X7_requirePower (l := l) (G := G) (sz := H.size) hl0 hi e3) (w_cS 1 hts q_543 q_544 q_545 q_546 rfl rfl (by decide) (by decide)) hl.1 rfl (lv_room (Nat.le_of_ble_eq_true rfl)) dX7_set_5 (by decide) rfl rfl (fun k9 M9 ce q9 H locs ho hw hce hcv hcl => ?_) (fun M4 H locs ho hw => ?_)
  · subst ho
    cases h
    exact x_out hnt hlocks hw ⟨k9, M9, rfl, rfl, rfl⟩ hce hcv hcl (by decide) (by decide)
  subst ho
  (try dsimp only at h)
  refine lv_iload_n hx hb dX7_set_8 rfl (lv_at hl 3 rfl) ?_
  refine lv_sipush (v := Int32.ofInt (-9999)) hx hb dX7_set_9 rfl ?_
  replace h := bnd h
  obtain ⟨_, hg, h⟩ := h
  refine o_icmp_lt (tgt := 22) hx hb hg dX7_set_12 (by decide) (fun hc => ?_) (fun hc => ?_)
  · replace h := ite_t hc h
    cases h
    exact w_throwS (cls := nIA) (text := "no such coefficient") hx hb hl0 hown hts fit_IA fitn_2 uw_classLink_RX7_109_nIA uw_initialized_nIA (by decide +kernel) at_IA an_IA ot_IA hY.1 hw (hl.1.trans hml.symm) dX7_set_22 dX7_set_25 dX7_set_26 dX7_set_28 dX7_set_31 hnt (by decide) (by decide) (by decide) (by decide) hlocks ⟨3, _, rfl, rfl, rfl⟩ (by decide) (by decide)
  · replace h := ite_f hc h
    refine lv_iload_n hx hb dX7_set_15 rfl (lv_at hl 3 rfl) ?_
    refine lv_sipush (v := Int32.ofInt (9999)) hx hb dX7_set_16 rfl ?_
    replace h := bnd h
    obtain ⟨_, hg, h⟩ := h
    refine o_icmp_le (tgt := 32) hx hb hg dX7_set_19 (by decide) (fun hc => ?_) (fun hc => ?_)
    · replace h := ite_t hc h
      refine lv_aload_n hx hb dX7_set_32 rfl (lv_at hl 0 rfl) ?_
      refine m_get (k := 0) (C := RX7) (T := TX7) (N := 15) (ref := "LiftFactors") (v := .ref (adr 7)) hx hb hi hts inX7_u hown hw (by decide) rfl 0 (by decide) q_466 rfl rfl dX7_set_33 ?_
      refine lv_iload_n hx hb dX7_set_36 rfl (lv_at hl 1 rfl) ?_
      replace h := bnd h
      obtain ⟨v5, e5, h⟩ := h
      refine o_aald hx hb hi hw e5 dX7_set_37 ?_
      refine lv_iload_n hx hb dX7_set_38 rfl (lv_at hl 2 rfl) ?_
      replace h := bnd h
      obtain ⟨v6, e6, h⟩ := h
      refine o_iald hx hb hi hw e6 dX7_set_39 ?_
      refine lv_iload_n hx hb dX7_set_40 rfl (lv_at hl 3 rfl) ?_
      replace h := bnd h
      obtain ⟨v7, j11, h⟩ := h
      have kj : ∀ (ls : Array Slot) (H : Heap) (locs : List Loc), lv_has ls 5 [(0, .ref (adr 0)), (1, .int (Int32.ofInt a0)), (2, .int (Int32.ofInt a1)), (3, .int (Int32.ofInt a2))] → wH G A s.heap s (LL adr) (wf G adr (tm M4)) H locs → W p l e { frames := 8, cells := 3, slots := 18, locals := 115 } s m args below meth c H locs 2 12 (vx_MQ below Qc (xX G A (LL adr) (fun E g => ∃ k M', o9 = .inl (k, M') ∧ E = eN k ∧ g = wf G adr (tm M'))) args s 3 18 A) (F0 m 49 ls [.int (Int32.ofInt v7)]) := by
        intro ls H locs hl hw
        refine lv_istore (lv' := [(4, .int (Int32.ofInt v7)), (0, .ref (adr 0)), (1, .int (Int32.ofInt a0)), (2, .int (Int32.ofInt a1)), (3, .int (Int32.ofInt a2))]) hx hb dX7_set_49 hl (by decide) rfl (fun ls hl => ?_)
        refine lv_aload_n hx hb dX7_set_51 rfl (lv_at hl 1 rfl) ?_
        refine m_get (k := 0) (C := RX7) (T := TX7) (N := 15) (ref := "LiftFactors") (v := .ref (adr 7)) hx hb hi hts inX7_u hown hw (by decide) rfl 0 (by decide) q_466 rfl rfl dX7_set_52 ?_
        refine lv_iload_n hx hb dX7_set_55 rfl (lv_at hl 2 rfl) ?_
        replace h := bnd h
        obtain ⟨v8, e8, h⟩ := h
        refine o_aald hx hb hi hw e8 dX7_set_56 ?_
        refine lv_iload_n hx hb dX7_set_57 rfl (lv_at hl 3 rfl) ?_
        refine lv_iload_n hx hb dX7_set_58 rfl (lv_at hl 4 rfl) ?_
        replace h := bnd h
        obtain ⟨v9, e9, h⟩ := h
        refine o_iast hx hb hi hw e9 dX7_set_59 (fun H locs hw => ?_)
        refine lv_iload hx hb dX7_set_60 (lv_at hl 0 rfl) ?_
        replace h := bnd h
        obtain ⟨v10, eZ, h⟩ := h
        obtain ⟨rfl, eZ⟩ := obz_ok eZ
        cases h
        exact kr _ _ _ _ dX7_set_62 eZ hw
      clear h
      replace h := j11
      clear j11
      replace h := bnd h
      obtain ⟨_, hg, h⟩ := h
      refine o_icmp_eq (tgt := 48) hx hb hg dX7_set_41 (by decide) (fun hc => ?_) (fun hc => ?_)
      · replace h := ite_t hc h
        refine lv_iconst (v := Int32.ofInt (0)) hx hb dX7_set_48 rfl ?_
        cases h
        exact kj _ _ _ (lv_sub hl [0, 1, 2, 3] rfl) hw
      · replace h := ite_f hc h
        refine lv_iconst (v := Int32.ofInt (1)) hx hb dX7_set_44 rfl ?_
        refine lv_goto (tgt := 49) hx hb dX7_set_45 (by decide) ?_
        cases h
        exact kj _ _ _ (lv_sub hl [0, 1, 2, 3] rfl) hw
    · replace h := ite_f hc h
      cases h
      exact w_throwS (cls := nIA) (text := "no such coefficient") hx hb hl0 hown hts fit_IA fitn_2 uw_classLink_RX7_109_nIA uw_initialized_nIA (by decide +kernel) at_IA an_IA ot_IA hY.1 hw (hl.1.trans hml.symm) dX7_set_22 dX7_set_25 dX7_set_26 dX7_set_28 dX7_set_31 hnt (by decide) (by decide) (by decide) (by decide) hlocks ⟨3, _, rfl, rfl, rfl⟩ (by decide) (by decide)
theorem cc_X7_set {l : Launch} (hl0 : l.stackTraces = false) {G : gG} {adr : Nat → Nat} {sz : Nat} (hi : adi adr) {a0 : Int} {a1 : Int} {a2 : Int} {M : MI} {o9 : (Nat × MI) ⊕ (Int × MI)} (h : f_X7_set a0 a1 a2 M = some o9) : yI l yX7_set cX7_set 5 (some .boolean) { frames := 8, cells := 3, slots := 18, locals := 115 } G adr [.ref (adr 0), .int (Int32.ofInt a0), .int (Int32.ofInt a1), .int (Int32.ofInt a2)] (tm M) sz 3 18 o9 := by
  refine yEnterX (by decide) (Nat.le_of_ble_eq_true rfl) ?_
  intro p e s m below meth c ls cx hnt hl hsz hw hY
  refine b_X7_set hl0 cx hnt hY hi ?_ h hl hw
  clear h
  rcases o9 with o9 | q9
  · trivial
  · dsimp only
    intro pc ls H locs hd hz hw
    refine vx_ret ?_
    refine W.widen (k := 3) (n := 18) (by decide) (by decide) ?_
    exact w_zret (post := fun (r9 : Int32) (u : Mem) => ∃ r M', Sum.inr q9 = (.inr (r, M') : (Nat × MI) ⊕ (Int × MI)) ∧ r9 = Int32.ofInt r ∧ u = tm M') (lf := fun u => (LL adr, wf G adr u)) cx.1 cx.2.1 cx.2.2.1 cx.2.2.2.2.2.2 hz (tm q9.2) hw ⟨q9.1, q9.2, rfl, rfl, rfl⟩ hd
