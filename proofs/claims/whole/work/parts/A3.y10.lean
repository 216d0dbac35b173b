theorem q_586 : Cond.fieldLink RX7 85 "LiftFactors" "rootFinder" "LLiftFactors$RootFinder;" ∈ uU := uU_in (by decide +kernel) (by decide +kernel)
theorem q_587 : Cond.methodLink RX7 180 yX4_findRoots ∈ uU := uU_in (by decide +kernel) (by decide +kernel)
theorem q_588 : Cond.instanceMethod yX4_findRoots ∈ uU := uU_in (by decide +kernel) (by decide +kernel)
theorem q_589 : Cond.selects yX4_findRoots.cls yX4_findRoots yX4_findRoots ∈ uU := uU_in (by decide +kernel) (by decide +kernel)
theorem q_590 : Cond.initialized yX4_findRoots.cls ∈ uU := uU_in (by decide +kernel) (by decide +kernel)
theorem q_591 : Cond.code yX4_findRoots cX4_findRoots 8 none ∈ uU := uU_in (by decide +kernel) (by decide +kernel)
theorem q_592 : Cond.fieldLink RX7 183 "LiftFactors$RootFinder" "found" "I" ∈ uU := uU_in (by decide +kernel) (by decide +kernel)
theorem q_593 : Cond.fieldLink RX7 192 "LiftFactors$RootFinder" "below" "[J" ∈ uU := uU_in (by decide +kernel) (by decide +kernel)
theorem q_594 : Cond.fieldLink RX7 189 "LiftFactors$RootFinder" "above" "[J" ∈ uU := uU_in (by decide +kernel) (by decide +kernel)
def f_X7_root (n : Nat) (a0 : Int) (a1 : Int) (a2 : Int) (M : MI) : Option ((Nat × MI) ⊕ (Int × MI)) :=
  Option.bind (f_X7_requirePolynomial a0 M) fun v1 => match v1 with
  | .inl o => some (.inl o)
  | .inr M2 =>
  Option.bind (f_X7_load n a0 10 M2) fun v3 =>
  Option.bind (f_X5_makePrimitive n 10 v3) fun v4 =>
  Option.bind (f_X4_findRoots n 10 v4) fun v5 =>
  Option.bind (gI a1 0) fun _ =>
  if a1 < 0 then
    some (.inl (3, v5))
  else
    Option.bind (gI a1 (v5.2 6 2)) fun _ =>
    if a1 < (v5.2 6 2) then
      Option.bind (gI a2 0) fun _ =>
      if a2 = 0 then
        Option.bind (
          Option.bind (gI a2 0) fun _ =>
          if a2 = 0 then
            Option.bind (odJ v5 32 a1) fun v7 =>
            some v7
          else
            Option.bind (odJ v5 33 a1) fun v6 =>
            some v6) fun v8 =>
        Option.bind (gJ v8 0) fun v9 =>
        some (.inr (v8, v5))
      else
        Option.bind (gI a2 (1)) fun _ =>
        if a2 = (1) then
          Option.bind (
            Option.bind (gI a2 0) fun _ =>
            if a2 = 0 then
              Option.bind (odJ v5 32 a1) fun v12 =>
              some v12
            else
              Option.bind (odJ v5 33 a1) fun v11 =>
              some v11) fun v13 =>
          Option.bind (gJ v13 0) fun v14 =>
          some (.inr (v13, v5))
        else
          some (.inl (3, v5))
    else
      some (.inl (3, v5))
set_option maxRecDepth 100000 in
set_option maxHeartbeats 8000000 in
theorem b_X7_root {p : Program} {l : Launch} (hl0 : l.stackTraces = false) {e : Env} {s : State} {m : MethodId} {args : Array Value} {below : List Frame} {meth : Method} {c : Code} {Qc : Array Value → State → Outcome → State → Prop} {G : gG} {A : Nat → Prop} {adr : Nat → Nat} (cx : cX p s m args meth c cX7_root (some .int) 4 yX7_root.cls) (hnt : ∀ x ∈ c.exceptionTable.toList, False) (hY : tY A s s.heap) (hi : adi adr) {n : Nat} {a0 : Int} {a1 : Int} {a2 : Int} {M : MI} {o9 : (Nat × MI) ⊕ (Int × MI)} 
    (kr : (match o9 with | .inl _ => True | .inr q9 => ∀ (pc : Nat) (ls : Array Slot) (H : Heap) (locs : List Loc), decode cX7_root pc = .ok (.ireturn, 1) → wH G A s.heap s (LL adr) (wf G adr (tm q9.2)) H locs → W p l e { frames := 8, cells := 2, slots := 12, locals := 115 } s m args below meth c H locs 1 6 (vx_MQ below Qc (xX G A (LL adr) (fun E g => ∃ k M', o9 = .inl (k, M') ∧ E = eN k ∧ g = wf G adr (tm M'))) args s 2 12 A) (F0 m pc ls [.int (Int32.ofInt q9.1)])))
    (h : f_X7_root n a0 a1 a2 M = some o9)
    {ls : Array Slot} {H : Heap} {locs : List Loc} (hl : lv_has ls 4 [(0, .ref (adr 0)), (1, .int (Int32.ofInt a0)), (2, .int (Int32.ofInt a1)), (3, .int (Int32.ofInt a2))]) (hw : wH G A s.heap s (LL adr) (wf G adr (tm M)) H locs) : W p l e { frames := 8, cells := 2, slots := 12, locals := 115 } s m args below meth c H locs 0 0 (vx_MQ below Qc (xX G A (LL adr) (fun E g => ∃ k M', o9 = .inl (k, M') ∧ E = eN k ∧ g = wf G adr (tm M'))) args s 2 12 A) (F0 m 0 ls []) := by
  obtain ⟨hx, hb, -, hml, hown, hts, hlocks⟩ := id cx
  have hown : s.vm.findClass RX7 = some m.cls := hown
  unfold f_X7_root at h
  refine lv_iload_n hx hb dX7_root_0 rfl (lv_at hl 1 rfl) ?_
  replace h := bnd h
  obtain ⟨v1, e1, h⟩ := h
  refine y_callSv (c1 := 1) (s1 := 6) (As := [.int (Int32.ofInt a0)]) (rest := []) cx.fix hY hw (cc_X7_requirePolynomial (l := l) (G := G) (sz := H.size) hl0 hi e1) (w_cS 1 hts q_539 q_540 q_541 q_542 rfl rfl (by decide) (by decide)) hl.1 rfl (lv_room (Nat.le_of_ble_eq_true rfl)) dX7_root_1 (by decide) rfl rfl (fun k9 M9 ce q9 H locs ho hw hce hcv hcl => ?_) (fun M2 H locs ho hw => ?_)
  · subst ho
    cases h
    exact x_out hnt hlocks hw ⟨k9, M9, rfl, rfl, rfl⟩ hce hcv hcl (by decide) (by decide)
  subst ho
  (try dsimp only at h)
  refine lv_aload_n hx hb dX7_root_4 rfl (lv_at hl 0 rfl) ?_
  refine lv_iload_n hx hb dX7_root_5 rfl (lv_at hl 1 rfl) ?_
  refine lv_aload_n hx hb dX7_root_6 rfl (lv_at hl 0 rfl) ?_
  refine m_get (k := 0) (C := RX7) (T := TX7) (N := 15) (ref := "LiftFactors") (v := .ref (adr 10)) hx hb hi hts inX7_u hown hw (by decide) rfl 5 (by decide) q_556 rfl rfl dX7_root_7 ?_
  replace h := bnd h
  obtain ⟨v3, e3, h⟩ := h
  refine n_callVv (k := 0) (As := [.int (Int32.ofInt a0), .ref (adr 10)]) (rest := []) cx.fix hi hw (cc_X7_load (l := l) (G := G) (sz := H.size) hi e3) (by decide) rfl rfl (w_cV 2 hts q_557 q_558 q_559 q_560 q_561 rfl rfl (by decide) (by decide)) (by decide) hl.1 rfl (lv_room (Nat.le_of_ble_eq_true rfl)) dX7_root_10 (fun H locs hw => ?_)
  refine lv_aload_n hx hb dX7_root_13 rfl (lv_at hl 0 rfl) ?_
  refine m_get (k := 0) (C := RX7) (T := TX7) (N := 15) (ref := "LiftFactors") (v := .ref (adr 10)) hx hb hi hts inX7_u hown hw (by decide) rfl 5 (by decide) q_556 rfl rfl dX7_root_14 ?_
  replace h := bnd h
  obtain ⟨v4, e4, h⟩ := h
  refine n_callSv (As := [.ref (adr 10)]) (rest := []) cx.fix hw (cc_X5_makePrimitive (l := l) (G := G) (sz := H.size) hi e4) (w_cS 1 hts q_569 q_409 q_410 q_411 rfl rfl (by decide) (by decide)) (by decide) hl.1 rfl (lv_room (Nat.le_of_ble_eq_true rfl)) dX7_root_17 (fun H locs hw => ?_)
  refine lv_aload_n hx hb dX7_root_20 rfl (lv_at hl 0 rfl) ?_
  refine m_get (k := 0) (C := RX7) (T := TX7) (N := 15) (ref := "LiftFactors") (v := .ref (adr 6)) hx hb hi hts inX7_u hown hw (by decide) rfl 14 (by decide) q_586 rfl rfl dX7_root_21 ?_
  refine lv_aload_n hx hb dX7_root_24 rfl (lv_at hl 0 rfl) ?_
  refine m_get (k := 0) (C := RX7) (T := TX7) (N := 15) (ref := "LiftFactors") (v := .ref (adr 10)) hx hb hi hts inX7_u hown hw (by decide) rfl 5 (by decide) q_556 rfl rfl dX7_root_25 ?_
  replace h := bnd h
  obtain ⟨v5, e5, h⟩ := h
  refine n_callVv (k := 6) (As := [.ref (adr 10)]) (rest := []) cx.fix hi hw (cc_X4_findRoots (l := l) (G := G) (sz := H.size) hi e5) (by decide) rfl rfl (w_cV 1 hts q_587 q_588 q_589 q_590 q_591 rfl rfl (by decide) (by decide)) (by decide) hl.1 rfl (lv_room (Nat.le_of_ble_eq_true rfl)) dX7_root_28 (fun H locs hw => ?_)
  refine lv_iload_n hx hb dX7_root_31 rfl (lv_at hl 2 rfl) ?_
  replace h := bnd h
  obtain ⟨_, hg, h⟩ := h
  refine o_if_lt (tgt := 46) hx hb hg dX7_root_32 (by decide) (fun hc => ?_) (fun hc => ?_)
  · replace h := ite_t hc h
    cases h
    exact w_throwS (cls := nIA) (text := "no such root") hx hb hl0 hown hts fit_IA fitn_2 uw_classLink_RX7_109_nIA uw_initialized_nIA (by decide +kernel) at_IA an_IA ot_IA hY.1 hw (hl.1.trans hml.symm) dX7_root_46 dX7_root_49 dX7_root_50 dX7_root_52 dX7_root_55 hnt (by decide) (by decide) (by decide) (by decide) hlocks ⟨3, _, rfl, rfl, rfl⟩ (by decide) (by decide)
  · replace h := ite_f hc h
    refine lv_iload_n hx hb dX7_root_35 rfl (lv_at hl 2 rfl) ?_
    refine lv_aload_n hx hb dX7_root_36 rfl (lv_at hl 0 rfl) ?_
    refine m_get (k := 0) (C := RX7) (T := TX7) (N := 15) (ref := "LiftFactors") (v := .ref (adr 6)) hx hb hi hts inX7_u hown hw (by decide) rfl 14 (by decide) q_586 rfl rfl dX7_root_37 ?_
    refine m_get (k := 6) (C := RX4) (T := TX4) (N := 5) (ref := "LiftFactors$RootFinder") (v := .int (Int32.ofInt (v5.2 6 2))) hx hb hi hts inX4_u hown hw (by decide) rfl 2 (by decide) q_592 rfl rfl dX7_root_40 ?_
    replace h := bnd h
    obtain ⟨_, hg, h⟩ := h
    refine o_icmp_lt (tgt := 56) hx hb hg dX7_root_43 (by decide) (fun hc => ?_) (fun hc => ?_)
    · replace h := ite_t hc h
      refine lv_iload_n hx hb dX7_root_56 rfl (lv_at hl 3 rfl) ?_
      replace h := bnd h
      obtain ⟨_, hg, h⟩ := h
      refine o_if_eq (tgt := 75) hx hb hg dX7_root_57 (by decide) (fun hc => ?_) (fun hc => ?_)
      · replace h := ite_t hc h
        refine lv_iload_n hx hb dX7_root_75 rfl (lv_at hl 3 rfl) ?_
        replace h := bnd h
        obtain ⟨v8, j10, h⟩ := h
        have kj : ∀ (ls : Array Slot) (H : Heap) (locs : List Loc), lv_has ls 4 [] → wH G A s.heap s (LL adr) (wf G adr (tm v5)) H locs → W p l e { frames := 8, cells := 2, slots := 12, locals := 115 } s m args below meth c H locs 1 6 (vx_MQ below Qc (xX G A (LL adr) (fun E g => ∃ k M', o9 = .inl (k, M') ∧ E = eN k ∧ g = wf G adr (tm M'))) args s 2 12 A) (F0 m 100 ls [.long (Int64.ofInt v8)]) := by
          intro ls H locs hl hw
          replace h := bnd h
          obtain ⟨v9, e9, h⟩ := h
          refine o_l2i hx hb e9 dX7_root_100 ?_
          cases h
          exact kr _ _ _ _ dX7_root_101 hw
        clear h
        replace h := j10
        clear j10
        replace h := bnd h
        obtain ⟨_, hg, h⟩ := h
        refine o_if_ne (tgt := 91) hx hb hg dX7_root_76 (by decide) (fun hc => ?_) (fun hc => ?_)
        · replace h := ite_f hc h
          refine lv_aload_n hx hb dX7_root_91 rfl (lv_at hl 0 rfl) ?_
          refine m_get (k := 0) (C := RX7) (T := TX7) (N := 15) (ref := "LiftFactors") (v := .ref (adr 6)) hx hb hi hts inX7_u hown hw (by decide) rfl 14 (by decide) q_586 rfl rfl dX7_root_92 ?_
          refine m_get (k := 6) (C := RX4) (T := TX4) (N := 5) (ref := "LiftFactors$RootFinder") (v := .ref (adr 33)) hx hb hi hts inX4_u hown hw (by decide) rfl 1 (by decide) q_593 rfl rfl dX7_root_95 ?_
          refine lv_iload_n hx hb dX7_root_98 rfl (lv_at hl 2 rfl) ?_
          replace h := bnd h
          obtain ⟨v6, e6, h⟩ := h
          refine o_lald hx hb hi hw e6 dX7_root_99 ?_
          cases h
          exact kj _ _ _ (lv_sub hl [] rfl) hw
        · replace h := ite_t hc h
          refine lv_aload_n hx hb dX7_root_79 rfl (lv_at hl 0 rfl) ?_
          refine m_get (k := 0) (C := RX7) (T := TX7) (N := 15) (ref := "LiftFactors") (v := .ref (adr 6)) hx hb hi hts inX7_u hown hw (by decide) rfl 14 (by decide) q_586 rfl rfl dX7_root_80 ?_
          refine m_get (k := 6) (C := RX4) (T := TX4) (N := 5) (ref := "LiftFactors$RootFinder") (v := .ref (adr 32)) hx hb hi hts inX4_u hown hw (by decide) rfl 0 (by decide) q_594 rfl rfl dX7_root_83 ?_
          refine lv_iload_n hx hb dX7_root_86 rfl (lv_at hl 2 rfl) ?_
          replace h := bnd h
          obtain ⟨v7, e7, h⟩ := h
          refine o_lald hx hb hi hw e7 dX7_root_87 ?_
          refine lv_goto (tgt := 100) hx hb dX7_root_88 (by decide) ?_
          cases h
          exact kj _ _ _ (lv_sub hl [] rfl) hw
      · replace h := ite_f hc h
        refine lv_iload_n hx hb dX7_root_60 rfl (lv_at hl 3 rfl) ?_
        refine lv_iconst (v := Int32.ofInt (1)) hx hb dX7_root_61 rfl ?_
        replace h := bnd h
        obtain ⟨_, hg, h⟩ := h
        refine o_icmp_eq (tgt := 75) hx hb hg dX7_root_62 (by decide) (fun hc => ?_) (fun hc => ?_)
        · replace h := ite_t hc h
          refine lv_iload_n hx hb dX7_root_75 rfl (lv_at hl 3 rfl) ?_
          replace h := bnd h
          obtain ⟨v13, j15, h⟩ := h
          have kj : ∀ (ls : Array Slot) (H : Heap) (locs : List Loc), lv_has ls 4 [] → wH G A s.heap s (LL adr) (wf G adr (tm v5)) H locs → W p l e { frames := 8, cells := 2, slots := 12, locals := 115 } s m args below meth c H locs 1 6 (vx_MQ below Qc (xX G A (LL adr) (fun E g => ∃ k M', o9 = .inl (k, M') ∧ E = eN k ∧ g = wf G adr (tm M'))) args s 2 12 A) (F0 m 100 ls [.long (Int64.ofInt v13)]) := by
            intro ls H locs hl hw
            replace h := bnd h
            obtain ⟨v14, e14, h⟩ := h
            refine o_l2i hx hb e14 dX7_root_100 ?_
            cases h
            exact kr _ _ _ _ dX7_root_101 hw
          clear h
          replace h := j15
          clear j15
          replace h := bnd h
          obtain ⟨_, hg, h⟩ := h
          refine o_if_ne (tgt := 91) hx hb hg dX7_root_76 (by decide) (fun hc => ?_) (fun hc => ?_)
          · replace h := ite_f hc h
            refine lv_aload_n hx hb dX7_root_91 rfl (lv_at hl 0 rfl) ?_
            refine m_get (k := 0) (C := RX7) (T := TX7) (N := 15) (ref := "LiftFactors") (v := .ref (adr 6)) hx hb hi hts inX7_u hown hw (by decide) rfl 14 (by decide) q_586 rfl rfl dX7_root_92 ?_
            refine m_get (k := 6) (C := RX4) (T := TX4) (N := 5) (ref := "LiftFactors$RootFinder") (v := .ref (adr 33)) hx hb hi hts inX4_u hown hw (by decide) rfl 1 (by decide) q_593 rfl rfl dX7_root_95 ?_
            refine lv_iload_n hx hb dX7_root_98 rfl (lv_at hl 2 rfl) ?_
            replace h := bnd h
            obtain ⟨v11, e11, h⟩ := h
            refine o_lald hx hb hi hw e11 dX7_root_99 ?_
            cases h
            exact kj _ _ _ (lv_sub hl [] rfl) hw
          · replace h := ite_t hc h
            refine lv_aload_n hx hb dX7_root_79 rfl (lv_at hl 0 rfl) ?_
            refine m_get (k := 0) (C := RX7) (T := TX7) (N := 15) (ref := "LiftFactors") (v := .ref (adr 6)) hx hb hi hts inX7_u hown hw (by decide) rfl 14 (by decide) q_586 rfl rfl dX7_root_80 ?_
            refine m_get (k := 6) (C := RX4) (T := TX4) (N := 5) (ref := "LiftFactors$RootFinder") (v := .ref (adr 32)) hx hb hi hts inX4_u hown hw (by decide) rfl 0 (by decide) q_594 rfl rfl dX7_root_83 ?_
            refine lv_iload_n hx hb dX7_root_86 rfl (lv_at hl 2 rfl) ?_
            replace h := bnd h
            obtain ⟨v12, e12, h⟩ := h
            refine o_lald hx hb hi hw e12 dX7_root_87 ?_
            refine lv_goto (tgt := 100) hx hb dX7_root_88 (by decide) ?_
            cases h
            exact kj _ _ _ (lv_sub hl [] rfl) hw
        · replace h := ite_f hc h
          cases h
          exact w_throwS (cls := nIA) (text := "no such part") hx hb hl0 hown hts fit_IA fitn_2 uw_classLink_RX7_109_nIA uw_initialized_nIA (by decide +kernel) at_IA an_IA ot_IA hY.1 hw (hl.1.trans hml.symm) dX7_root_65 dX7_root_68 dX7_root_69 dX7_root_71 dX7_root_74 hnt (by decide) (by decide) (by decide) (by decide) hlocks ⟨3, _, rfl, rfl, rfl⟩ (by decide) (by decide)
    · replace h := ite_f hc h
      cases h
      exact w_throwS (cls := nIA) (text := "no such root") hx hb hl0 hown hts fit_IA fitn_2 uw_classLink_RX7_109_nIA uw_initialized_nIA (by decide +kernel) at_IA an_IA ot_IA hY.1 hw (hl.1.trans hml.symm) dX7_root_46 dX7_root_49 dX7_root_50 dX7_root_52 dX7_root_55 hnt (by decide) (by decide) (by decide) (by decide) hlocks ⟨3, _, rfl, rfl, rfl⟩ (by decide) (by decide)
theorem cc_X7_root {l : Launch} (hl0 : l.stackTraces = false) {G : gG} {adr : Nat → Nat} {sz : Nat} (hi : adi adr) {n : Nat} {a0 : Int} {a1 : Int} {a2 : Int} {M : MI} {o9 : (Nat × MI) ⊕ (Int × MI)} (h : f_X7_root n a0 a1 a2 M = some o9) : yI l yX7_root cX7_root 4 (some .int) { frames := 8, cells := 2, slots := 12, locals := 115 } G adr [.ref (adr 0), .int (Int32.ofInt a0), .int (Int32.ofInt a1), .int (Int32.ofInt a2)] (tm M) sz 2 12 o9 := by
  refine yEnterX (by decide) (Nat.le_of_ble_eq_true rfl) ?_
  intro p e s m below meth c ls cx hnt hl hsz hw hY
  refine b_X7_root hl0 cx hnt hY hi ?_ h hl hw
  clear h
  rcases o9 with o9 | q9
  · trivial
  · dsimp only
    intro pc ls H locs hd hw
    refine vx_ret ?_
    refine W.widen (k := 2) (n := 12) (by decide) (by decide) ?_
    exact w_iret (post := fun (r9 : Int32) (u : Mem) => ∃ r M', Sum.inr q9 = (.inr (r, M') : (Nat × MI) ⊕ (Int × MI)) ∧ r9 = Int32.ofInt r ∧ u = tm M') (lf := fun u => (LL adr, wf G adr u)) cx.1 cx.2.1 cx.2.2.1 cx.2.2.2.2.2.2 (tm q9.2) hw ⟨q9.1, q9.2, rfl, rfl, rfl⟩ hd
