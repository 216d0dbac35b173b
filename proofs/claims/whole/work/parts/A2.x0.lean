theorem q_482 : Cond.methodLink RX0 17 yX5_degree ∈ uU := uU_in (by decide +kernel) (by decide +kernel)
theorem q_483 : Cond.methodLink RX0 23 yX5_copy ∈ uU := uU_in (by decide +kernel) (by decide +kernel)
theorem q_484 : Cond.methodLink RX0 27 yX5_makePrimitive ∈ uU := uU_in (by decide +kernel) (by decide +kernel)
theorem q_485 : Cond.methodLink RX0 31 yX5_commonMeasure ∈ uU := uU_in (by decide +kernel) (by decide +kernel)
theorem q_486 : Cond.fieldLink RX0 7 "LiftFactors$CommonDivisor" "field" "LLiftFactors$Field;" ∈ uU := uU_in (by decide +kernel) (by decide +kernel)
theorem q_487 : Cond.methodLink RX0 41 yX3_choose ∈ uU := uU_in (by decide +kernel) (by decide +kernel)
theorem q_488 : Cond.instanceMethod yX3_choose ∈ uU := uU_in (by decide +kernel) (by decide +kernel)
theorem q_489 : Cond.selects yX3_choose.cls yX3_choose yX3_choose ∈ uU := uU_in (by decide +kernel) (by decide +kernel)
theorem q_490 : Cond.initialized yX3_choose.cls ∈ uU := uU_in (by decide +kernel) (by decide +kernel)
theorem q_491 : Cond.code yX3_choose cX3_choose 3 none ∈ uU := uU_in (by decide +kernel) (by decide +kernel)
theorem q_492 : Cond.methodLink RX0 47 yX3_commonDivisor ∈ uU := uU_in (by decide +kernel) (by decide +kernel)
theorem q_493 : Cond.methodLink RX0 51 yX3_lift ∈ uU := uU_in (by decide +kernel) (by decide +kernel)
theorem q_494 : Cond.fieldLink RX0 13 "LiftFactors$CommonDivisor" "divider" "LLiftFactors$Divider;" ∈ uU := uU_in (by decide +kernel) (by decide +kernel)
theorem q_495 : Cond.methodLink RX0 55 yX1_divide ∈ uU := uU_in (by decide +kernel) (by decide +kernel)
def l_X0_find_60 (n : Nat) (a0 : Nat) (a1 : Nat) (a2 : Nat) (v9 : Int) : MI × Int × Int → Option ((MI) ⊕ (MI × Int × Int)) := fun (M10, v11, v12) =>
  Option.bind (gI v12 (16)) fun _ =>
  if (16) ≤ v12 then
    some (.inl M10)
  else
    Option.bind (gI v11 0) fun _ =>
    if v11 = 0 then
      Option.bind (oPR v12) fun v13 =>
      Option.bind (f_X3_choose v13 M10) fun v14 =>
      Option.bind (f_X3_commonDivisor n a0 a1 a2 v14) fun v15 =>
      Option.bind (f_X3_lift n a2 v9 v15) fun v16 =>
      Option.bind (f_X5_makePrimitive n a2 v16) fun v17 =>
      Option.bind (f_X1_divide n a0 a2 v17) fun (v18, M19) =>
      Option.bind (
        Option.bind (gI v18 0) fun _ =>
        if v18 = 0 then
          some (M19, (0))
        else
          Option.bind (f_X1_divide n a1 a2 M19) fun (v20, M21) =>
          Option.bind (gI v20 0) fun _ =>
          if v20 = 0 then
            some (M21, (0))
          else
            some (M21, (1))) fun (M22, v23) =>
      some (.inr (M22, v23, v12 + 1))
    else
      some (.inl M10)
def f_X0_find (n : Nat) (a0 : Nat) (a1 : Nat) (a2 : Nat) (M : MI) : Option MI :=
  Option.bind (f_X5_degree n a0 M) fun v1 =>
  Option.bind (f_X5_degree n a1 M) fun v2 =>
  Option.bind (gI v1 0) fun _ =>
  if v1 < 0 then
    Option.bind (
      Option.bind (gI v1 0) fun _ =>
      if 0 ≤ v1 then
        some a0
      else
        some a1) fun v3 =>
    Option.bind (f_X5_copy v3 a2 M) fun v4 =>
    Option.bind (f_X5_makePrimitive n a2 v4) fun v5 =>
    some v5
  else
    Option.bind (gI v2 0) fun _ =>
    if 0 ≤ v2 then
      Option.bind (odJ M a0 v1) fun v7 =>
      Option.bind (odJ M a1 v2) fun v8 =>
      Option.bind (f_X5_commonMeasure n v7 v8) fun v9 =>
      Option.bind (lpF (l_X0_find_60 n a0 a1 a2 v9) n (M, (0), (0))) fun M26 =>
      some M26
    else
      Option.bind (
        Option.bind (gI v1 0) fun _ =>
        if 0 ≤ v1 then
          some a0
        else
          some a1) fun v27 =>
      Option.bind (f_X5_copy v27 a2 M) fun v28 =>
      Option.bind (f_X5_makePrimitive n a2 v28) fun v29 =>
      some v29
set_option maxRecDepth 100000 in
set_option maxHeartbeats 8000000 in
theorem b_X0_find {p : Program} {l : Launch} {e : Env} {s : State} {m : MethodId} {args : Array Value} {below : List Frame} {meth : Method} {c : Code} {Q : State → Prop} {G : gG} {A : Nat → Prop} {adr : Nat → Nat} (hY : tY A s s.heap) (cx : cX p s m args meth c cX0_find none 10 yX0_find.cls) (hi : adi adr) {n : Nat} {a0 : Nat} {a1 : Nat} {a2 : Nat} {M M' : MI} 
    (h : f_X0_find n a0 a1 a2 M = some M')
    (kr : ∀ (pc : Nat) (ls : Array Slot) (H : Heap) (locs : List Loc), decode cX0_find pc = .ok (.return_, 1) → wH G A s.heap s (LL adr) (wf G adr (tm M')) H locs → W p l e { frames := 4, cells := 0, slots := 0, locals := 110 } s m args below meth c H locs 0 0 Q (F0 m pc ls []))
    {ls : Array Slot} {H : Heap} {locs : List Loc} (hl : lv_has ls 10 [(0, .ref (adr 3)), (1, .ref (adr a0)), (2, .ref (adr a1)), (3, .ref (adr a2))]) (hw : wH G A s.heap s (LL adr) (wf G adr (tm M)) H locs) : W p l e { frames := 4, cells := 0, slots := 0, locals := 110 } s m args below meth c H locs 0 0 Q (F0 m 0 ls []) := by
  obtain ⟨hx, hb, -, -, hown, hts, -⟩ := id cx
  have hown : s.vm.findClass RX0 = some m.cls := hown
  obtain ⟨t9, hZ9, hT9, hN9⟩ := hY.2
  unfold f_X0_find at h
  refine lv_aload_n hx hb dX0_find_0 rfl (lv_at hl 1 rfl) ?_
  replace h := bnd h
  obtain ⟨v1, e1, h⟩ := h
  refine m_callSi (As := [.ref (adr a0)]) (rest := []) cx.fix hw (cc_X5_degree (l := l) (G := G) (sz := H.size) hi e1) (w_cS 1 hts q_482 q_246 q_247 q_248 rfl rfl (by decide) (by decide)) hl.1 rfl (lv_room (Nat.le_of_ble_eq_true rfl)) dX0_find_1 (fun H locs hw => ?_)
  refine lv_istore (lv' := [(4, .int (Int32.ofInt v1)), (0, .ref (adr 3)), (1, .ref (adr a0)), (2, .ref (adr a1)), (3, .ref (adr a2))]) hx hb dX0_find_4 hl (by decide) rfl (fun ls hl => ?_)
  refine lv_aload_n hx hb dX0_find_6 rfl (lv_at hl 3 rfl) ?_
  replace h := bnd h
  obtain ⟨v2, e2, h⟩ := h
  refine m_callSi (As := [.ref (adr a1)]) (rest := []) cx.fix hw (cc_X5_degree (l := l) (G := G) (sz := H.size) hi e2) (w_cS 1 hts q_482 q_246 q_247 q_248 rfl rfl (by decide) (by decide)) hl.1 rfl (lv_room (Nat.le_of_ble_eq_true rfl)) dX0_find_7 (fun H locs hw => ?_)
  refine lv_istore (lv' := [(5, .int (Int32.ofInt v2)), (4, .int (Int32.ofInt v1)), (0, .ref (adr 3)), (1, .ref (adr a0)), (2, .ref (adr a1)), (3, .ref (adr a2))]) hx hb dX0_find_10 hl (by decide) rfl (fun ls hl => ?_)
  refine lv_iload hx hb dX0_find_12 (lv_at hl 1 rfl) ?_
  replace h := bnd h
  obtain ⟨_, hg, h⟩ := h
  refine o_if_lt (tgt := 22) hx hb hg dX0_find_14 (by decide) (fun hc => ?_) (fun hc => ?_)
  · replace h := ite_t hc h
    refine lv_iload hx hb dX0_find_22 (lv_at hl 1 rfl) ?_
    replace h := bnd h
    obtain ⟨v3, j6, h⟩ := h
    have kj : ∀ (ls : Array Slot) (H : Heap) (locs : List Loc), lv_has ls 10 [(3, .ref (adr a2))] → wH G A s.heap s (LL adr) (wf G adr (tm M)) H locs → W p l e { frames := 4, cells := 0, slots := 0, locals := 110 } s m args below meth c H locs 0 0 Q (F0 m 32 ls [.ref (adr v3)]) := by
      intro ls H locs hl hw
      refine lv_aload_n hx hb dX0_find_32 rfl (lv_at hl 0 rfl) ?_
      replace h := bnd h
      obtain ⟨v4, e4, h⟩ := h
      refine m_callSv (As := [.ref (adr v3), .ref (adr a2)]) (rest := []) cx.fix hw (cc_X5_copy (l := l) (G := G) (sz := H.size) hi e4) (w_cS 2 hts q_483 q_260 q_261 q_262 rfl rfl (by decide) (by decide)) hl.1 rfl (lv_room (Nat.le_of_ble_eq_true rfl)) dX0_find_33 (fun H locs hw => ?_)
      refine lv_aload_n hx hb dX0_find_36 rfl (lv_at hl 0 rfl) ?_
      replace h := bnd h
      obtain ⟨v5, e5, h⟩ := h
      refine m_callSv (As := [.ref (adr a2)]) (rest := []) cx.fix hw (cc_X5_makePrimitive (l := l) (G := G) (sz := H.size) hi e5) (w_cS 1 hts q_484 q_409 q_410 q_411 rfl rfl (by decide) (by decide)) hl.1 rfl (lv_room (Nat.le_of_ble_eq_true rfl)) dX0_find_37 (fun H locs hw => ?_)
      cases h
      exact kr _ _ _ _ dX0_find_40 hw
    clear h
    replace h := j6
    clear j6
    replace h := bnd h
    obtain ⟨_, hg, h⟩ := h
    refine o_if_ge (tgt := 31) hx hb hg dX0_find_24 (by decide) (fun hc => ?_) (fun hc => ?_)
    · replace h := ite_t hc h
      refine lv_aload_n hx hb dX0_find_31 rfl (lv_at hl 3 rfl) ?_
      cases h
      exact kj _ _ _ (lv_sub hl [5] rfl) hw
    · replace h := ite_f hc h
      refine lv_aload_n hx hb dX0_find_27 rfl (lv_at hl 4 rfl) ?_
      refine lv_goto (tgt := 32) hx hb dX0_find_28 (by decide) ?_
      cases h
      exact kj _ _ _ (lv_sub hl [5] rfl) hw
  · replace h := ite_f hc h
    refine lv_iload hx hb dX0_find_17 (lv_at hl 0 rfl) ?_
    replace h := bnd h
    obtain ⟨_, hg, h⟩ := h
    refine o_if_ge (tgt := 41) hx hb hg dX0_find_19 (by decide) (fun hc => ?_) (fun hc => ?_)
    · replace h := ite_t hc h
      refine lv_aload_n hx hb dX0_find_41 rfl (lv_at hl 3 rfl) ?_
      refine lv_iload hx hb dX0_find_42 (lv_at hl 1 rfl) ?_
      replace h := bnd h
      obtain ⟨v7, e7, h⟩ := h
      refine o_lald hx hb hi hw e7 dX0_find_44 ?_
      refine lv_aload_n hx hb dX0_find_45 rfl (lv_at hl 4 rfl) ?_
      refine lv_iload hx hb dX0_find_46 (lv_at hl 0 rfl) ?_
      replace h := bnd h
      obtain ⟨v8, e8, h⟩ := h
      refine o_lald hx hb hi hw e8 dX0_find_48 ?_
      replace h := bnd h
      obtain ⟨v9, e9, h⟩ := h
      refine m_callSl (As := [.long (Int64.ofInt v7), .long (Int64.ofInt v8)]) (rest := []) cx.fix hw (cc_X5_commonMeasure (l := l) (G := G) (sz := H.size) (M := M) hi e9) (w_cS 2 hts q_485 q_250 q_251 q_252 rfl rfl (by decide) (by decide)) hl.1 rfl (lv_room (Nat.le_of_ble_eq_true rfl)) dX0_find_49 (fun H locs hw => ?_)
      refine lv_lstore (lv' := [(6, .long (Int64.ofInt v9)), (5, .int (Int32.ofInt v2)), (4, .int (Int32.ofInt v1)), (0, .ref (adr 3)), (1, .ref (adr a0)), (2, .ref (adr a1)), (3, .ref (adr a2))]) hx hb dX0_find_52 hl (by decide) rfl (fun ls hl => ?_)
      refine lv_iconst (v := Int32.ofInt (0)) hx hb dX0_find_54 rfl ?_
      refine lv_istore (lv' := [(8, .int (Int32.ofInt (0))), (6, .long (Int64.ofInt v9)), (5, .int (Int32.ofInt v2)), (4, .int (Int32.ofInt v1)), (0, .ref (adr 3)), (1, .ref (adr a0)), (2, .ref (adr a1)), (3, .ref (adr a2))]) hx hb dX0_find_55 hl (by decide) rfl (fun ls hl => ?_)
      refine lv_iconst (v := Int32.ofInt (0)) hx hb dX0_find_57 rfl ?_
      refine lv_istore (lv' := [(9, .int (Int32.ofInt (0))), (8, .int (Int32.ofInt (0))), (6, .long (Int64.ofInt v9)), (5, .int (Int32.ofInt v2)), (4, .int (Int32.ofInt v1)), (0, .ref (adr 3)), (1, .ref (adr a0)), (2, .ref (adr a1)), (3, .ref (adr a2))]) hx hb dX0_find_58 hl (by decide) rfl (fun ls hl => ?_)
      replace h := bnd h
      obtain ⟨M26, j25, h⟩ := h
      refine lp_W (Wst := fun (st : MI × Int × Int) => ∀ (ls : Array Slot) (H : Heap) (locs : List Loc), lv_has ls 10 [(0, .ref (adr 3)), (1, .ref (adr a0)), (2, .ref (adr a1)), (3, .ref (adr a2)), (6, .long (Int64.ofInt v9)), (8, .int (Int32.ofInt st.2.1)), (9, .int (Int32.ofInt st.2.2))] → wH G A s.heap s (LL adr) (wf G adr (tm st.1)) H locs → W p l e { frames := 4, cells := 0, slots := 0, locals := 110 } s m args below meth c H locs 0 0 Q (F0 m 60 ls [])) (fin := fun (r : MI) => ∀ (ls : Array Slot) (H : Heap) (locs : List Loc), lv_has ls 10 [] → wH G A s.heap s (LL adr) (wf G adr (tm r)) H locs → W p l e { frames := 4, cells := 0, slots := 0, locals := 110 } s m args below meth c H locs 0 0 Q (F0 m 148 ls [])) ?_ n _ _ j25 ?_ _ _ _ (lv_sub hl [5, 6, 7, 8, 2, 1, 0] rfl) hw
      · clear h j25 hw hl
        intro ⟨M10, v11, v12⟩ x h k1 k2 ls H locs hl hw
        (try dsimp only at k1 k2 hl hw ⊢)
        unfold l_X0_find_60 at h
        (try dsimp only at h)
        refine lv_iload hx hb dX0_find_60 (lv_at hl 6 rfl) ?_
        refine va_getsN hx hb hZ9 hw.2.2.2.1 hown (va_Nw.use tP_on hN9) (fun _ h => h) dX0_find_62 ?_
        refine va_tlen (v := Int32.ofInt (16)) hx hb hT9 hw.2.2.2.1 rfl dX0_find_65 ?_
        replace h := bnd h
        obtain ⟨_, hg, h⟩ := h
        refine o_icmp_ge (tgt := 148) hx hb hg dX0_find_66 (by decide) (fun hc => ?_) (fun hc => ?_)
        · replace h := ite_t hc h
          cases h
          exact k1 _ rfl _ _ _ (lv_sub hl [] rfl) hw
        · replace h := ite_f hc h
          refine lv_iload hx hb dX0_find_69 (lv_at hl 5 rfl) ?_
          replace h := bnd h
          obtain ⟨_, hg, h⟩ := h
          refine o_if_ne (tgt := 148) hx hb hg dX0_find_71 (by decide) (fun hc => ?_) (fun hc => ?_)
          · replace h := ite_f hc h
            cases h
            exact k1 _ rfl _ _ _ (lv_sub hl [] rfl) hw
          · replace h := ite_t hc h
            refine lv_aload_n hx hb dX0_find_74 rfl (lv_at hl 0 rfl) ?_
            refine m_get (k := 3) (C := RX0) (T := TX0) (N := 2) (ref := "LiftFactors$CommonDivisor") (v := .ref (adr 1)) hx hb hi hts inX0_u hown hw (by decide) rfl 0 (by decide) q_486 rfl rfl dX0_find_75 ?_
            refine va_getsN hx hb hZ9 hw.2.2.2.1 hown (va_Nw.use tP_on hN9) (fun _ h => h) dX0_find_78 ?_
            refine lv_iload hx hb dX0_find_81 (lv_at hl 6 rfl) ?_
            replace h := bnd h
            obtain ⟨v13, e13, h⟩ := h
            refine o_pr hx hb hT9 hw e13 dX0_find_83 ?_
            replace h := bnd h
            obtain ⟨v14, e14, h⟩ := h
            refine m_callVv (k := 1) (As := [.long (Int64.ofInt v13)]) (rest := []) cx.fix hi hw (cc_X3_choose (l := l) (G := G) (sz := H.size) hi e14) (by decide) rfl rfl (w_cV 1 hts q_487 q_488 q_489 q_490 q_491 rfl rfl (by decide) (by decide)) hl.1 rfl (lv_room (Nat.le_of_ble_eq_true rfl)) dX0_find_84 (fun H locs hw => ?_)
            refine lv_aload_n hx hb dX0_find_87 rfl (lv_at hl 0 rfl) ?_
            refine m_get (k := 3) (C := RX0) (T := TX0) (N := 2) (ref := "LiftFactors$CommonDivisor") (v := .ref (adr 1)) hx hb hi hts inX0_u hown hw (by decide) rfl 0 (by decide) q_486 rfl rfl dX0_find_88 ?_
            refine lv_aload_n hx hb dX0_find_91 rfl (lv_at hl 1 rfl) ?_
            refine lv_aload_n hx hb dX0_find_92 rfl (lv_at hl 2 rfl) ?_
            refine lv_aload_n hx hb dX0_find_93 rfl (lv_at hl 3 rfl) ?_
            replace h := bnd h
            obtain ⟨v15, e15, h⟩ := h
            refine m_callVv (k := 1) (As := [.ref (adr a0), .ref (adr a1), .ref (adr a2)]) (rest := []) cx.fix hi hw (cc_X3_commonDivisor (l := l) (G := G) (sz := H.size) hi e15) (by decide) rfl rfl (w_cV 3 hts q_492 q_362 q_363 q_364 q_365 rfl rfl (by decide) (by decide)) hl.1 rfl (lv_room (Nat.le_of_ble_eq_true rfl)) dX0_find_94 (fun H locs hw => ?_)
            refine lv_aload_n hx hb dX0_find_97 rfl (lv_at hl 0 rfl) ?_
            refine m_get (k := 3) (C := RX0) (T := TX0) (N := 2) (ref := "LiftFactors$CommonDivisor") (v := .ref (adr 1)) hx hb hi hts inX0_u hown hw (by decide) rfl 0 (by decide) q_486 rfl rfl dX0_find_98 ?_
            refine lv_aload_n hx hb dX0_find_101 rfl (lv_at hl 3 rfl) ?_
            refine lv_lload hx hb dX0_find_102 (lv_at hl 4 rfl) ?_
            replace h := bnd h
            obtain ⟨v16, e16, h⟩ := h
            refine m_callVv (k := 1) (As := [.ref (adr a2), .long (Int64.ofInt v9)]) (rest := []) cx.fix hi hw (cc_X3_lift (l := l) (G := G) (sz := H.size) hi e16) (by decide) rfl rfl (w_cV 2 hts q_493 q_404 q_405 q_406 q_407 rfl rfl (by decide) (by decide)) hl.1 rfl (lv_room (Nat.le_of_ble_eq_true rfl)) dX0_find_104 (fun H locs hw => ?_)
            refine lv_aload_n hx hb dX0_find_107 rfl (lv_at hl 3 rfl) ?_
            replace h := bnd h
            obtain ⟨v17, e17, h⟩ := h
            refine m_callSv (As := [.ref (adr a2)]) (rest := []) cx.fix hw (cc_X5_makePrimitive (l := l) (G := G) (sz := H.size) hi e17) (w_cS 1 hts q_484 q_409 q_410 q_411 rfl rfl (by decide) (by decide)) hl.1 rfl (lv_room (Nat.le_of_ble_eq_true rfl)) dX0_find_108 (fun H locs hw => ?_)
            refine lv_aload_n hx hb dX0_find_111 rfl (lv_at hl 0 rfl) ?_
            refine m_get (k := 3) (C := RX0) (T := TX0) (N := 2) (ref := "LiftFactors$CommonDivisor") (v := .ref (adr 2)) hx hb hi hts inX0_u hown hw (by decide) rfl 1 (by decide) q_494 rfl rfl dX0_find_112 ?_
            refine lv_aload_n hx hb dX0_find_115 rfl (lv_at hl 1 rfl) ?_
            refine lv_aload_n hx hb dX0_find_116 rfl (lv_at hl 3 rfl) ?_
            replace h := bnd h
            obtain ⟨⟨v18, M19⟩, e18, h⟩ := h
            refine m_callVi (k := 2) (As := [.ref (adr a0), .ref (adr a2)]) (rest := []) cx.fix hi hw (cc_X1_divide (l := l) (G := G) (sz := H.size) hi e18) (by decide) rfl rfl (w_cV 2 hts q_495 q_414 q_415 q_416 q_417 rfl rfl (by decide) (by decide)) hl.1 rfl (lv_room (Nat.le_of_ble_eq_true rfl)) dX0_find_117 (fun H locs hw => ?_)
            replace h := bnd h
            obtain ⟨⟨M22, v23⟩, j24, h⟩ := h
            have kj : ∀ (ls : Array Slot) (H : Heap) (locs : List Loc), lv_has ls 10 [(0, .ref (adr 3)), (1, .ref (adr a0)), (2, .ref (adr a1)), (3, .ref (adr a2)), (6, .long (Int64.ofInt v9)), (9, .int (Int32.ofInt v12))] → wH G A s.heap s (LL adr) (wf G adr (tm M22)) H locs → W p l e { frames := 4, cells := 0, slots := 0, locals := 110 } s m args below meth c H locs 0 0 Q (F0 m 140 ls [.int (Int32.ofInt v23)]) := by
              intro ls H locs hl hw
              refine lv_istore (lv' := [(8, .int (Int32.ofInt v23)), (0, .ref (adr 3)), (1, .ref (adr a0)), (2, .ref (adr a1)), (3, .ref (adr a2)), (6, .long (Int64.ofInt v9)), (9, .int (Int32.ofInt v12))]) hx hb dX0_find_140 hl (by decide) rfl (fun ls hl => ?_)
              refine lv_iinc (v := Int32.ofInt (v12 + 1)) (lv' := [(9, .int (Int32.ofInt (v12 + 1))), (8, .int (Int32.ofInt v23)), (0, .ref (adr 3)), (1, .ref (adr a0)), (2, .ref (adr a1)), (3, .ref (adr a2)), (6, .long (Int64.ofInt v9))]) hx hb dX0_find_142 hl (k := 6) rfl (inc_o _ _) (by decide) rfl (fun ls hl => ?_)
              refine lv_goto (tgt := 60) hx hb dX0_find_145 (by decide) ?_
              cases h
              exact k2 _ rfl _ _ _ (lv_sub hl [2, 3, 4, 5, 6, 1, 0] rfl) hw
            clear h
            replace h := j24
            clear j24
            replace h := bnd h
            obtain ⟨_, hg, h⟩ := h
            refine o_if_eq (tgt := 139) hx hb hg dX0_find_120 (by decide) (fun hc => ?_) (fun hc => ?_)
            · replace h := ite_t hc h
              refine lv_iconst (v := Int32.ofInt (0)) hx hb dX0_find_139 rfl ?_
              cases h
              exact kj _ _ _ (lv_sub hl [0, 1, 2, 3, 4, 6] rfl) hw
            · replace h := ite_f hc h
              refine lv_aload_n hx hb dX0_find_123 rfl (lv_at hl 0 rfl) ?_
              refine m_get (k := 3) (C := RX0) (T := TX0) (N := 2) (ref := "LiftFactors$CommonDivisor") (v := .ref (adr 2)) hx hb hi hts inX0_u hown hw (by decide) rfl 1 (by decide) q_494 rfl rfl dX0_find_124 ?_
              refine lv_aload_n hx hb dX0_find_127 rfl (lv_at hl 2 rfl) ?_
              refine lv_aload_n hx hb dX0_find_128 rfl (lv_at hl 3 rfl) ?_
              replace h := bnd h
              obtain ⟨⟨v20, M21⟩, e20, h⟩ := h
              refine m_callVi (k := 2) (As := [.ref (adr a1), .ref (adr a2)]) (rest := []) cx.fix hi hw (cc_X1_divide (l := l) (G := G) (sz := H.size) hi e20) (by decide) rfl rfl (w_cV 2 hts q_495 q_414 q_415 q_416 q_417 rfl rfl (by decide) (by decide)) hl.1 rfl (lv_room (Nat.le_of_ble_eq_true rfl)) dX0_find_129 (fun H locs hw => ?_)
              replace h := bnd h
              obtain ⟨_, hg, h⟩ := h
              refine o_if_eq (tgt := 139) hx hb hg dX0_find_132 (by decide) (fun hc => ?_) (fun hc => ?_)
              · replace h := ite_t hc h
                refine lv_iconst (v := Int32.ofInt (0)) hx hb dX0_find_139 rfl ?_
                cases h
                exact kj _ _ _ (lv_sub hl [0, 1, 2, 3, 4, 6] rfl) hw
              · replace h := ite_f hc h
                refine lv_iconst (v := Int32.ofInt (1)) hx hb dX0_find_135 rfl ?_
                refine lv_goto (tgt := 140) hx hb dX0_find_136 (by decide) ?_
                cases h
                exact kj _ _ _ (lv_sub hl [0, 1, 2, 3, 4, 6] rfl) hw
      · clear hw hl
        intro ls H locs hl hw
        (try dsimp only at hl hw ⊢)
        cases h
        exact kr _ _ _ _ dX0_find_148 hw
    · replace h := ite_f hc h
      refine lv_iload hx hb dX0_find_22 (lv_at hl 1 rfl) ?_
      replace h := bnd h
      obtain ⟨v27, j30, h⟩ := h
      have kj : ∀ (ls : Array Slot) (H : Heap) (locs : List Loc), lv_has ls 10 [(3, .ref (adr a2))] → wH G A s.heap s (LL adr) (wf G adr (tm M)) H locs → W p l e { frames := 4, cells := 0, slots := 0, locals := 110 } s m args below meth c H locs 0 0 Q (F0 m 32 ls [.ref (adr v27)]) := by
        intro ls H locs hl hw
        refine lv_aload_n hx hb dX0_find_32 rfl (lv_at hl 0 rfl) ?_
        replace h := bnd h
        obtain ⟨v28, e28, h⟩ := h
        refine m_callSv (As := [.ref (adr v27), .ref (adr a2)]) (rest := []) cx.fix hw (cc_X5_copy (l := l) (G := G) (sz := H.size) hi e28) (w_cS 2 hts q_483 q_260 q_261 q_262 rfl rfl (by decide) (by decide)) hl.1 rfl (lv_room (Nat.le_of_ble_eq_true rfl)) dX0_find_33 (fun H locs hw => ?_)
        refine lv_aload_n hx hb dX0_find_36 rfl (lv_at hl 0 rfl) ?_
        replace h := bnd h
        obtain ⟨v29, e29, h⟩ := h
        refine m_callSv (As := [.ref (adr a2)]) (rest := []) cx.fix hw (cc_X5_makePrimitive (l := l) (G := G) (sz := H.size) hi e29) (w_cS 1 hts q_484 q_409 q_410 q_411 rfl rfl (by decide) (by decide)) hl.1 rfl (lv_room (Nat.le_of_ble_eq_true rfl)) dX0_find_37 (fun H locs hw => ?_)
        cases h
        exact kr _ _ _ _ dX0_find_40 hw
      clear h
      replace h := j30
      clear j30
      replace h := bnd h
      obtain ⟨_, hg, h⟩ := h
      refine o_if_ge (tgt := 31) hx hb hg dX0_find_24 (by decide) (fun hc => ?_) (fun hc => ?_)
      · replace h := ite_t hc h
        refine lv_aload_n hx hb dX0_find_31 rfl (lv_at hl 3 rfl) ?_
        cases h
        exact kj _ _ _ (lv_sub hl [5] rfl) hw
      · replace h := ite_f hc h
        refine lv_aload_n hx hb dX0_find_27 rfl (lv_at hl 4 rfl) ?_
        refine lv_goto (tgt := 32) hx hb dX0_find_28 (by decide) ?_
        cases h
        exact kj _ _ _ (lv_sub hl [5] rfl) hw
theorem cc_X0_find {l : Launch} {G : gG} {adr : Nat → Nat} {sz : Nat} (hi : adi adr) {n : Nat} {a0 : Nat} {a1 : Nat} {a2 : Nat} {M M' : MI} (h : f_X0_find n a0 a1 a2 M = some M') : pV l yX0_find cX0_find 10 none { frames := 4, cells := 0, slots := 0, locals := 110 } G adr [.ref (adr 3), .ref (adr a0), .ref (adr a1), .ref (adr a2)] (tm M) sz (tm M') := by
  refine yEnter (by decide) (Nat.le_of_ble_eq_true rfl) ?_
  intro p e s m below meth c ls cx hl hsz hw hY
  exact b_X0_find hY cx hi h (fun pc ls H locs hd hw => w_vret (post := fun (u : Mem) => u = tm M') (lf := fun u => (LL adr, wf G adr u)) cx.1 cx.2.1 cx.2.2.1 cx.2.2.2.2.2.2 (tm M') hw rfl hd) hl hw
theorem q_496 : Cond.fieldLink RX2 31 "LiftFactors$Factorizer" "derived" "[J" ∈ uU := uU_in (by decide +kernel) (by decide +kernel)
theorem q_497 : Cond.methodLink RX2 83 yX5_derive ∈ uU := uU_in (by decide +kernel) (by decide +kernel)
theorem q_498 : Cond.static yX5_derive ∈ uU := uU_in (by decide +kernel) (by decide +kernel)
theorem q_499 : Cond.initialized yX5_derive.cls ∈ uU := uU_in (by decide +kernel) (by decide +kernel)
theorem q_500 : Cond.code yX5_derive cX5_derive 3 none ∈ uU := uU_in (by decide +kernel) (by decide +kernel)
theorem q_501 : Cond.fieldLink RX2 45 "LiftFactors$Factorizer" "common" "LLiftFactors$CommonDivisor;" ∈ uU := uU_in (by decide +kernel) (by decide +kernel)
theorem q_502 : Cond.methodLink RX2 86 yX0_find ∈ uU := uU_in (by decide +kernel) (by decide +kernel)
theorem q_503 : Cond.instanceMethod yX0_find ∈ uU := uU_in (by decide +kernel) (by decide +kernel)
theorem q_504 : Cond.selects yX0_find.cls yX0_find yX0_find ∈ uU := uU_in (by decide +kernel) (by decide +kernel)
theorem q_505 : Cond.initialized yX0_find.cls ∈ uU := uU_in (by decide +kernel) (by decide +kernel)
theorem q_506 : Cond.code yX0_find cX0_find 10 none ∈ uU := uU_in (by decide +kernel) (by decide +kernel)
def f_X2_takeSquareFreePart (n : Nat) (a0 : Nat) (M : MI) : Option MI :=
  Option.bind (f_X5_derive n a0 30 M) fun v1 =>
  Option.bind (f_X0_find n a0 30 31 v1) fun v2 =>
  Option.bind (f_X1_divide n a0 31 v2) fun (v3, M4) =>
  Option.bind (f_X5_copy 18 28 M4) fun v5 =>
  some v5
set_option maxRecDepth 100000 in
set_option maxHeartbeats 8000000 in
theorem b_X2_takeSquareFreePart {p : Program} {l : Launch} {e : Env} {s : State} {m : MethodId} {args : Array Value} {below : List Frame} {meth : Method} {c : Code} {Q : State → Prop} {G : gG} {A : Nat → Prop} {adr : Nat → Nat} (hY : tY A s s.heap) (cx : cX p s m args meth c cX2_takeSquareFreePart none 2 yX2_takeSquareFreePart.cls) (hi : adi adr) {n : Nat} {a0 : Nat} {M M' : MI} 
    (h : f_X2_takeSquareFreePart n a0 M = some M')
    (kr : ∀ (pc : Nat) (ls : Array Slot) (H : Heap) (locs : List Loc), decode cX2_takeSquareFreePart pc = .ok (.return_, 1) → wH G A s.heap s (LL adr) (wf G adr (tm M')) H locs → W p l e { frames := 5, cells := 0, slots := 0, locals := 139 } s m args below meth c H locs 0 0 Q (F0 m pc ls []))
    {ls : Array Slot} {H : Heap} {locs : List Loc} (hl : lv_has ls 2 [(0, .ref (adr 5)), (1, .ref (adr a0))]) (hw : wH G A s.heap s (LL adr) (wf G adr (tm M)) H locs) : W p l e { frames := 5, cells := 0, slots := 0, locals := 139 } s m args below meth c H locs 0 0 Q (F0 m 0 ls []) := by
  obtain ⟨hx, hb, -, -, hown, hts, -⟩ := id cx
  have hown : s.vm.findClass RX2 = some m.cls := hown
  obtain ⟨t9, hZ9, hT9, hN9⟩ := hY.2
  unfold f_X2_takeSquareFreePart at h
  refine lv_aload_n hx hb dX2_takeSquareFreePart_0 rfl (lv_at hl 1 rfl) ?_
  refine lv_aload_n hx hb dX2_takeSquareFreePart_1 rfl (lv_at hl 0 rfl) ?_
  refine m_get (k := 5) (C := RX2) (T := TX2) (N := 11) (ref := "LiftFactors$Factorizer") (v := .ref (adr 30)) hx hb hi hts inX2_u hown hw (by decide) rfl 9 (by decide) q_496 rfl rfl dX2_takeSquareFreePart_2 ?_
  replace h := bnd h
  obtain ⟨v1, e1, h⟩ := h
  refine m_callSv (As := [.ref (adr a0), .ref (adr 30)]) (rest := []) cx.fix hw (cc_X5_derive (l := l) (G := G) (sz := H.size) hi e1) (w_cS 2 hts q_497 q_498 q_499 q_500 rfl rfl (by decide) (by decide)) hl.1 rfl (lv_room (Nat.le_of_ble_eq_true rfl)) dX2_takeSquareFreePart_5 (fun H locs hw => ?_)
  refine lv_aload_n hx hb dX2_takeSquareFreePart_8 rfl (lv_at hl 0 rfl) ?_
  refine m_get (k := 5) (C := RX2) (T := TX2) (N := 11) (ref := "LiftFactors$Factorizer") (v := .ref (adr 3)) hx hb hi hts inX2_u hown hw (by decide) rfl 5 (by decide) q_501 rfl rfl dX2_takeSquareFreePart_9 ?_
  refine lv_aload_n hx hb dX2_takeSquareFreePart_12 rfl (lv_at hl 1 rfl) ?_
  refine lv_aload_n hx hb dX2_takeSquareFreePart_13 rfl (lv_at hl 0 rfl) ?_
  refine m_get (k := 5) (C := RX2) (T := TX2) (N := 11) (ref := "LiftFactors$Factorizer") (v := .ref (adr 30)) hx hb hi hts inX2_u hown hw (by decide) rfl 9 (by decide) q_496 rfl rfl dX2_takeSquareFreePart_14 ?_
  refine lv_aload_n hx hb dX2_takeSquareFreePart_17 rfl (lv_at hl 0 rfl) ?_
  refine m_get (k := 5) (C := RX2) (T := TX2) (N := 11) (ref := "LiftFactors$Factorizer") (v := .ref (adr 31)) hx hb hi hts inX2_u hown hw (by decide) rfl 10 (by decide) q_400 rfl rfl dX2_takeSquareFreePart_18 ?_
  replace h := bnd h
  obtain ⟨v2, e2, h⟩ := h
  refine p_callVv (k := 3) (As := [.ref (adr a0), .ref (adr 30), .ref (adr 31)]) (rest := []) cx.fix hi hY hw (cc_X0_find (l := l) (G := G) (sz := H.size) hi e2) (by decide) rfl rfl (w_cV 3 hts q_502 q_503 q_504 q_505 q_506 rfl rfl (by decide) (by decide)) hl.1 rfl (lv_room (Nat.le_of_ble_eq_true rfl)) dX2_takeSquareFreePart_21 (by decide) (fun H locs hw => ?_)
  refine lv_aload_n hx hb dX2_takeSquareFreePart_24 rfl (lv_at hl 0 rfl) ?_
  refine m_get (k := 5) (C := RX2) (T := TX2) (N := 11) (ref := "LiftFactors$Factorizer") (v := .ref (adr 2)) hx hb hi hts inX2_u hown hw (by decide) rfl 4 (by decide) q_412 rfl rfl dX2_takeSquareFreePart_25 ?_
  refine lv_aload_n hx hb dX2_takeSquareFreePart_28 rfl (lv_at hl 1 rfl) ?_
  refine lv_aload_n hx hb dX2_takeSquareFreePart_29 rfl (lv_at hl 0 rfl) ?_
  refine m_get (k := 5) (C := RX2) (T := TX2) (N := 11) (ref := "LiftFactors$Factorizer") (v := .ref (adr 31)) hx hb hi hts inX2_u hown hw (by decide) rfl 10 (by decide) q_400 rfl rfl dX2_takeSquareFreePart_30 ?_
  replace h := bnd h
  obtain ⟨⟨v3, M4⟩, e3, h⟩ := h
  refine m_callVi (k := 2) (As := [.ref (adr a0), .ref (adr 31)]) (rest := []) cx.fix hi hw (cc_X1_divide (l := l) (G := G) (sz := H.size) hi e3) (by decide) rfl rfl (w_cV 2 hts q_413 q_414 q_415 q_416 q_417 rfl rfl (by decide) (by decide)) hl.1 rfl (lv_room (Nat.le_of_ble_eq_true rfl)) dX2_takeSquareFreePart_33 (fun H locs hw => ?_)
  refine lv_pop hx hb dX2_takeSquareFreePart_36 rfl ?_
  refine lv_aload_n hx hb dX2_takeSquareFreePart_37 rfl (lv_at hl 0 rfl) ?_
  refine m_get (k := 5) (C := RX2) (T := TX2) (N := 11) (ref := "LiftFactors$Factorizer") (v := .ref (adr 2)) hx hb hi hts inX2_u hown hw (by decide) rfl 4 (by decide) q_412 rfl rfl dX2_takeSquareFreePart_38 ?_
  refine m_get (k := 2) (C := RX1) (T := TX1) (N := 2) (ref := "LiftFactors$Divider") (v := .ref (adr 18)) hx hb hi hts inX1_u hown hw (by decide) rfl 0 (by decide) q_432 rfl rfl dX2_takeSquareFreePart_41 ?_
  refine lv_aload_n hx hb dX2_takeSquareFreePart_44 rfl (lv_at hl 0 rfl) ?_
  refine m_get (k := 5) (C := RX2) (T := TX2) (N := 11) (ref := "LiftFactors$Factorizer") (v := .ref (adr 28)) hx hb hi hts inX2_u hown hw (by decide) rfl 7 (by decide) q_388 rfl rfl dX2_takeSquareFreePart_45 ?_
  replace h := bnd h
  obtain ⟨v5, e5, h⟩ := h
  refine m_callSv (As := [.ref (adr 18), .ref (adr 28)]) (rest := []) cx.fix hw (cc_X5_copy (l := l) (G := G) (sz := H.size) hi e5) (w_cS 2 hts q_381 q_260 q_261 q_262 rfl rfl (by decide) (by decide)) hl.1 rfl (lv_room (Nat.le_of_ble_eq_true rfl)) dX2_takeSquareFreePart_48 (fun H locs hw => ?_)
  cases h
  exact kr _ _ _ _ dX2_takeSquareFreePart_51 hw
theorem cc_X2_takeSquareFreePart {l : Launch} {G : gG} {adr : Nat → Nat} {sz : Nat} (hi : adi adr) {n : Nat} {a0 : Nat} {M M' : MI} (h : f_X2_takeSquareFreePart n a0 M = some M') : pV l yX2_takeSquareFreePart cX2_takeSquareFreePart 2 none { frames := 5, cells := 0, slots := 0, locals := 139 } G adr [.ref (adr 5), .ref (adr a0)] (tm M) sz (tm M') := by
  refine yEnter (by decide) (Nat.le_of_ble_eq_true rfl) ?_
  intro p e s m below meth c ls cx hl hsz hw hY
  exact b_X2_takeSquareFreePart hY cx hi h (fun pc ls H locs hd hw => w_vret (post := fun (u : Mem) => u = tm M') (lf := fun u => (LL adr, wf G adr u)) cx.1 cx.2.1 cx.2.2.1 cx.2.2.2.2.2.2 (tm M') hw rfl hd) hl hw
theorem q_507 : Cond.methodLink RX2 59 yX2_takeSquareFreePart ∈ uU := uU_in (by decide +kernel) (by decide +kernel)
theorem q_508 : Cond.instanceMethod yX2_takeSquareFreePart ∈ uU := uU_in (by decide +kernel) (by decide +kernel)
theorem q_509 : Cond.selects yX2_takeSquareFreePart.cls yX2_takeSquareFreePart yX2_takeSquareFreePart ∈ uU := uU_in (by decide +kernel) (by decide +kernel)
theorem q_510 : Cond.initialized yX2_takeSquareFreePart.cls ∈ uU := uU_in (by decide +kernel) (by decide +kernel)
theorem q_511 : Cond.code yX2_takeSquareFreePart cX2_takeSquareFreePart 2 none ∈ uU := uU_in (by decide +kernel) (by decide +kernel)
theorem q_512 : Cond.methodLink RX2 63 yX3_makeMonic ∈ uU := uU_in (by decide +kernel) (by decide +kernel)
theorem q_513 : Cond.methodLink RX2 69 yX6_findFixed ∈ uU := uU_in (by decide +kernel) (by decide +kernel)
theorem q_514 : Cond.instanceMethod yX6_findFixed ∈ uU := uU_in (by decide +kernel) (by decide +kernel)
theorem q_515 : Cond.selects yX6_findFixed.cls yX6_findFixed yX6_findFixed ∈ uU := uU_in (by decide +kernel) (by decide +kernel)
theorem q_516 : Cond.initialized yX6_findFixed.cls ∈ uU := uU_in (by decide +kernel) (by decide +kernel)
theorem q_517 : Cond.code yX6_findFixed cX6_findFixed 5 none ∈ uU := uU_in (by decide +kernel) (by decide +kernel)
theorem q_518 : Cond.methodLink RX2 74 yX6_split ∈ uU := uU_in (by decide +kernel) (by decide +kernel)
theorem q_519 : Cond.instanceMethod yX6_split ∈ uU := uU_in (by decide +kernel) (by decide +kernel)
theorem q_520 : Cond.selects yX6_split.cls yX6_split yX6_split ∈ uU := uU_in (by decide +kernel) (by decide +kernel)
theorem q_521 : Cond.initialized yX6_split.cls ∈ uU := uU_in (by decide +kernel) (by decide +kernel)
theorem q_522 : Cond.code yX6_split cX6_split 6 none ∈ uU := uU_in (by decide +kernel) (by decide +kernel)
theorem q_523 : Cond.methodLink RX2 77 yX2_joinPieces ∈ uU := uU_in (by decide +kernel) (by decide +kernel)
theorem q_524 : Cond.instanceMethod yX2_joinPieces ∈ uU := uU_in (by decide +kernel) (by decide +kernel)
theorem q_525 : Cond.selects yX2_joinPieces.cls yX2_joinPieces yX2_joinPieces ∈ uU := uU_in (by decide +kernel) (by decide +kernel)
theorem q_526 : Cond.initialized yX2_joinPieces.cls ∈ uU := uU_in (by decide +kernel) (by decide +kernel)
theorem q_527 : Cond.code yX2_joinPieces cX2_joinPieces 6 none ∈ uU := uU_in (by decide +kernel) (by decide +kernel)
theorem q_528 : Cond.methodLink RX2 80 yX2_countMultiplicities ∈ uU := uU_in (by decide +kernel) (by decide +kernel)
theorem q_529 : Cond.instanceMethod yX2_countMultiplicities ∈ uU := uU_in (by decide +kernel) (by decide +kernel)
theorem q_530 : Cond.selects yX2_countMultiplicities.cls yX2_countMultiplicities yX2_countMultiplicities ∈ uU := uU_in (by decide +kernel) (by decide +kernel)
theorem q_531 : Cond.initialized yX2_countMultiplicities.cls ∈ uU := uU_in (by decide +kernel) (by decide +kernel)
theorem q_532 : Cond.code yX2_countMultiplicities cX2_countMultiplicities 4 none ∈ uU := uU_in (by decide +kernel) (by decide +kernel)
def f_X2_findFactors (n : Nat) (a0 : Nat) (M : MI) : Option MI :=
  Option.bind (opI M 5 2 (0)) fun v1 =>
  Option.bind (f_X5_degree n a0 v1) fun v2 =>
  Option.bind (gI v2 (1)) fun _ =>
  if (1) ≤ v2 then
    Option.bind (f_X2_takeSquareFreePart n a0 v1) fun v3 =>
    Option.bind (f_X3_makeMonic n 28 29 v3) fun v4 =>
    Option.bind (f_X6_findFixed n 29 v4) fun v5 =>
    Option.bind (f_X6_split n 29 v5) fun v6 =>
    Option.bind (f_X2_joinPieces n v6) fun v7 =>
    Option.bind (f_X2_countMultiplicities n a0 v7) fun v8 =>
    some v8
  else
    some v1
set_option maxRecDepth 100000 in
set_option maxHeartbeats 8000000 in
theorem b_X2_findFactors {p : Program} {l : Launch} {e : Env} {s : State} {m : MethodId} {args : Array Value} {below : List Frame} {meth : Method} {c : Code} {Q : State → Prop} {G : gG} {A : Nat → Prop} {adr : Nat → Nat} (hY : tY A s s.heap) (cx : cX p s m args meth c cX2_findFactors none 2 yX2_findFactors.cls) (hi : adi adr) {n : Nat} {a0 : Nat} {M M' : MI} 
    (h : f_X2_findFactors n a0 M = some M')
    (kr : ∀ (pc : Nat) (ls : Array Slot) (H : Heap) (locs : List Loc), decode cX2_findFactors pc = .ok (.return_, 1) → wH G A s.heap s (LL adr) (wf G adr (tm M')) H locs → W p l e { frames := 6, cells := 0, slots := 0, locals := 160 } s m args below meth c H locs 0 0 Q (F0 m pc ls []))
    {ls : Array Slot} {H : Heap} {locs : List Loc} (hl : lv_has ls 2 [(0, .ref (adr 5)), (1, .ref (adr a0))]) (hw : wH G A s.heap s (LL adr) (wf G adr (tm M)) H locs) : W p l e { frames := 6, cells := 0, slots := 0, locals := 160 } s m args below meth c H locs 0 0 Q (F0 m 0 ls []) := by
  obtain ⟨hx, hb, -, -, hown, hts, -⟩ := id cx
  have hown : s.vm.findClass RX2 = some m.cls := hown
  obtain ⟨t9, hZ9, hT9, hN9⟩ := hY.2
  unfold f_X2_findFactors at h
  refine lv_aload_n hx hb dX2_findFactors_0 rfl (lv_at hl 0 rfl) ?_
  refine lv_iconst (v := Int32.ofInt (0)) hx hb dX2_findFactors_1 rfl ?_
  replace h := bnd h
  obtain ⟨v1, e1, h⟩ := h
  refine o_putI (k := 5) (C := RX2) (T := TX2) (N := 11) (ref := "LiftFactors$Factorizer") hx hb hi hts inX2_u tyX2 tyX2_ok nmX2 hown hw (by decide) rfl 2 (by decide) q_375 rfl rfl e1 (by decide +kernel) rfl dX2_findFactors_2 (fun H locs hw => ?_)
  refine lv_aload_n hx hb dX2_findFactors_5 rfl (lv_at hl 1 rfl) ?_
  replace h := bnd h
  obtain ⟨v2, e2, h⟩ := h
  refine m_callSi (As := [.ref (adr a0)]) (rest := []) cx.fix hw (cc_X5_degree (l := l) (G := G) (sz := H.size) hi e2) (w_cS 1 hts q_390 q_246 q_247 q_248 rfl rfl (by decide) (by decide)) hl.1 rfl (lv_room (Nat.le_of_ble_eq_true rfl)) dX2_findFactors_6 (fun H locs hw => ?_)
  refine lv_iconst (v := Int32.ofInt (1)) hx hb dX2_findFactors_9 rfl ?_
  replace h := bnd h
  obtain ⟨_, hg, h⟩ := h
  refine o_icmp_ge (tgt := 14) hx hb hg dX2_findFactors_10 (by decide) (fun hc => ?_) (fun hc => ?_)
  · replace h := ite_t hc h
    refine lv_aload_n hx hb dX2_findFactors_14 rfl (lv_at hl 0 rfl) ?_
    refine lv_aload_n hx hb dX2_findFactors_15 rfl (lv_at hl 1 rfl) ?_
    replace h := bnd h
    obtain ⟨v3, e3, h⟩ := h
    refine p_callVv (k := 5) (As := [.ref (adr a0)]) (rest := []) cx.fix hi hY hw (cc_X2_takeSquareFreePart (l := l) (G := G) (sz := H.size) hi e3) (by decide) rfl rfl (w_cV 1 hts q_507 q_508 q_509 q_510 q_511 rfl rfl (by decide) (by decide)) hl.1 rfl (lv_room (Nat.le_of_ble_eq_true rfl)) dX2_findFactors_16 (by decide) (fun H locs hw => ?_)
    refine lv_aload_n hx hb dX2_findFactors_19 rfl (lv_at hl 0 rfl) ?_
    refine m_get (k := 5) (C := RX2) (T := TX2) (N := 11) (ref := "LiftFactors$Factorizer") (v := .ref (adr 1)) hx hb hi hts inX2_u hown hw (by decide) rfl 3 (by decide) q_385 rfl rfl dX2_findFactors_20 ?_
    refine lv_aload_n hx hb dX2_findFactors_23 rfl (lv_at hl 0 rfl) ?_
    refine m_get (k := 5) (C := RX2) (T := TX2) (N := 11) (ref := "LiftFactors$Factorizer") (v := .ref (adr 28)) hx hb hi hts inX2_u hown hw (by decide) rfl 7 (by decide) q_388 rfl rfl dX2_findFactors_24 ?_
    refine lv_aload_n hx hb dX2_findFactors_27 rfl (lv_at hl 0 rfl) ?_
    refine m_get (k := 5) (C := RX2) (T := TX2) (N := 11) (ref := "LiftFactors$Factorizer") (v := .ref (adr 29)) hx hb hi hts inX2_u hown hw (by decide) rfl 8 (by decide) q_389 rfl rfl dX2_findFactors_28 ?_
    replace h := bnd h
    obtain ⟨v4, e4, h⟩ := h
    refine m_callVv (k := 1) (As := [.ref (adr 28), .ref (adr 29)]) (rest := []) cx.fix hi hw (cc_X3_makeMonic (l := l) (G := G) (sz := H.size) hi e4) (by decide) rfl rfl (w_cV 2 hts q_512 q_301 q_302 q_303 q_304 rfl rfl (by decide) (by decide)) hl.1 rfl (lv_room (Nat.le_of_ble_eq_true rfl)) dX2_findFactors_31 (fun H locs hw => ?_)
    refine lv_aload_n hx hb dX2_findFactors_34 rfl (lv_at hl 0 rfl) ?_
    refine m_get (k := 5) (C := RX2) (T := TX2) (N := 11) (ref := "LiftFactors$Factorizer") (v := .ref (adr 4)) hx hb hi hts inX2_u hown hw (by decide) rfl 6 (by decide) q_382 rfl rfl dX2_findFactors_35 ?_
    refine lv_aload_n hx hb dX2_findFactors_38 rfl (lv_at hl 0 rfl) ?_
    refine m_get (k := 5) (C := RX2) (T := TX2) (N := 11) (ref := "LiftFactors$Factorizer") (v := .ref (adr 29)) hx hb hi hts inX2_u hown hw (by decide) rfl 8 (by decide) q_389 rfl rfl dX2_findFactors_39 ?_
    replace h := bnd h
    obtain ⟨v5, e5, h⟩ := h
    refine m_callVv (k := 4) (As := [.ref (adr 29)]) (rest := []) cx.fix hi hw (cc_X6_findFixed (l := l) (G := G) (sz := H.size) hi e5) (by decide) rfl rfl (w_cV 1 hts q_513 q_514 q_515 q_516 q_517 rfl rfl (by decide) (by decide)) hl.1 rfl (lv_room (Nat.le_of_ble_eq_true rfl)) dX2_findFactors_42 (fun H locs hw => ?_)
    refine lv_aload_n hx hb dX2_findFactors_45 rfl (lv_at hl 0 rfl) ?_
    refine m_get (k := 5) (C := RX2) (T := TX2) (N := 11) (ref := "LiftFactors$Factorizer") (v := .ref (adr 4)) hx hb hi hts inX2_u hown hw (by decide) rfl 6 (by decide) q_382 rfl rfl dX2_findFactors_46 ?_
    refine lv_aload_n hx hb dX2_findFactors_49 rfl (lv_at hl 0 rfl) ?_
    refine m_get (k := 5) (C := RX2) (T := TX2) (N := 11) (ref := "LiftFactors$Factorizer") (v := .ref (adr 29)) hx hb hi hts inX2_u hown hw (by decide) rfl 8 (by decide) q_389 rfl rfl dX2_findFactors_50 ?_
    replace h := bnd h
    obtain ⟨v6, e6, h⟩ := h
    refine m_callVv (k := 4) (As := [.ref (adr 29)]) (rest := []) cx.fix hi hw (cc_X6_split (l := l) (G := G) (sz := H.size) hi e6) (by decide) rfl rfl (w_cV 1 hts q_518 q_519 q_520 q_521 q_522 rfl rfl (by decide) (by decide)) hl.1 rfl (lv_room (Nat.le_of_ble_eq_true rfl)) dX2_findFactors_53 (fun H locs hw => ?_)
    refine lv_aload_n hx hb dX2_findFactors_56 rfl (lv_at hl 0 rfl) ?_
    replace h := bnd h
    obtain ⟨v7, e7, h⟩ := h
    refine m_callVv (k := 5) (As := []) (rest := []) cx.fix hi hw (cc_X2_joinPieces (l := l) (G := G) (sz := H.size) hi e7) (by decide) rfl rfl (w_cV 0 hts q_523 q_524 q_525 q_526 q_527 rfl rfl (by decide) (by decide)) hl.1 rfl (lv_room (Nat.le_of_ble_eq_true rfl)) dX2_findFactors_57 (fun H locs hw => ?_)
    refine lv_aload_n hx hb dX2_findFactors_60 rfl (lv_at hl 0 rfl) ?_
    refine lv_aload_n hx hb dX2_findFactors_61 rfl (lv_at hl 1 rfl) ?_
    replace h := bnd h
    obtain ⟨v8, e8, h⟩ := h
    refine m_callVv (k := 5) (As := [.ref (adr a0)]) (rest := []) cx.fix hi hw (cc_X2_countMultiplicities (l := l) (G := G) (sz := H.size) hi e8) (by decide) rfl rfl (w_cV 1 hts q_528 q_529 q_530 q_531 q_532 rfl rfl (by decide) (by decide)) hl.1 rfl (lv_room (Nat.le_of_ble_eq_true rfl)) dX2_findFactors_62 (fun H locs hw => ?_)
    cases h
    exact kr _ _ _ _ dX2_findFactors_65 hw
  · replace h := ite_f hc h
    cases h
    exact kr _ _ _ _ dX2_findFactors_13 hw
theorem cc_X2_findFactors {l : Launch} {G : gG} {adr : Nat → Nat} {sz : Nat} (hi : adi adr) {n : Nat} {a0 : Nat} {M M' : MI} (h : f_X2_findFactors n a0 M = some M') : pV l yX2_findFactors cX2_findFactors 2 none { frames := 6, cells := 0, slots := 0, locals := 160 } G adr [.ref (adr 5), .ref (adr a0)] (tm M) sz (tm M') := by
  refine yEnter (by decide) (Nat.le_of_ble_eq_true rfl) ?_
  intro p e s m below meth c ls cx hl hsz hw hY
  exact b_X2_findFactors hY cx hi h (fun pc ls H locs hd hw => w_vret (post := fun (u : Mem) => u = tm M') (lf := fun u => (LL adr, wf G adr u)) cx.1 cx.2.1 cx.2.2.1 cx.2.2.2.2.2.2 (tm M') hw rfl hd) hl hw
