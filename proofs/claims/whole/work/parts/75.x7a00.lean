theorem q_375 : Cond.fieldLink RX2 20 "LiftFactors$Factorizer" "foundCount" "I" ∈ uU := uU_in (by decide +kernel) (by decide +kernel)
theorem q_376 : Cond.fieldLink RX2 11 "LiftFactors$Factorizer" "found" "[[J" ∈ uU := uU_in (by decide +kernel) (by decide +kernel)
theorem q_377 : Cond.methodLink RX2 157 yX5_isBefore ∈ uU := uU_in (by decide +kernel) (by decide +kernel)
theorem q_378 : Cond.static yX5_isBefore ∈ uU := uU_in (by decide +kernel) (by decide +kernel)
theorem q_379 : Cond.initialized yX5_isBefore.cls ∈ uU := uU_in (by decide +kernel) (by decide +kernel)
theorem q_380 : Cond.code yX5_isBefore cX5_isBefore 3 (some .boolean) ∈ uU := uU_in (by decide +kernel) (by decide +kernel)
theorem q_381 : Cond.methodLink RX2 101 yX5_copy ∈ uU := uU_in (by decide +kernel) (by decide +kernel)
def l_X2_add_15 (n : Nat) (a0 : Nat) : MI × Int → Option ((MI × Int) ⊕ (MI × Int)) := fun (M1, v2) =>
  Option.bind (gI v2 0) fun _ =>
  if v2 ≤ 0 then
    some (.inl (M1, v2))
  else
    Option.bind (odA 26 (v2 - (1))) fun v3 =>
    Option.bind (f_X5_isBefore n a0 v3 M1) fun v4 =>
    Option.bind (gI v4 0) fun _ =>
    if v4 = 0 then
      some (.inl (M1, v2))
    else
      Option.bind (odA 26 (v2 - (1))) fun v5 =>
      Option.bind (odA 26 v2) fun v6 =>
      Option.bind (f_X5_copy v5 v6 M1) fun v7 =>
      some (.inr (v7, v2 + (-1)))
def f_X2_add (n : Nat) (a0 : Nat) (M : MI) : Option MI :=
  Option.bind (gI (M.2 5 2) (10)) fun _ =>
  if (M.2 5 2) < (10) then
    Option.bind (lpF (l_X2_add_15 n a0) n (M, M.2 5 2)) fun (M9, v10) =>
    Option.bind (odA 26 v10) fun v11 =>
    Option.bind (f_X5_copy a0 v11 M9) fun v12 =>
    Option.bind (opI v12 5 2 ((v12.2 5 2) + (1))) fun v13 =>
    some v13
  else
    some M
set_option maxRecDepth 100000 in
set_option maxHeartbeats 8000000 in
theorem b_X2_add {p : Program} {l : Launch} {e : Env} {s : State} {m : MethodId} {args : Array Value} {below : List Frame} {meth : Method} {c : Code} {Q : State → Prop} {G : gG} {A : Nat → Prop} {adr : Nat → Nat} (cx : cX p s m args meth c cX2_add none 3 yX2_add.cls) (hi : adi adr) {n : Nat} {a0 : Nat} {M M' : MI} 
    (h : f_X2_add n a0 M = some M')
    (kr : ∀ (pc : Nat) (ls : Array Slot) (H : Heap) (locs : List Loc), decode cX2_add pc = .ok (.return_, 1) → wH G A s.heap s (LL adr) (wf G adr (tm M')) H locs → W p l e { frames := 2, cells := 0, slots := 0, locals := 81 } s m args below meth c H locs 0 0 Q (F0 m pc ls []))
    {ls : Array Slot} {H : Heap} {locs : List Loc} (hl : lv_has ls 3 [(0, .ref (adr 5)), (1, .ref (adr a0))]) (hw : wH G A s.heap s (LL adr) (wf G adr (tm M)) H locs) : W p l e { frames := 2, cells := 0, slots := 0, locals := 81 } s m args below meth c H locs 0 0 Q (F0 m 0 ls []) := by
  obtain ⟨hx, hb, -, -, hown, hts, -⟩ := id cx
  have hown : s.vm.findClass RX2 = some m.cls := hown
  unfold f_X2_add at h
  refine lv_aload_n hx hb dX2_add_0 rfl (lv_at hl 0 rfl) ?_
  refine m_get (k := 5) (C := RX2) (T := TX2) (N := 11) (ref := "LiftFactors$Factorizer") (v := .int (Int32.ofInt (M.2 5 2))) hx hb hi hts inX2_u hown hw (by decide) rfl 2 (by decide) q_375 rfl rfl dX2_add_1 ?_
  refine lv_bipush (v := Int32.ofInt (10)) hx hb dX2_add_4 rfl ?_
  replace h := bnd h
  obtain ⟨_, hg, h⟩ := h
  refine o_icmp_lt (tgt := 10) hx hb hg dX2_add_6 (by decide) (fun hc => ?_) (fun hc => ?_)
  · replace h := ite_t hc h
    refine lv_aload_n hx hb dX2_add_10 rfl (lv_at hl 0 rfl) ?_
    refine m_get (k := 5) (C := RX2) (T := TX2) (N := 11) (ref := "LiftFactors$Factorizer") (v := .int (Int32.ofInt (M.2 5 2))) hx hb hi hts inX2_u hown hw (by decide) rfl 2 (by decide) q_375 rfl rfl dX2_add_11 ?_
    refine lv_istore_n (lv' := [(2, .int (Int32.ofInt (M.2 5 2))), (0, .ref (adr 5)), (1, .ref (adr a0))]) hx hb dX2_add_14 rfl hl (by decide) rfl (fun ls hl => ?_)
    replace h := bnd h
    obtain ⟨⟨M9, v10⟩, j8, h⟩ := h
    refine lp_W (Wst := fun (st : MI × Int) => ∀ (ls : Array Slot) (H : Heap) (locs : List Loc), lv_has ls 3 [(0, .ref (adr 5)), (1, .ref (adr a0)), (2, .int (Int32.ofInt st.2))] → wH G A s.heap s (LL adr) (wf G adr (tm st.1)) H locs → W p l e { frames := 2, cells := 0, slots := 0, locals := 81 } s m args below meth c H locs 0 0 Q (F0 m 15 ls [])) (fin := fun (r : MI × Int) => ∀ (ls : Array Slot) (H : Heap) (locs : List Loc), lv_has ls 3 [(0, .ref (adr 5)), (1, .ref (adr a0)), (2, .int (Int32.ofInt r.2))] → wH G A s.heap s (LL adr) (wf G adr (tm r.1)) H locs → W p l e { frames := 2, cells := 0, slots := 0, locals := 81 } s m args below meth c H locs 0 0 Q (F0 m 57 ls [])) ?_ n _ _ j8 ?_ _ _ _ (lv_sub hl [1, 2, 0] rfl) hw
    · clear h j8 hw hl
      intro ⟨M1, v2⟩ x h k1 k2 ls H locs hl hw
      (try dsimp only at k1 k2 hl hw ⊢)
      unfold l_X2_add_15 at h
      (try dsimp only at h)
      refine lv_iload_n hx hb dX2_add_15 rfl (lv_at hl 2 rfl) ?_
      replace h := bnd h
      obtain ⟨_, hg, h⟩ := h
      refine o_if_le (tgt := 57) hx hb hg dX2_add_16 (by decide) (fun hc => ?_) (fun hc => ?_)
      · replace h := ite_t hc h
        cases h
        exact k1 _ rfl _ _ _ (lv_sub hl [0, 1, 2] rfl) hw
      · replace h := ite_f hc h
        refine lv_aload_n hx hb dX2_add_19 rfl (lv_at hl 1 rfl) ?_
        refine lv_aload_n hx hb dX2_add_20 rfl (lv_at hl 0 rfl) ?_
        refine m_get (k := 5) (C := RX2) (T := TX2) (N := 11) (ref := "LiftFactors$Factorizer") (v := .ref (adr 26)) hx hb hi hts inX2_u hown hw (by decide) rfl 0 (by decide) q_376 rfl rfl dX2_add_21 ?_
        refine lv_iload_n hx hb dX2_add_24 rfl (lv_at hl 2 rfl) ?_
        refine lv_iconst (v := Int32.ofInt (1)) hx hb dX2_add_25 rfl ?_
        refine o_isub hx hb dX2_add_26 ?_
        replace h := bnd h
        obtain ⟨v3, e3, h⟩ := h
        refine o_aald hx hb hi hw e3 dX2_add_27 ?_
        replace h := bnd h
        obtain ⟨v4, e4, h⟩ := h
        refine m_callSi (As := [.ref (adr a0), .ref (adr v3)]) (rest := []) cx.fix hw (cc_X5_isBefore (l := l) (G := G) (sz := H.size) hi e4) (w_cS 2 hts q_377 q_378 q_379 q_380 rfl rfl (by decide) (by decide)) hl.1 rfl (lv_room (Nat.le_of_ble_eq_true rfl)) dX2_add_28 (fun H locs hw => ?_)
        replace h := bnd h
        obtain ⟨_, hg, h⟩ := h
        refine o_if_eq (tgt := 57) hx hb hg dX2_add_31 (by decide) (fun hc => ?_) (fun hc => ?_)
        · replace h := ite_t hc h
          cases h
          exact k1 _ rfl _ _ _ (lv_sub hl [0, 1, 2] rfl) hw
        · replace h := ite_f hc h
          refine lv_aload_n hx hb dX2_add_34 rfl (lv_at hl 0 rfl) ?_
          refine m_get (k := 5) (C := RX2) (T := TX2) (N := 11) (ref := "LiftFactors$Factorizer") (v := .ref (adr 26)) hx hb hi hts inX2_u hown hw (by decide) rfl 0 (by decide) q_376 rfl rfl dX2_add_35 ?_
          refine lv_iload_n hx hb dX2_add_38 rfl (lv_at hl 2 rfl) ?_
          refine lv_iconst (v := Int32.ofInt (1)) hx hb dX2_add_39 rfl ?_
          refine o_isub hx hb dX2_add_40 ?_
          replace h := bnd h
          obtain ⟨v5, e5, h⟩ := h
          refine o_aald hx hb hi hw e5 dX2_add_41 ?_
          refine lv_aload_n hx hb dX2_add_42 rfl (lv_at hl 0 rfl) ?_
          refine m_get (k := 5) (C := RX2) (T := TX2) (N := 11) (ref := "LiftFactors$Factorizer") (v := .ref (adr 26)) hx hb hi hts inX2_u hown hw (by decide) rfl 0 (by decide) q_376 rfl rfl dX2_add_43 ?_
          refine lv_iload_n hx hb dX2_add_46 rfl (lv_at hl 2 rfl) ?_
          replace h := bnd h
          obtain ⟨v6, e6, h⟩ := h
          refine o_aald hx hb hi hw e6 dX2_add_47 ?_
          replace h := bnd h
          obtain ⟨v7, e7, h⟩ := h
          refine m_callSv (As := [.ref (adr v5), .ref (adr v6)]) (rest := []) cx.fix hw (cc_X5_copy (l := l) (G := G) (sz := H.size) hi e7) (w_cS 2 hts q_381 q_260 q_261 q_262 rfl rfl (by decide) (by decide)) hl.1 rfl (lv_room (Nat.le_of_ble_eq_true rfl)) dX2_add_48 (fun H locs hw => ?_)
          refine lv_iinc (v := Int32.ofInt (v2 + (-1))) (lv' := [(2, .int (Int32.ofInt (v2 + (-1)))), (0, .ref (adr 5)), (1, .ref (adr a0))]) hx hb dX2_add_51 hl (k := 2) rfl (inc_o _ _) (by decide) rfl (fun ls hl => ?_)
          refine lv_goto (tgt := 15) hx hb dX2_add_54 (by decide) ?_
          cases h
          exact k2 _ rfl _ _ _ (lv_sub hl [1, 2, 0] rfl) hw
    · clear hw hl
      intro ls H locs hl hw
      (try dsimp only at hl hw ⊢)
      refine lv_aload_n hx hb dX2_add_57 rfl (lv_at hl 1 rfl) ?_
      refine lv_aload_n hx hb dX2_add_58 rfl (lv_at hl 0 rfl) ?_
      refine m_get (k := 5) (C := RX2) (T := TX2) (N := 11) (ref := "LiftFactors$Factorizer") (v := .ref (adr 26)) hx hb hi hts inX2_u hown hw (by decide) rfl 0 (by decide) q_376 rfl rfl dX2_add_59 ?_
      refine lv_iload_n hx hb dX2_add_62 rfl (lv_at hl 2 rfl) ?_
      replace h := bnd h
      obtain ⟨v11, e11, h⟩ := h
      refine o_aald hx hb hi hw e11 dX2_add_63 ?_
      replace h := bnd h
      obtain ⟨v12, e12, h⟩ := h
      refine m_callSv (As := [.ref (adr a0), .ref (adr v11)]) (rest := []) cx.fix hw (cc_X5_copy (l := l) (G := G) (sz := H.size) hi e12) (w_cS 2 hts q_381 q_260 q_261 q_262 rfl rfl (by decide) (by decide)) hl.1 rfl (lv_room (Nat.le_of_ble_eq_true rfl)) dX2_add_64 (fun H locs hw => ?_)
      refine lv_aload_n hx hb dX2_add_67 rfl (lv_at hl 0 rfl) ?_
      refine lv_dup hx hb dX2_add_68 rfl ?_
      refine m_get (k := 5) (C := RX2) (T := TX2) (N := 11) (ref := "LiftFactors$Factorizer") (v := .int (Int32.ofInt (v12.2 5 2))) hx hb hi hts inX2_u hown hw (by decide) rfl 2 (by decide) q_375 rfl rfl dX2_add_69 ?_
      refine lv_iconst (v := Int32.ofInt (1)) hx hb dX2_add_72 rfl ?_
      refine o_iadd hx hb dX2_add_73 ?_
      replace h := bnd h
      obtain ⟨v13, e13, h⟩ := h
      refine o_putI (k := 5) (C := RX2) (T := TX2) (N := 11) (ref := "LiftFactors$Factorizer") hx hb hi hts inX2_u tyX2 tyX2_ok nmX2 hown hw (by decide) rfl 2 (by decide) q_375 rfl rfl e13 (by decide +kernel) rfl dX2_add_74 (fun H locs hw => ?_)
      cases h
      exact kr _ _ _ _ dX2_add_77 hw
  · replace h := ite_f hc h
    cases h
    exact kr _ _ _ _ dX2_add_9 hw
theorem cc_X2_add {l : Launch} {G : gG} {adr : Nat → Nat} {sz : Nat} (hi : adi adr) {n : Nat} {a0 : Nat} {M M' : MI} (h : f_X2_add n a0 M = some M') : mV l yX2_add cX2_add 3 none { frames := 2, cells := 0, slots := 0, locals := 81 } G adr [.ref (adr 5), .ref (adr a0)] (tm M) sz (tm M') := by
  refine wEnter (by decide) (Nat.le_of_ble_eq_true rfl) ?_
  intro p e s m below meth c ls cx hinit hl hsz hw
  exact b_X2_add cx hi h (fun pc ls H locs hd hw => w_vret (post := fun (u : Mem) => u = tm M') (lf := fun u => (LL adr, wf G adr u)) cx.1 cx.2.1 cx.2.2.1 cx.2.2.2.2.2.2 (tm M') hw rfl hd) hl hw
theorem q_382 : Cond.fieldLink RX2 49 "LiftFactors$Factorizer" "splitter" "LLiftFactors$Splitter;" ∈ uU := uU_in (by decide +kernel) (by decide +kernel)
theorem q_383 : Cond.fieldLink RX2 104 "LiftFactors$Splitter" "pieceCount" "I" ∈ uU := uU_in (by decide +kernel) (by decide +kernel)
theorem q_384 : Cond.fieldLink RX2 136 "LiftFactors$Splitter" "pieces" "[[J" ∈ uU := uU_in (by decide +kernel) (by decide +kernel)
theorem q_385 : Cond.fieldLink RX2 37 "LiftFactors$Factorizer" "field" "LLiftFactors$Field;" ∈ uU := uU_in (by decide +kernel) (by decide +kernel)
theorem q_386 : Cond.fieldLink RX2 149 "LiftFactors$Field" "prime" "J" ∈ uU := uU_in (by decide +kernel) (by decide +kernel)
theorem q_387 : Cond.methodLink RX2 153 yX3_nearest ∈ uU := uU_in (by decide +kernel) (by decide +kernel)
theorem q_388 : Cond.fieldLink RX2 24 "LiftFactors$Factorizer" "left" "[J" ∈ uU := uU_in (by decide +kernel) (by decide +kernel)
def l_X2_tailFits_6 (a0 : Int) (M : MI) : Int × Int → Option ((Int) ⊕ (Int × Int)) := fun (v1, v2) =>
  Option.bind (gI v2 (M.2 4 1)) fun _ =>
  if (M.2 4 1) ≤ v2 then
    some (.inl v1)
  else
    Option.bind (
      Option.bind (gI (oandI (oshrI a0 v2) (1)) (1)) fun _ =>
      if (oandI (oshrI a0 v2) (1)) = (1) then
        Option.bind (odA 20 v2) fun v3 =>
        Option.bind (odJ M v3 (0)) fun v4 =>
        Option.bind (orJ (v1 * v4) (M.1 1 0)) fun v5 =>
        some v5
      else
        some v1) fun v6 =>
    some (.inr (v6, v2 + 1))
def f_X2_tailFits (n : Nat) (a0 : Int) (a1 : Int) (M : MI) : Option Int :=
  Option.bind (lpF (l_X2_tailFits_6 a0 M) n (a1, (0))) fun v9 =>
  Option.bind (f_X3_nearest v9 M) fun v10 =>
  Option.bind (
    Option.bind (gJ v10 (0)) fun _ =>
    if v10 = (0) then
      Option.bind (odJ M 28 (0)) fun v13 =>
      Option.bind (gJ v13 (0)) fun _ =>
      if v13 = (0) then
        some (1)
      else
        some (0)
    else
      Option.bind (odJ M 28 (0)) fun v11 =>
      Option.bind (orJ (a1 * v11) v10) fun v12 =>
      Option.bind (gJ v12 (0)) fun _ =>
      if v12 = (0) then
        some (1)
      else
        some (0)) fun v14 =>
  Option.bind (obz v14) fun v15 =>
  some v15
set_option maxRecDepth 100000 in
set_option maxHeartbeats 8000000 in
theorem b_X2_tailFits {p : Program} {l : Launch} {e : Env} {s : State} {m : MethodId} {args : Array Value} {below : List Frame} {meth : Method} {c : Code} {Q : State → Prop} {G : gG} {A : Nat → Prop} {adr : Nat → Nat} (cx : cX p s m args meth c cX2_tailFits (some .boolean) 7 yX2_tailFits.cls) (hi : adi adr) {n : Nat} {a0 : Int} {a1 : Int} {M : MI} {r : Int} 
    (h : f_X2_tailFits n a0 a1 M = some r)
    (kr : ∀ (pc : Nat) (ls : Array Slot) (H : Heap) (locs : List Loc), decode cX2_tailFits pc = .ok (.ireturn, 1) → narrow .boolean (.int (Int32.ofInt r)) = .int (Int32.ofInt r) → wH G A s.heap s (LL adr) (wf G adr (tm M)) H locs → W p l e { frames := 2, cells := 0, slots := 0, locals := 49 } s m args below meth c H locs 0 0 Q (F0 m pc ls [.int (Int32.ofInt r)]))
    {ls : Array Slot} {H : Heap} {locs : List Loc} (hl : lv_has ls 7 [(0, .ref (adr 5)), (1, .int (Int32.ofInt a0)), (2, .long (Int64.ofInt a1))]) (hw : wH G A s.heap s (LL adr) (wf G adr (tm M)) H locs) : W p l e { frames := 2, cells := 0, slots := 0, locals := 49 } s m args below meth c H locs 0 0 Q (F0 m 0 ls []) := by
  obtain ⟨hx, hb, -, -, hown, hts, -⟩ := id cx
  have hown : s.vm.findClass RX2 = some m.cls := hown
  unfold f_X2_tailFits at h
  refine lv_lload_n hx hb dX2_tailFits_0 rfl (lv_at hl 2 rfl) ?_
  refine lv_lstore (lv' := [(4, .long (Int64.ofInt a1)), (0, .ref (adr 5)), (1, .int (Int32.ofInt a0)), (2, .long (Int64.ofInt a1))]) hx hb dX2_tailFits_1 hl (by decide) rfl (fun ls hl => ?_)
  refine lv_iconst (v := Int32.ofInt (0)) hx hb dX2_tailFits_3 rfl ?_
  refine lv_istore (lv' := [(6, .int (Int32.ofInt (0))), (4, .long (Int64.ofInt a1)), (0, .ref (adr 5)), (1, .int (Int32.ofInt a0)), (2, .long (Int64.ofInt a1))]) hx hb dX2_tailFits_4 hl (by decide) rfl (fun ls hl => ?_)
  replace h := bnd h
  obtain ⟨v9, j8, h⟩ := h
  refine lp_W (Wst := fun (st : Int × Int) => ∀ (ls : Array Slot) (H : Heap) (locs : List Loc), lv_has ls 7 [(0, .ref (adr 5)), (1, .int (Int32.ofInt a0)), (2, .long (Int64.ofInt a1)), (4, .long (Int64.ofInt st.1)), (6, .int (Int32.ofInt st.2))] → wH G A s.heap s (LL adr) (wf G adr (tm M)) H locs → W p l e { frames := 2, cells := 0, slots := 0, locals := 49 } s m args below meth c H locs 0 0 Q (F0 m 6 ls [])) (fin := fun (r : Int) => ∀ (ls : Array Slot) (H : Heap) (locs : List Loc), lv_has ls 7 [(0, .ref (adr 5)), (2, .long (Int64.ofInt a1)), (4, .long (Int64.ofInt r))] → wH G A s.heap s (LL adr) (wf G adr (tm M)) H locs → W p l e { frames := 2, cells := 0, slots := 0, locals := 49 } s m args below meth c H locs 0 0 Q (F0 m 59 ls [])) ?_ n _ _ j8 ?_ _ _ _ (lv_sub hl [2, 3, 4, 1, 0] rfl) hw
  · clear h j8 hw hl
    intro ⟨v1, v2⟩ x h k1 k2 ls H locs hl hw
    (try dsimp only at k1 k2 hl hw ⊢)
    unfold l_X2_tailFits_6 at h
    (try dsimp only at h)
    refine lv_iload hx hb dX2_tailFits_6 (lv_at hl 4 rfl) ?_
    refine lv_aload_n hx hb dX2_tailFits_8 rfl (lv_at hl 0 rfl) ?_
    refine m_get (k := 5) (C := RX2) (T := TX2) (N := 11) (ref := "LiftFactors$Factorizer") (v := .ref (adr 4)) hx hb hi hts inX2_u hown hw (by decide) rfl 6 (by decide) q_382 rfl rfl dX2_tailFits_9 ?_
    refine m_get (k := 4) (C := RX6) (T := TX6) (N := 9) (ref := "LiftFactors$Splitter") (v := .int (Int32.ofInt (M.2 4 1))) hx hb hi hts inX6_u hown hw (by decide) rfl 1 (by decide) q_383 rfl rfl dX2_tailFits_12 ?_
    replace h := bnd h
    obtain ⟨_, hg, h⟩ := h
    refine o_icmp_ge (tgt := 59) hx hb hg dX2_tailFits_15 (by decide) (fun hc => ?_) (fun hc => ?_)
    · replace h := ite_t hc h
      cases h
      exact k1 _ rfl _ _ _ (lv_sub hl [0, 2, 3] rfl) hw
    · replace h := ite_f hc h
      refine lv_iload_n hx hb dX2_tailFits_18 rfl (lv_at hl 1 rfl) ?_
      refine lv_iload hx hb dX2_tailFits_19 (lv_at hl 4 rfl) ?_
      refine o_ishr hx hb dX2_tailFits_21 ?_
      refine lv_iconst (v := Int32.ofInt (1)) hx hb dX2_tailFits_22 rfl ?_
      refine o_iand hx hb dX2_tailFits_23 ?_
      refine lv_iconst (v := Int32.ofInt (1)) hx hb dX2_tailFits_24 rfl ?_
      replace h := bnd h
      obtain ⟨v6, j7, h⟩ := h
      have kj : ∀ (ls : Array Slot) (H : Heap) (locs : List Loc), lv_has ls 7 [(0, .ref (adr 5)), (1, .int (Int32.ofInt a0)), (2, .long (Int64.ofInt a1)), (4, .long (Int64.ofInt v6)), (6, .int (Int32.ofInt v2))] → wH G A s.heap s (LL adr) (wf G adr (tm M)) H locs → W p l e { frames := 2, cells := 0, slots := 0, locals := 49 } s m args below meth c H locs 0 0 Q (F0 m 53 ls []) := by
        intro ls H locs hl hw
        refine lv_iinc (v := Int32.ofInt (v2 + 1)) (lv' := [(6, .int (Int32.ofInt (v2 + 1))), (0, .ref (adr 5)), (1, .int (Int32.ofInt a0)), (2, .long (Int64.ofInt a1)), (4, .long (Int64.ofInt v6))]) hx hb dX2_tailFits_53 hl (k := 4) rfl (inc_o _ _) (by decide) rfl (fun ls hl => ?_)
        refine lv_goto (tgt := 6) hx hb dX2_tailFits_56 (by decide) ?_
        cases h
        exact k2 _ rfl _ _ _ (lv_sub hl [1, 2, 3, 4, 0] rfl) hw
      clear h
      replace h := j7
      clear j7
      replace h := bnd h
      obtain ⟨_, hg, h⟩ := h
      refine o_icmp_ne (tgt := 53) hx hb hg dX2_tailFits_25 (by decide) (fun hc => ?_) (fun hc => ?_)
      · replace h := ite_f hc h
        cases h
        exact kj _ _ _ (lv_sub hl [0, 1, 2, 3, 4] rfl) hw
      · replace h := ite_t hc h
        refine lv_lload hx hb dX2_tailFits_28 (lv_at hl 3 rfl) ?_
        refine lv_aload_n hx hb dX2_tailFits_30 rfl (lv_at hl 0 rfl) ?_
        refine m_get (k := 5) (C := RX2) (T := TX2) (N := 11) (ref := "LiftFactors$Factorizer") (v := .ref (adr 4)) hx hb hi hts inX2_u hown hw (by decide) rfl 6 (by decide) q_382 rfl rfl dX2_tailFits_31 ?_
        refine m_get (k := 4) (C := RX6) (T := TX6) (N := 9) (ref := "LiftFactors$Splitter") (v := .ref (adr 20)) hx hb hi hts inX6_u hown hw (by decide) rfl 0 (by decide) q_384 rfl rfl dX2_tailFits_34 ?_
        refine lv_iload hx hb dX2_tailFits_37 (lv_at hl 4 rfl) ?_
        replace h := bnd h
        obtain ⟨v3, e3, h⟩ := h
        refine o_aald hx hb hi hw e3 dX2_tailFits_39 ?_
        refine lv_iconst (v := Int32.ofInt (0)) hx hb dX2_tailFits_40 rfl ?_
        replace h := bnd h
        obtain ⟨v4, e4, h⟩ := h
        refine o_lald hx hb hi hw e4 dX2_tailFits_41 ?_
        refine o_lmul hx hb dX2_tailFits_42 ?_
        refine lv_aload_n hx hb dX2_tailFits_43 rfl (lv_at hl 0 rfl) ?_
        refine m_get (k := 5) (C := RX2) (T := TX2) (N := 11) (ref := "LiftFactors$Factorizer") (v := .ref (adr 1)) hx hb hi hts inX2_u hown hw (by decide) rfl 3 (by decide) q_385 rfl rfl dX2_tailFits_44 ?_
        refine m_get (k := 1) (C := RX3) (T := TX3) (N := 5) (ref := "LiftFactors$Field") (v := .long (Int64.ofInt (M.1 1 0))) hx hb hi hts inX3_u hown hw (by decide) rfl 0 (by decide) q_386 rfl rfl dX2_tailFits_47 ?_
        replace h := bnd h
        obtain ⟨v5, e5, h⟩ := h
        refine o_lrem hx hb e5 dX2_tailFits_50 ?_
        refine lv_lstore (lv' := [(4, .long (Int64.ofInt v5)), (0, .ref (adr 5)), (1, .int (Int32.ofInt a0)), (2, .long (Int64.ofInt a1)), (6, .int (Int32.ofInt v2))]) hx hb dX2_tailFits_51 hl (by decide) rfl (fun ls hl => ?_)
        cases h
        exact kj _ _ _ (lv_sub hl [1, 2, 3, 0, 4] rfl) hw
  · clear hw hl
    intro ls H locs hl hw
    (try dsimp only at hl hw ⊢)
    refine lv_aload_n hx hb dX2_tailFits_59 rfl (lv_at hl 0 rfl) ?_
    refine m_get (k := 5) (C := RX2) (T := TX2) (N := 11) (ref := "LiftFactors$Factorizer") (v := .ref (adr 1)) hx hb hi hts inX2_u hown hw (by decide) rfl 3 (by decide) q_385 rfl rfl dX2_tailFits_60 ?_
    refine lv_lload hx hb dX2_tailFits_63 (lv_at hl 2 rfl) ?_
    replace h := bnd h
    obtain ⟨v10, e10, h⟩ := h
    refine m_callVl (k := 1) (As := [.long (Int64.ofInt v9)]) (rest := []) cx.fix hi hw (cc_X3_nearest (l := l) (G := G) (sz := H.size) hi e10) (by decide) rfl rfl (w_cV 1 hts q_387 q_312 q_313 q_314 q_315 rfl rfl (by decide) (by decide)) hl.1 rfl (lv_room (Nat.le_of_ble_eq_true rfl)) dX2_tailFits_65 (fun H locs hw => ?_)
    refine lv_lstore (lv' := [(4, .long (Int64.ofInt v10)), (0, .ref (adr 5)), (2, .long (Int64.ofInt a1))]) hx hb dX2_tailFits_68 hl (by decide) rfl (fun ls hl => ?_)
    refine lv_lload hx hb dX2_tailFits_70 (lv_at hl 0 rfl) ?_
    refine lv_lconst (v := Int64.ofInt (0)) hx hb dX2_tailFits_72 (by decide) ?_
    replace h := bnd h
    obtain ⟨v14, j16, h⟩ := h
    have kj : ∀ (ls : Array Slot) (H : Heap) (locs : List Loc), lv_has ls 7 [] → wH G A s.heap s (LL adr) (wf G adr (tm M)) H locs → W p l e { frames := 2, cells := 0, slots := 0, locals := 49 } s m args below meth c H locs 0 0 Q (F0 m 117 ls [.int (Int32.ofInt v14)]) := by
      intro ls H locs hl hw
      replace h := bnd h
      obtain ⟨v15, eZ, h⟩ := h
      obtain ⟨rfl, eZ⟩ := obz_ok eZ
      cases h
      exact kr _ _ _ _ dX2_tailFits_117 eZ hw
    clear h
    replace h := j16
    clear j16
    replace h := bnd h
    obtain ⟨_, hg, h⟩ := h
    refine o_lcmp_ne (tgt := 96) hx hb hg dX2_tailFits_73 dX2_tailFits_74 (by decide) (fun hc => ?_) (fun hc => ?_)
    · replace h := ite_f hc h
      refine lv_lload_n hx hb dX2_tailFits_96 rfl (lv_at hl 2 rfl) ?_
      refine lv_aload_n hx hb dX2_tailFits_97 rfl (lv_at hl 1 rfl) ?_
      refine m_get (k := 5) (C := RX2) (T := TX2) (N := 11) (ref := "LiftFactors$Factorizer") (v := .ref (adr 28)) hx hb hi hts inX2_u hown hw (by decide) rfl 7 (by decide) q_388 rfl rfl dX2_tailFits_98 ?_
      refine lv_iconst (v := Int32.ofInt (0)) hx hb dX2_tailFits_101 rfl ?_
      replace h := bnd h
      obtain ⟨v11, e11, h⟩ := h
      refine o_lald hx hb hi hw e11 dX2_tailFits_102 ?_
      refine o_lmul hx hb dX2_tailFits_103 ?_
      refine lv_lload hx hb dX2_tailFits_104 (lv_at hl 0 rfl) ?_
      replace h := bnd h
      obtain ⟨v12, e12, h⟩ := h
      refine o_lrem hx hb e12 dX2_tailFits_106 ?_
      refine lv_lconst (v := Int64.ofInt (0)) hx hb dX2_tailFits_107 (by decide) ?_
      replace h := bnd h
      obtain ⟨_, hg, h⟩ := h
      refine o_lcmp_ne (tgt := 116) hx hb hg dX2_tailFits_108 dX2_tailFits_109 (by decide) (fun hc => ?_) (fun hc => ?_)
      · replace h := ite_f hc h
        refine lv_iconst (v := Int32.ofInt (0)) hx hb dX2_tailFits_116 rfl ?_
        cases h
        exact kj _ _ _ (lv_sub hl [] rfl) hw
      · replace h := ite_t hc h
        refine lv_iconst (v := Int32.ofInt (1)) hx hb dX2_tailFits_112 rfl ?_
        refine lv_goto (tgt := 117) hx hb dX2_tailFits_113 (by decide) ?_
        cases h
        exact kj _ _ _ (lv_sub hl [] rfl) hw
    · replace h := ite_t hc h
      refine lv_aload_n hx hb dX2_tailFits_77 rfl (lv_at hl 1 rfl) ?_
      refine m_get (k := 5) (C := RX2) (T := TX2) (N := 11) (ref := "LiftFactors$Factorizer") (v := .ref (adr 28)) hx hb hi hts inX2_u hown hw (by decide) rfl 7 (by decide) q_388 rfl rfl dX2_tailFits_78 ?_
      refine lv_iconst (v := Int32.ofInt (0)) hx hb dX2_tailFits_81 rfl ?_
      replace h := bnd h
      obtain ⟨v13, e13, h⟩ := h
      refine o_lald hx hb hi hw e13 dX2_tailFits_82 ?_
      refine lv_lconst (v := Int64.ofInt (0)) hx hb dX2_tailFits_83 (by decide) ?_
      replace h := bnd h
      obtain ⟨_, hg, h⟩ := h
      refine o_lcmp_ne (tgt := 92) hx hb hg dX2_tailFits_84 dX2_tailFits_85 (by decide) (fun hc => ?_) (fun hc => ?_)
      · replace h := ite_f hc h
        refine lv_iconst (v := Int32.ofInt (0)) hx hb dX2_tailFits_92 rfl ?_
        refine lv_goto (tgt := 117) hx hb dX2_tailFits_93 (by decide) ?_
        cases h
        exact kj _ _ _ (lv_sub hl [] rfl) hw
      · replace h := ite_t hc h
        refine lv_iconst (v := Int32.ofInt (1)) hx hb dX2_tailFits_88 rfl ?_
        refine lv_goto (tgt := 117) hx hb dX2_tailFits_89 (by decide) ?_
        cases h
        exact kj _ _ _ (lv_sub hl [] rfl) hw
theorem cc_X2_tailFits {l : Launch} {G : gG} {adr : Nat → Nat} {sz : Nat} (hi : adi adr) {n : Nat} {a0 : Int} {a1 : Int} {M : MI} {r : Int} (h : f_X2_tailFits n a0 a1 M = some r) : mI l yX2_tailFits cX2_tailFits 7 (some .boolean) { frames := 2, cells := 0, slots := 0, locals := 49 } G adr [.ref (adr 5), .int (Int32.ofInt a0), .long (Int64.ofInt a1)] (tm M) sz (Int32.ofInt r) (tm M) := by
  refine wEnter (by decide) (Nat.le_of_ble_eq_true rfl) ?_
  intro p e s m below meth c ls cx hinit hl hsz hw
  exact b_X2_tailFits cx hi h (fun pc ls H locs hd hz hw => w_zret (post := fun (r9 : Int32) (u : Mem) => r9 = Int32.ofInt r ∧ u = tm M) (lf := fun u => (LL adr, wf G adr u)) cx.1 cx.2.1 cx.2.2.1 cx.2.2.2.2.2.2 hz (tm M) hw ⟨rfl, rfl⟩ hd) hl hw
theorem q_389 : Cond.fieldLink RX2 28 "LiftFactors$Factorizer" "monic" "[J" ∈ uU := uU_in (by decide +kernel) (by decide +kernel)
theorem q_390 : Cond.methodLink RX2 53 yX5_degree ∈ uU := uU_in (by decide +kernel) (by decide +kernel)
theorem q_391 : Cond.methodLink RX2 120 yJ9_max_7cf53 ∈ uU := uU_in (by decide +kernel) (by decide +kernel)
theorem q_392 : Cond.static yJ9_max_7cf53 ∈ uU := uU_in (by decide +kernel) (by decide +kernel)
theorem q_393 : Cond.initialized yJ9_max_7cf53.cls ∈ uU := uU_in (by decide +kernel) (by decide +kernel)
theorem q_394 : Cond.code yJ9_max_7cf53 cJ9_max_7cf53 2 (some .int) ∈ uU := uU_in (by decide +kernel) (by decide +kernel)
theorem q_395 : Cond.methodLink RX2 126 yX2_tailFits ∈ uU := uU_in (by decide +kernel) (by decide +kernel)
theorem q_396 : Cond.instanceMethod yX2_tailFits ∈ uU := uU_in (by decide +kernel) (by decide +kernel)
theorem q_397 : Cond.selects yX2_tailFits.cls yX2_tailFits yX2_tailFits ∈ uU := uU_in (by decide +kernel) (by decide +kernel)
theorem q_398 : Cond.initialized yX2_tailFits.cls ∈ uU := uU_in (by decide +kernel) (by decide +kernel)
theorem q_399 : Cond.code yX2_tailFits cX2_tailFits 7 (some .boolean) ∈ uU := uU_in (by decide +kernel) (by decide +kernel)
theorem q_400 : Cond.fieldLink RX2 34 "LiftFactors$Factorizer" "candidate" "[J" ∈ uU := uU_in (by decide +kernel) (by decide +kernel)
theorem q_401 : Cond.methodLink RX2 130 yJ7_fill_d0a16 ∈ uU := uU_in (by decide +kernel) (by decide +kernel)
theorem q_402 : Cond.methodLink RX2 139 yX3_multiply ∈ uU := uU_in (by decide +kernel) (by decide +kernel)
theorem q_403 : Cond.methodLink RX2 143 yX3_lift ∈ uU := uU_in (by decide +kernel) (by decide +kernel)
theorem q_404 : Cond.instanceMethod yX3_lift ∈ uU := uU_in (by decide +kernel) (by decide +kernel)
theorem q_405 : Cond.selects yX3_lift.cls yX3_lift yX3_lift ∈ uU := uU_in (by decide +kernel) (by decide +kernel)
theorem q_406 : Cond.initialized yX3_lift.cls ∈ uU := uU_in (by decide +kernel) (by decide +kernel)
theorem q_407 : Cond.code yX3_lift cX3_lift 5 none ∈ uU := uU_in (by decide +kernel) (by decide +kernel)
theorem q_408 : Cond.methodLink RX2 146 yX5_makePrimitive ∈ uU := uU_in (by decide +kernel) (by decide +kernel)
theorem q_409 : Cond.static yX5_makePrimitive ∈ uU := uU_in (by decide +kernel) (by decide +kernel)
theorem q_410 : Cond.initialized yX5_makePrimitive.cls ∈ uU := uU_in (by decide +kernel) (by decide +kernel)
theorem q_411 : Cond.code yX5_makePrimitive cX5_makePrimitive 4 none ∈ uU := uU_in (by decide +kernel) (by decide +kernel)
theorem q_412 : Cond.fieldLink RX2 41 "LiftFactors$Factorizer" "divider" "LLiftFactors$Divider;" ∈ uU := uU_in (by decide +kernel) (by decide +kernel)
theorem q_413 : Cond.methodLink RX2 92 yX1_divide ∈ uU := uU_in (by decide +kernel) (by decide +kernel)
theorem q_414 : Cond.instanceMethod yX1_divide ∈ uU := uU_in (by decide +kernel) (by decide +kernel)
theorem q_415 : Cond.selects yX1_divide.cls yX1_divide yX1_divide ∈ uU := uU_in (by decide +kernel) (by decide +kernel)
theorem q_416 : Cond.initialized yX1_divide.cls ∈ uU := uU_in (by decide +kernel) (by decide +kernel)
theorem q_417 : Cond.code yX1_divide cX1_divide 10 (some .boolean) ∈ uU := uU_in (by decide +kernel) (by decide +kernel)
def l_X2_divides_54 (n : Nat) (a0 : Int) (v1 : Int) : MI × Int → Option ((MI) ⊕ (MI × Int)) := fun (M8, v9) =>
  Option.bind (gI v9 (M8.2 4 1)) fun _ =>
  if (M8.2 4 1) ≤ v9 then
    some (.inl M8)
  else
    Option.bind (
      Option.bind (gI (oandI (oshrI a0 v9) (1)) (1)) fun _ =>
      if (oandI (oshrI a0 v9) (1)) = (1) then
        Option.bind (odA 20 v9) fun v10 =>
        Option.bind (f_X3_multiply n 31 v10 29 v1 31 M8) fun v11 =>
        some v11
      else
        some M8) fun M12 =>
    some (.inr (M12, v9 + 1))
def f_X2_divides (n : Nat) (a0 : Int) (M : MI) : Option (Int × MI) :=
  Option.bind (f_X5_degree n 29 M) fun v1 =>
  Option.bind (f_X5_degree n 28 M) fun v2 =>
  Option.bind (f_J9_max_7cf53 (0) v2) fun v3 =>
  Option.bind (odJ M 28 v3) fun v4 =>
  Option.bind (f_X2_tailFits n a0 v4 M) fun v5 =>
  Option.bind (gI v5 0) fun _ =>
  if v5 = 0 then
    some ((0), M)
  else
    Option.bind (f_J7_fill_d0a16 n 31 (0) M) fun v6 =>
    Option.bind (osJ v6 31 (0) (1)) fun v7 =>
    Option.bind (lpF (l_X2_divides_54 n a0 v1) n (v7, (0))) fun M15 =>
    Option.bind (f_X3_lift n 31 v4 M15) fun v16 =>
    Option.bind (f_X5_makePrimitive n 31 v16) fun v17 =>
    Option.bind (f_X1_divide n 28 31 v17) fun (v18, M19) =>
    Option.bind (obz v18) fun v20 =>
    some (v20, M19)
set_option maxRecDepth 100000 in
set_option maxHeartbeats 8000000 in
theorem b_X2_divides {p : Program} {l : Launch} {e : Env} {s : State} {m : MethodId} {args : Array Value} {below : List Frame} {meth : Method} {c : Code} {Q : State → Prop} {G : gG} {A : Nat → Prop} {adr : Nat → Nat} (cx : cX p s m args meth c cX2_divides (some .boolean) 6 yX2_divides.cls) (hi : adi adr) {n : Nat} {a0 : Int} {M M' : MI} {r : Int} 
    (h : f_X2_divides n a0 M = some (r, M'))
    (kr : ∀ (pc : Nat) (ls : Array Slot) (H : Heap) (locs : List Loc), decode cX2_divides pc = .ok (.ireturn, 1) → narrow .boolean (.int (Int32.ofInt r)) = .int (Int32.ofInt r) → wH G A s.heap s (LL adr) (wf G adr (tm M')) H locs → W p l e { frames := 4, cells := 0, slots := 0, locals := 110 } s m args below meth c H locs 0 0 Q (F0 m pc ls [.int (Int32.ofInt r)]))
    {ls : Array Slot} {H : Heap} {locs : List Loc} (hl : lv_has ls 6 [(0, .ref (adr 5)), (1, .int (Int32.ofInt a0))]) (hw : wH G A s.heap s (LL adr) (wf G adr (tm M)) H locs) : W p l e { frames := 4, cells := 0, slots := 0, locals := 110 } s m args below meth c H locs 0 0 Q (F0 m 0 ls []) := by
  obtain ⟨hx, hb, -, -, hown, hts, -⟩ := id cx
  have hown : s.vm.findClass RX2 = some m.cls := hown
  unfold f_X2_divides at h
  refine lv_aload_n hx hb dX2_divides_0 rfl (lv_at hl 0 rfl) ?_
  refine m_get (k := 5) (C := RX2) (T := TX2) (N := 11) (ref := "LiftFactors$Factorizer") (v := .ref (adr 29)) hx hb hi hts inX2_u hown hw (by decide) rfl 8 (by decide) q_389 rfl rfl dX2_divides_1 ?_
  replace h := bnd h
  obtain ⟨v1, e1, h⟩ := h
  refine m_callSi (As := [.ref (adr 29)]) (rest := []) cx.fix hw (cc_X5_degree (l := l) (G := G) (sz := H.size) hi e1) (w_cS 1 hts q_390 q_246 q_247 q_248 rfl rfl (by decide) (by decide)) hl.1 rfl (lv_room (Nat.le_of_ble_eq_true rfl)) dX2_divides_4 (fun H locs hw => ?_)
  refine lv_istore_n (lv' := [(2, .int (Int32.ofInt v1)), (0, .ref (adr 5)), (1, .int (Int32.ofInt a0))]) hx hb dX2_divides_7 rfl hl (by decide) rfl (fun ls hl => ?_)
  refine lv_aload_n hx hb dX2_divides_8 rfl (lv_at hl 1 rfl) ?_
  refine m_get (k := 5) (C := RX2) (T := TX2) (N := 11) (ref := "LiftFactors$Factorizer") (v := .ref (adr 28)) hx hb hi hts inX2_u hown hw (by decide) rfl 7 (by decide) q_388 rfl rfl dX2_divides_9 ?_
  refine lv_iconst (v := Int32.ofInt (0)) hx hb dX2_divides_12 rfl ?_
  refine lv_aload_n hx hb dX2_divides_13 rfl (lv_at hl 1 rfl) ?_
  refine m_get (k := 5) (C := RX2) (T := TX2) (N := 11) (ref := "LiftFactors$Factorizer") (v := .ref (adr 28)) hx hb hi hts inX2_u hown hw (by decide) rfl 7 (by decide) q_388 rfl rfl dX2_divides_14 ?_
  replace h := bnd h
  obtain ⟨v2, e2, h⟩ := h
  refine m_callSi (As := [.ref (adr 28)]) (rest := [.int (Int32.ofInt (0)), .ref (adr 28)]) cx.fix hw (cc_X5_degree (l := l) (G := G) (sz := H.size) hi e2) (w_cS 1 hts q_390 q_246 q_247 q_248 rfl rfl (by decide) (by decide)) hl.1 rfl (lv_room (Nat.le_of_ble_eq_true rfl)) dX2_divides_17 (fun H locs hw => ?_)
  replace h := bnd h
  obtain ⟨v3, e3, h⟩ := h
  refine m_callSi (As := [.int (Int32.ofInt (0)), .int (Int32.ofInt v2)]) (rest := [.ref (adr 28)]) cx.fix hw (cc_J9_max_7cf53 (l := l) (G := G) (sz := H.size) (M := M) hi e3) (w_cS 2 hts q_391 q_392 q_393 q_394 rfl rfl (by decide) (by decide)) hl.1 rfl (lv_room (Nat.le_of_ble_eq_true rfl)) dX2_divides_20 (fun H locs hw => ?_)
  replace h := bnd h
  obtain ⟨v4, e4, h⟩ := h
  refine o_lald hx hb hi hw e4 dX2_divides_23 ?_
  refine lv_lstore_n (lv' := [(3, .long (Int64.ofInt v4)), (2, .int (Int32.ofInt v1)), (0, .ref (adr 5)), (1, .int (Int32.ofInt a0))]) hx hb dX2_divides_24 rfl hl (by decide) rfl (fun ls hl => ?_)
  refine lv_aload_n hx hb dX2_divides_25 rfl (lv_at hl 2 rfl) ?_
  refine lv_iload_n hx hb dX2_divides_26 rfl (lv_at hl 3 rfl) ?_
  refine lv_lload_n hx hb dX2_divides_27 rfl (lv_at hl 0 rfl) ?_
  replace h := bnd h
  obtain ⟨v5, e5, h⟩ := h
  refine m_callVi (k := 5) (As := [.int (Int32.ofInt a0), .long (Int64.ofInt v4)]) (rest := []) cx.fix hi hw (cc_X2_tailFits (l := l) (G := G) (sz := H.size) hi e5) (by decide) rfl rfl (w_cV 2 hts q_395 q_396 q_397 q_398 q_399 rfl rfl (by decide) (by decide)) hl.1 rfl (lv_room (Nat.le_of_ble_eq_true rfl)) dX2_divides_28 (fun H locs hw => ?_)
  replace h := bnd h
  obtain ⟨_, hg, h⟩ := h
  refine o_if_ne (tgt := 36) hx hb hg dX2_divides_31 (by decide) (fun hc => ?_) (fun hc => ?_)
  · replace h := ite_f hc h
    refine lv_aload_n hx hb dX2_divides_36 rfl (lv_at hl 2 rfl) ?_
    refine m_get (k := 5) (C := RX2) (T := TX2) (N := 11) (ref := "LiftFactors$Factorizer") (v := .ref (adr 31)) hx hb hi hts inX2_u hown hw (by decide) rfl 10 (by decide) q_400 rfl rfl dX2_divides_37 ?_
    refine lv_lconst (v := Int64.ofInt (0)) hx hb dX2_divides_40 (by decide) ?_
    replace h := bnd h
    obtain ⟨v6, e6, h⟩ := h
    refine m_callSv (As := [.ref (adr 31), .long (Int64.ofInt (0))]) (rest := []) cx.fix hw (cc_J7_fill_d0a16 (l := l) (G := G) (sz := H.size) hi e6) (w_cS 2 hts q_401 q_265 q_266 q_267 rfl rfl (by decide) (by decide)) hl.1 rfl (lv_room (Nat.le_of_ble_eq_true rfl)) dX2_divides_41 (fun H locs hw => ?_)
    refine lv_aload_n hx hb dX2_divides_44 rfl (lv_at hl 2 rfl) ?_
    refine m_get (k := 5) (C := RX2) (T := TX2) (N := 11) (ref := "LiftFactors$Factorizer") (v := .ref (adr 31)) hx hb hi hts inX2_u hown hw (by decide) rfl 10 (by decide) q_400 rfl rfl dX2_divides_45 ?_
    refine lv_iconst (v := Int32.ofInt (0)) hx hb dX2_divides_48 rfl ?_
    refine lv_lconst (v := Int64.ofInt (1)) hx hb dX2_divides_49 (by decide) ?_
    replace h := bnd h
    obtain ⟨v7, e7, h⟩ := h
    refine o_last hx hb hi hw e7 dX2_divides_50 (fun H locs hw => ?_)
    refine lv_iconst (v := Int32.ofInt (0)) hx hb dX2_divides_51 rfl ?_
    refine lv_istore (lv' := [(5, .int (Int32.ofInt (0))), (3, .long (Int64.ofInt v4)), (2, .int (Int32.ofInt v1)), (0, .ref (adr 5)), (1, .int (Int32.ofInt a0))]) hx hb dX2_divides_52 hl (by decide) rfl (fun ls hl => ?_)
    replace h := bnd h
    obtain ⟨M15, j14, h⟩ := h
    refine lp_W (Wst := fun (st : MI × Int) => ∀ (ls : Array Slot) (H : Heap) (locs : List Loc), lv_has ls 6 [(0, .ref (adr 5)), (1, .int (Int32.ofInt a0)), (2, .int (Int32.ofInt v1)), (3, .long (Int64.ofInt v4)), (5, .int (Int32.ofInt st.2))] → wH G A s.heap s (LL adr) (wf G adr (tm st.1)) H locs → W p l e { frames := 4, cells := 0, slots := 0, locals := 110 } s m args below meth c H locs 0 0 Q (F0 m 54 ls [])) (fin := fun (r : MI) => ∀ (ls : Array Slot) (H : Heap) (locs : List Loc), lv_has ls 6 [(0, .ref (adr 5)), (3, .long (Int64.ofInt v4))] → wH G A s.heap s (LL adr) (wf G adr (tm r)) H locs → W p l e { frames := 4, cells := 0, slots := 0, locals := 110 } s m args below meth c H locs 0 0 Q (F0 m 112 ls [])) ?_ n _ _ j14 ?_ _ _ _ (lv_sub hl [3, 4, 2, 1, 0] rfl) hw
    · clear h j14 hw hl
      intro ⟨M8, v9⟩ x h k1 k2 ls H locs hl hw
      (try dsimp only at k1 k2 hl hw ⊢)
      unfold l_X2_divides_54 at h
      (try dsimp only at h)
      refine lv_iload hx hb dX2_divides_54 (lv_at hl 4 rfl) ?_
      refine lv_aload_n hx hb dX2_divides_56 rfl (lv_at hl 0 rfl) ?_
      refine m_get (k := 5) (C := RX2) (T := TX2) (N := 11) (ref := "LiftFactors$Factorizer") (v := .ref (adr 4)) hx hb hi hts inX2_u hown hw (by decide) rfl 6 (by decide) q_382 rfl rfl dX2_divides_57 ?_
      refine m_get (k := 4) (C := RX6) (T := TX6) (N := 9) (ref := "LiftFactors$Splitter") (v := .int (Int32.ofInt (M8.2 4 1))) hx hb hi hts inX6_u hown hw (by decide) rfl 1 (by decide) q_383 rfl rfl dX2_divides_60 ?_
      replace h := bnd h
      obtain ⟨_, hg, h⟩ := h
      refine o_icmp_ge (tgt := 112) hx hb hg dX2_divides_63 (by decide) (fun hc => ?_) (fun hc => ?_)
      · replace h := ite_t hc h
        cases h
        exact k1 _ rfl _ _ _ (lv_sub hl [0, 3] rfl) hw
      · replace h := ite_f hc h
        refine lv_iload_n hx hb dX2_divides_66 rfl (lv_at hl 1 rfl) ?_
        refine lv_iload hx hb dX2_divides_67 (lv_at hl 4 rfl) ?_
        refine o_ishr hx hb dX2_divides_69 ?_
        refine lv_iconst (v := Int32.ofInt (1)) hx hb dX2_divides_70 rfl ?_
        refine o_iand hx hb dX2_divides_71 ?_
        refine lv_iconst (v := Int32.ofInt (1)) hx hb dX2_divides_72 rfl ?_
        replace h := bnd h
        obtain ⟨M12, j13, h⟩ := h
        have kj : ∀ (ls : Array Slot) (H : Heap) (locs : List Loc), lv_has ls 6 [(0, .ref (adr 5)), (1, .int (Int32.ofInt a0)), (2, .int (Int32.ofInt v1)), (3, .long (Int64.ofInt v4)), (5, .int (Int32.ofInt v9))] → wH G A s.heap s (LL adr) (wf G adr (tm M12)) H locs → W p l e { frames := 4, cells := 0, slots := 0, locals := 110 } s m args below meth c H locs 0 0 Q (F0 m 106 ls []) := by
          intro ls H locs hl hw
          refine lv_iinc (v := Int32.ofInt (v9 + 1)) (lv' := [(5, .int (Int32.ofInt (v9 + 1))), (0, .ref (adr 5)), (1, .int (Int32.ofInt a0)), (2, .int (Int32.ofInt v1)), (3, .long (Int64.ofInt v4))]) hx hb dX2_divides_106 hl (k := 4) rfl (inc_o _ _) (by decide) rfl (fun ls hl => ?_)
          refine lv_goto (tgt := 54) hx hb dX2_divides_109 (by decide) ?_
          cases h
          exact k2 _ rfl _ _ _ (lv_sub hl [1, 2, 3, 4, 0] rfl) hw
        clear h
        replace h := j13
        clear j13
        replace h := bnd h
        obtain ⟨_, hg, h⟩ := h
        refine o_icmp_ne (tgt := 106) hx hb hg dX2_divides_73 (by decide) (fun hc => ?_) (fun hc => ?_)
        · replace h := ite_f hc h
          cases h
          exact kj _ _ _ (lv_sub hl [0, 1, 2, 3, 4] rfl) hw
        · replace h := ite_t hc h
          refine lv_aload_n hx hb dX2_divides_76 rfl (lv_at hl 0 rfl) ?_
          refine m_get (k := 5) (C := RX2) (T := TX2) (N := 11) (ref := "LiftFactors$Factorizer") (v := .ref (adr 1)) hx hb hi hts inX2_u hown hw (by decide) rfl 3 (by decide) q_385 rfl rfl dX2_divides_77 ?_
          refine lv_aload_n hx hb dX2_divides_80 rfl (lv_at hl 0 rfl) ?_
          refine m_get (k := 5) (C := RX2) (T := TX2) (N := 11) (ref := "LiftFactors$Factorizer") (v := .ref (adr 31)) hx hb hi hts inX2_u hown hw (by decide) rfl 10 (by decide) q_400 rfl rfl dX2_divides_81 ?_
          refine lv_aload_n hx hb dX2_divides_84 rfl (lv_at hl 0 rfl) ?_
          refine m_get (k := 5) (C := RX2) (T := TX2) (N := 11) (ref := "LiftFactors$Factorizer") (v := .ref (adr 4)) hx hb hi hts inX2_u hown hw (by decide) rfl 6 (by decide) q_382 rfl rfl dX2_divides_85 ?_
          refine m_get (k := 4) (C := RX6) (T := TX6) (N := 9) (ref := "LiftFactors$Splitter") (v := .ref (adr 20)) hx hb hi hts inX6_u hown hw (by decide) rfl 0 (by decide) q_384 rfl rfl dX2_divides_88 ?_
          refine lv_iload hx hb dX2_divides_91 (lv_at hl 4 rfl) ?_
          replace h := bnd h
          obtain ⟨v10, e10, h⟩ := h
          refine o_aald hx hb hi hw e10 dX2_divides_93 ?_
          refine lv_aload_n hx hb dX2_divides_94 rfl (lv_at hl 0 rfl) ?_
          refine m_get (k := 5) (C := RX2) (T := TX2) (N := 11) (ref := "LiftFactors$Factorizer") (v := .ref (adr 29)) hx hb hi hts inX2_u hown hw (by decide) rfl 8 (by decide) q_389 rfl rfl dX2_divides_95 ?_
          refine lv_iload_n hx hb dX2_divides_98 rfl (lv_at hl 2 rfl) ?_
          refine lv_aload_n hx hb dX2_divides_99 rfl (lv_at hl 0 rfl) ?_
          refine m_get (k := 5) (C := RX2) (T := TX2) (N := 11) (ref := "LiftFactors$Factorizer") (v := .ref (adr 31)) hx hb hi hts inX2_u hown hw (by decide) rfl 10 (by decide) q_400 rfl rfl dX2_divides_100 ?_
          replace h := bnd h
          obtain ⟨v11, e11, h⟩ := h
          refine m_callVv (k := 1) (As := [.ref (adr 31), .ref (adr v10), .ref (adr 29), .int (Int32.ofInt v1), .ref (adr 31)]) (rest := []) cx.fix hi hw (cc_X3_multiply (l := l) (G := G) (sz := H.size) hi e11) (by decide) rfl rfl (w_cV 5 hts q_402 q_307 q_308 q_309 q_310 rfl rfl (by decide) (by decide)) hl.1 rfl (lv_room (Nat.le_of_ble_eq_true rfl)) dX2_divides_103 (fun H locs hw => ?_)
          cases h
          exact kj _ _ _ (lv_sub hl [0, 1, 2, 3, 4] rfl) hw
    · clear hw hl
      intro ls H locs hl hw
      (try dsimp only at hl hw ⊢)
      refine lv_aload_n hx hb dX2_divides_112 rfl (lv_at hl 0 rfl) ?_
      refine m_get (k := 5) (C := RX2) (T := TX2) (N := 11) (ref := "LiftFactors$Factorizer") (v := .ref (adr 1)) hx hb hi hts inX2_u hown hw (by decide) rfl 3 (by decide) q_385 rfl rfl dX2_divides_113 ?_
      refine lv_aload_n hx hb dX2_divides_116 rfl (lv_at hl 0 rfl) ?_
      refine m_get (k := 5) (C := RX2) (T := TX2) (N := 11) (ref := "LiftFactors$Factorizer") (v := .ref (adr 31)) hx hb hi hts inX2_u hown hw (by decide) rfl 10 (by decide) q_400 rfl rfl dX2_divides_117 ?_
      refine lv_lload_n hx hb dX2_divides_120 rfl (lv_at hl 1 rfl) ?_
      replace h := bnd h
      obtain ⟨v16, e16, h⟩ := h
      refine m_callVv (k := 1) (As := [.ref (adr 31), .long (Int64.ofInt v4)]) (rest := []) cx.fix hi hw (cc_X3_lift (l := l) (G := G) (sz := H.size) hi e16) (by decide) rfl rfl (w_cV 2 hts q_403 q_404 q_405 q_406 q_407 rfl rfl (by decide) (by decide)) hl.1 rfl (lv_room (Nat.le_of_ble_eq_true rfl)) dX2_divides_121 (fun H locs hw => ?_)
      refine lv_aload_n hx hb dX2_divides_124 rfl (lv_at hl 0 rfl) ?_
      refine m_get (k := 5) (C := RX2) (T := TX2) (N := 11) (ref := "LiftFactors$Factorizer") (v := .ref (adr 31)) hx hb hi hts inX2_u hown hw (by decide) rfl 10 (by decide) q_400 rfl rfl dX2_divides_125 ?_
      replace h := bnd h
      obtain ⟨v17, e17, h⟩ := h
      refine m_callSv (As := [.ref (adr 31)]) (rest := []) cx.fix hw (cc_X5_makePrimitive (l := l) (G := G) (sz := H.size) hi e17) (w_cS 1 hts q_408 q_409 q_410 q_411 rfl rfl (by decide) (by decide)) hl.1 rfl (lv_room (Nat.le_of_ble_eq_true rfl)) dX2_divides_128 (fun H locs hw => ?_)
      refine lv_aload_n hx hb dX2_divides_131 rfl (lv_at hl 0 rfl) ?_
      refine m_get (k := 5) (C := RX2) (T := TX2) (N := 11) (ref := "LiftFactors$Factorizer") (v := .ref (adr 2)) hx hb hi hts inX2_u hown hw (by decide) rfl 4 (by decide) q_412 rfl rfl dX2_divides_132 ?_
      refine lv_aload_n hx hb dX2_divides_135 rfl (lv_at hl 0 rfl) ?_
      refine m_get (k := 5) (C := RX2) (T := TX2) (N := 11) (ref := "LiftFactors$Factorizer") (v := .ref (adr 28)) hx hb hi hts inX2_u hown hw (by decide) rfl 7 (by decide) q_388 rfl rfl dX2_divides_136 ?_
      refine lv_aload_n hx hb dX2_divides_139 rfl (lv_at hl 0 rfl) ?_
      refine m_get (k := 5) (C := RX2) (T := TX2) (N := 11) (ref := "LiftFactors$Factorizer") (v := .ref (adr 31)) hx hb hi hts inX2_u hown hw (by decide) rfl 10 (by decide) q_400 rfl rfl dX2_divides_140 ?_
      replace h := bnd h
      obtain ⟨⟨v18, M19⟩, e18, h⟩ := h
      refine m_callVi (k := 2) (As := [.ref (adr 28), .ref (adr 31)]) (rest := []) cx.fix hi hw (cc_X1_divide (l := l) (G := G) (sz := H.size) hi e18) (by decide) rfl rfl (w_cV 2 hts q_413 q_414 q_415 q_416 q_417 rfl rfl (by decide) (by decide)) hl.1 rfl (lv_room (Nat.le_of_ble_eq_true rfl)) dX2_divides_143 (fun H locs hw => ?_)
      replace h := bnd h
      obtain ⟨v20, eZ, h⟩ := h
      obtain ⟨rfl, eZ⟩ := obz_ok eZ
      cases h
      exact kr _ _ _ _ dX2_divides_146 eZ hw
  · replace h := ite_t hc h
    refine lv_iconst (v := Int32.ofInt (0)) hx hb dX2_divides_34 rfl ?_
    cases h
    exact kr _ _ _ _ dX2_divides_35 nb0 hw
theorem cc_X2_divides {l : Launch} {G : gG} {adr : Nat → Nat} {sz : Nat} (hi : adi adr) {n : Nat} {a0 : Int} {M M' : MI} {r : Int} (h : f_X2_divides n a0 M = some (r, M')) : mI l yX2_divides cX2_divides 6 (some .boolean) { frames := 4, cells := 0, slots := 0, locals := 110 } G adr [.ref (adr 5), .int (Int32.ofInt a0)] (tm M) sz (Int32.ofInt r) (tm M') := by
  refine wEnter (by decide) (Nat.le_of_ble_eq_true rfl) ?_
  intro p e s m below meth c ls cx hinit hl hsz hw
  exact b_X2_divides cx hi h (fun pc ls H locs hd hz hw => w_zret (post := fun (r9 : Int32) (u : Mem) => r9 = Int32.ofInt r ∧ u = tm M') (lf := fun u => (LL adr, wf G adr u)) cx.1 cx.2.1 cx.2.2.1 cx.2.2.2.2.2.2 hz (tm M') hw ⟨rfl, rfl⟩ hd) hl hw
theorem q_418 : Cond.methodLink RX2 107 yJ6_bitCount_0f7a4 ∈ uU := uU_in (by decide +kernel) (by decide +kernel)
theorem q_419 : Cond.static yJ6_bitCount_0f7a4 ∈ uU := uU_in (by decide +kernel) (by decide +kernel)
theorem q_420 : Cond.initialized yJ6_bitCount_0f7a4.cls ∈ uU := uU_in (by decide +kernel) (by decide +kernel)
theorem q_421 : Cond.code yJ6_bitCount_0f7a4 cJ6_bitCount_0f7a4 1 (some .int) ∈ uU := uU_in (by decide +kernel) (by decide +kernel)
theorem q_422 : Cond.methodLink RX2 113 yX2_divides ∈ uU := uU_in (by decide +kernel) (by decide +kernel)
theorem q_423 : Cond.instanceMethod yX2_divides ∈ uU := uU_in (by decide +kernel) (by decide +kernel)
theorem q_424 : Cond.selects yX2_divides.cls yX2_divides yX2_divides ∈ uU := uU_in (by decide +kernel) (by decide +kernel)
theorem q_425 : Cond.initialized yX2_divides.cls ∈ uU := uU_in (by decide +kernel) (by decide +kernel)
theorem q_426 : Cond.code yX2_divides cX2_divides 6 (some .boolean) ∈ uU := uU_in (by decide +kernel) (by decide +kernel)
theorem q_427 : Cond.methodLink RX2 117 yX2_add ∈ uU := uU_in (by decide +kernel) (by decide +kernel)
theorem q_428 : Cond.instanceMethod yX2_add ∈ uU := uU_in (by decide +kernel) (by decide +kernel)
theorem q_429 : Cond.selects yX2_add.cls yX2_add yX2_add ∈ uU := uU_in (by decide +kernel) (by decide +kernel)
theorem q_430 : Cond.initialized yX2_add.cls ∈ uU := uU_in (by decide +kernel) (by decide +kernel)
theorem q_431 : Cond.code yX2_add cX2_add 3 none ∈ uU := uU_in (by decide +kernel) (by decide +kernel)
theorem q_432 : Cond.fieldLink RX2 98 "LiftFactors$Divider" "quotient" "[J" ∈ uU := uU_in (by decide +kernel) (by decide +kernel)
def l_X2_joinPieces_26 (n : Nat) (v4 : Int) (c5 : Int) : MI × Int × Int × Int → Option ((MI × Int × Int) ⊕ (MI × Int × Int × Int)) := fun (M6, v7, v8, v9) =>
  Option.bind (gI v9 (oshlI (1) c5)) fun _ =>
  if (oshlI (1) c5) ≤ v9 then
    some (.inl (M6, v7, v8))
  else
    Option.bind (gI ((2) * v4) v7) fun _ =>
    if v7 < ((2) * v4) then
      some (.inl (M6, v7, v8))
    else
      Option.bind (f_J6_bitCount_0f7a4 v9) fun v10 =>
      Option.bind (
        Option.bind (gI v10 v4) fun _ =>
        if v10 = v4 then
          Option.bind (gI (oandI v9 v8) 0) fun _ =>
          if (oandI v9 v8) = 0 then
            Option.bind (f_X2_divides n v9 M6) fun (v11, M12) =>
            Option.bind (gI v11 0) fun _ =>
            if v11 = 0 then
              some (M12, v7, v8)
            else
              Option.bind (f_X2_add n 31 M12) fun v13 =>
              Option.bind (f_X5_copy 18 28 v13) fun v14 =>
              some (v14, v7 - v4, oorI v8 v9)
          else
            some (M6, v7, v8)
        else
          some (M6, v7, v8)) fun (M15, v16, v17) =>
      some (.inr (M15, v16, v17, v9 + 1))
def l_X2_joinPieces_15 (n : Nat) (c5 : Int) : MI × Int × Int × Int → Option ((MI) ⊕ (MI × Int × Int × Int)) := fun (M1, v2, v3, v4) =>
  Option.bind (gI ((2) * v4) v2) fun _ =>
  if v2 < ((2) * v4) then
    some (.inl M1)
  else
    Option.bind (lpF (l_X2_joinPieces_26 n v4 c5) n (M1, v2, v3, (1))) fun (M20, v21, v22) =>
    some (.inr (M20, v21, v22, v4 + 1))
def f_X2_joinPieces (n : Nat) (M : MI) : Option MI :=
  Option.bind (lpF (l_X2_joinPieces_15 n (M.2 4 1)) n (M, M.2 4 1, (0), (1))) fun M24 =>
  Option.bind (f_X2_add n 28 M24) fun v25 =>
  some v25
set_option maxRecDepth 100000 in
set_option maxHeartbeats 8000000 in
theorem b_X2_joinPieces {p : Program} {l : Launch} {e : Env} {s : State} {m : MethodId} {args : Array Value} {below : List Frame} {meth : Method} {c : Code} {Q : State → Prop} {G : gG} {A : Nat → Prop} {adr : Nat → Nat} (cx : cX p s m args meth c cX2_joinPieces none 6 yX2_joinPieces.cls) (hi : adi adr) {n : Nat} {M M' : MI} 
    (h : f_X2_joinPieces n M = some M')
    (kr : ∀ (pc : Nat) (ls : Array Slot) (H : Heap) (locs : List Loc), decode cX2_joinPieces pc = .ok (.return_, 1) → wH G A s.heap s (LL adr) (wf G adr (tm M')) H locs → W p l e { frames := 5, cells := 0, slots := 0, locals := 135 } s m args below meth c H locs 0 0 Q (F0 m pc ls []))
    {ls : Array Slot} {H : Heap} {locs : List Loc} (hl : lv_has ls 6 [(0, .ref (adr 5))]) (hw : wH G A s.heap s (LL adr) (wf G adr (tm M)) H locs) : W p l e { frames := 5, cells := 0, slots := 0, locals := 135 } s m args below meth c H locs 0 0 Q (F0 m 0 ls []) := by
  obtain ⟨hx, hb, -, -, hown, hts, -⟩ := id cx
  have hown : s.vm.findClass RX2 = some m.cls := hown
  unfold f_X2_joinPieces at h
  refine lv_aload_n hx hb dX2_joinPieces_0 rfl (lv_at hl 0 rfl) ?_
  refine m_get (k := 5) (C := RX2) (T := TX2) (N := 11) (ref := "LiftFactors$Factorizer") (v := .ref (adr 4)) hx hb hi hts inX2_u hown hw (by decide) rfl 6 (by decide) q_382 rfl rfl dX2_joinPieces_1 ?_
  refine m_get (k := 4) (C := RX6) (T := TX6) (N := 9) (ref := "LiftFactors$Splitter") (v := .int (Int32.ofInt (M.2 4 1))) hx hb hi hts inX6_u hown hw (by decide) rfl 1 (by decide) q_383 rfl rfl dX2_joinPieces_4 ?_
  refine lv_istore_n (lv' := [(1, .int (Int32.ofInt (M.2 4 1))), (0, .ref (adr 5))]) hx hb dX2_joinPieces_7 rfl hl (by decide) rfl (fun ls hl => ?_)
  refine lv_iload_n hx hb dX2_joinPieces_8 rfl (lv_at hl 0 rfl) ?_
  refine lv_istore_n (lv' := [(2, .int (Int32.ofInt (M.2 4 1))), (1, .int (Int32.ofInt (M.2 4 1))), (0, .ref (adr 5))]) hx hb dX2_joinPieces_9 rfl hl (by decide) rfl (fun ls hl => ?_)
  refine lv_iconst (v := Int32.ofInt (0)) hx hb dX2_joinPieces_10 rfl ?_
  refine lv_istore_n (lv' := [(3, .int (Int32.ofInt (0))), (2, .int (Int32.ofInt (M.2 4 1))), (1, .int (Int32.ofInt (M.2 4 1))), (0, .ref (adr 5))]) hx hb dX2_joinPieces_11 rfl hl (by decide) rfl (fun ls hl => ?_)
  refine lv_iconst (v := Int32.ofInt (1)) hx hb dX2_joinPieces_12 rfl ?_
  refine lv_istore (lv' := [(4, .int (Int32.ofInt (1))), (3, .int (Int32.ofInt (0))), (2, .int (Int32.ofInt (M.2 4 1))), (1, .int (Int32.ofInt (M.2 4 1))), (0, .ref (adr 5))]) hx hb dX2_joinPieces_13 hl (by decide) rfl (fun ls hl => ?_)
  replace h := bnd h
  obtain ⟨M24, j23, h⟩ := h
  refine lp_W (Wst := fun (st : MI × Int × Int × Int) => ∀ (ls : Array Slot) (H : Heap) (locs : List Loc), lv_has ls 6 [(0, .ref (adr 5)), (1, .int (Int32.ofInt (M.2 4 1))), (2, .int (Int32.ofInt st.2.1)), (3, .int (Int32.ofInt st.2.2.1)), (4, .int (Int32.ofInt st.2.2.2))] → wH G A s.heap s (LL adr) (wf G adr (tm st.1)) H locs → W p l e { frames := 5, cells := 0, slots := 0, locals := 135 } s m args below meth c H locs 0 0 Q (F0 m 15 ls [])) (fin := fun (r : MI) => ∀ (ls : Array Slot) (H : Heap) (locs : List Loc), lv_has ls 6 [(0, .ref (adr 5))] → wH G A s.heap s (LL adr) (wf G adr (tm r)) H locs → W p l e { frames := 5, cells := 0, slots := 0, locals := 135 } s m args below meth c H locs 0 0 Q (F0 m 112 ls [])) ?_ n _ _ j23 ?_ _ _ _ (lv_sub hl [4, 3, 2, 1, 0] rfl) hw
  · clear h j23 hw hl
    intro ⟨M1, v2, v3, v4⟩ x h k1 k2 ls H locs hl hw
    (try dsimp only at k1 k2 hl hw ⊢)
    unfold l_X2_joinPieces_15 at h
    (try dsimp only at h)
    refine lv_iconst (v := Int32.ofInt (2)) hx hb dX2_joinPieces_15 rfl ?_
    refine lv_iload hx hb dX2_joinPieces_16 (lv_at hl 4 rfl) ?_
    refine o_imul hx hb dX2_joinPieces_18 ?_
    refine lv_iload_n hx hb dX2_joinPieces_19 rfl (lv_at hl 2 rfl) ?_
    replace h := bnd h
    obtain ⟨_, hg, h⟩ := h
    refine o_icmp_gt (tgt := 112) hx hb hg dX2_joinPieces_20 (by decide) (fun hc => ?_) (fun hc => ?_)
    · replace h := ite_t hc h
      cases h
      exact k1 _ rfl _ _ _ (lv_sub hl [0] rfl) hw
    · replace h := ite_f hc h
      refine lv_iconst (v := Int32.ofInt (1)) hx hb dX2_joinPieces_23 rfl ?_
      refine lv_istore (lv' := [(5, .int (Int32.ofInt (1))), (0, .ref (adr 5)), (1, .int (Int32.ofInt (M.2 4 1))), (2, .int (Int32.ofInt v2)), (3, .int (Int32.ofInt v3)), (4, .int (Int32.ofInt v4))]) hx hb dX2_joinPieces_24 hl (by decide) rfl (fun ls hl => ?_)
      replace h := bnd h
      obtain ⟨⟨M20, v21, v22⟩, j19, h⟩ := h
      refine lp_W (Wst := fun (st : MI × Int × Int × Int) => ∀ (ls : Array Slot) (H : Heap) (locs : List Loc), lv_has ls 6 [(0, .ref (adr 5)), (1, .int (Int32.ofInt (M.2 4 1))), (2, .int (Int32.ofInt st.2.1)), (3, .int (Int32.ofInt st.2.2.1)), (4, .int (Int32.ofInt v4)), (5, .int (Int32.ofInt st.2.2.2))] → wH G A s.heap s (LL adr) (wf G adr (tm st.1)) H locs → W p l e { frames := 5, cells := 0, slots := 0, locals := 135 } s m args below meth c H locs 0 0 Q (F0 m 26 ls [])) (fin := fun (r : MI × Int × Int) => ∀ (ls : Array Slot) (H : Heap) (locs : List Loc), lv_has ls 6 [(0, .ref (adr 5)), (1, .int (Int32.ofInt (M.2 4 1))), (2, .int (Int32.ofInt r.2.1)), (3, .int (Int32.ofInt r.2.2)), (4, .int (Int32.ofInt v4))] → wH G A s.heap s (LL adr) (wf G adr (tm r.1)) H locs → W p l e { frames := 5, cells := 0, slots := 0, locals := 135 } s m args below meth c H locs 0 0 Q (F0 m 106 ls [])) ?_ n _ _ j19 ?_ _ _ _ (lv_sub hl [1, 2, 3, 4, 5, 0] rfl) hw
      · clear h j19 hw hl
        intro ⟨M6, v7, v8, v9⟩ x h k1 k2 ls H locs hl hw
        (try dsimp only at k1 k2 hl hw ⊢)
        unfold l_X2_joinPieces_26 at h
        (try dsimp only at h)
        refine lv_iload hx hb dX2_joinPieces_26 (lv_at hl 5 rfl) ?_
        refine lv_iconst (v := Int32.ofInt (1)) hx hb dX2_joinPieces_28 rfl ?_
        refine lv_iload_n hx hb dX2_joinPieces_29 rfl (lv_at hl 1 rfl) ?_
        refine o_ishl hx hb dX2_joinPieces_30 ?_
        replace h := bnd h
        obtain ⟨_, hg, h⟩ := h
        refine o_icmp_ge (tgt := 106) hx hb hg dX2_joinPieces_31 (by decide) (fun hc => ?_) (fun hc => ?_)
        · replace h := ite_t hc h
          cases h
          exact k1 _ rfl _ _ _ (lv_sub hl [0, 1, 2, 3, 4] rfl) hw
        · replace h := ite_f hc h
          refine lv_iconst (v := Int32.ofInt (2)) hx hb dX2_joinPieces_34 rfl ?_
          refine lv_iload hx hb dX2_joinPieces_35 (lv_at hl 4 rfl) ?_
          refine o_imul hx hb dX2_joinPieces_37 ?_
          refine lv_iload_n hx hb dX2_joinPieces_38 rfl (lv_at hl 2 rfl) ?_
          replace h := bnd h
          obtain ⟨_, hg, h⟩ := h
          refine o_icmp_gt (tgt := 106) hx hb hg dX2_joinPieces_39 (by decide) (fun hc => ?_) (fun hc => ?_)
          · replace h := ite_t hc h
            cases h
            exact k1 _ rfl _ _ _ (lv_sub hl [0, 1, 2, 3, 4] rfl) hw
          · replace h := ite_f hc h
            refine lv_iload hx hb dX2_joinPieces_42 (lv_at hl 5 rfl) ?_
            replace h := bnd h
            obtain ⟨v10, e10, h⟩ := h
            refine m_callSi (As := [.int (Int32.ofInt v9)]) (rest := []) cx.fix hw (cc_J6_bitCount_0f7a4 (l := l) (G := G) (sz := H.size) (M := M6) hi e10) (w_cS 1 hts q_418 q_419 q_420 q_421 rfl rfl (by decide) (by decide)) hl.1 rfl (lv_room (Nat.le_of_ble_eq_true rfl)) dX2_joinPieces_44 (fun H locs hw => ?_)
            refine lv_iload hx hb dX2_joinPieces_47 (lv_at hl 4 rfl) ?_
            replace h := bnd h
            obtain ⟨⟨M15, v16, v17⟩, j18, h⟩ := h
            have kj : ∀ (ls : Array Slot) (H : Heap) (locs : List Loc), lv_has ls 6 [(0, .ref (adr 5)), (1, .int (Int32.ofInt (M.2 4 1))), (2, .int (Int32.ofInt v16)), (3, .int (Int32.ofInt v17)), (4, .int (Int32.ofInt v4)), (5, .int (Int32.ofInt v9))] → wH G A s.heap s (LL adr) (wf G adr (tm M15)) H locs → W p l e { frames := 5, cells := 0, slots := 0, locals := 135 } s m args below meth c H locs 0 0 Q (F0 m 100 ls []) := by
              intro ls H locs hl hw
              refine lv_iinc (v := Int32.ofInt (v9 + 1)) (lv' := [(5, .int (Int32.ofInt (v9 + 1))), (0, .ref (adr 5)), (1, .int (Int32.ofInt (M.2 4 1))), (2, .int (Int32.ofInt v16)), (3, .int (Int32.ofInt v17)), (4, .int (Int32.ofInt v4))]) hx hb dX2_joinPieces_100 hl (k := 5) rfl (inc_o _ _) (by decide) rfl (fun ls hl => ?_)
              refine lv_goto (tgt := 26) hx hb dX2_joinPieces_103 (by decide) ?_
              cases h
              exact k2 _ rfl _ _ _ (lv_sub hl [1, 2, 3, 4, 5, 0] rfl) hw
            clear h
            replace h := j18
            clear j18
            replace h := bnd h
            obtain ⟨_, hg, h⟩ := h
            refine o_icmp_ne (tgt := 100) hx hb hg dX2_joinPieces_49 (by decide) (fun hc => ?_) (fun hc => ?_)
            · replace h := ite_f hc h
              cases h
              exact kj _ _ _ (lv_sub hl [0, 1, 2, 3, 4, 5] rfl) hw
            · replace h := ite_t hc h
              refine lv_iload hx hb dX2_joinPieces_52 (lv_at hl 5 rfl) ?_
              refine lv_iload_n hx hb dX2_joinPieces_54 rfl (lv_at hl 3 rfl) ?_
              refine o_iand hx hb dX2_joinPieces_55 ?_
              replace h := bnd h
              obtain ⟨_, hg, h⟩ := h
              refine o_if_ne (tgt := 100) hx hb hg dX2_joinPieces_56 (by decide) (fun hc => ?_) (fun hc => ?_)
              · replace h := ite_f hc h
                cases h
                exact kj _ _ _ (lv_sub hl [0, 1, 2, 3, 4, 5] rfl) hw
              · replace h := ite_t hc h
                refine lv_aload_n hx hb dX2_joinPieces_59 rfl (lv_at hl 0 rfl) ?_
                refine lv_iload hx hb dX2_joinPieces_60 (lv_at hl 5 rfl) ?_
                replace h := bnd h
                obtain ⟨⟨v11, M12⟩, e11, h⟩ := h
                refine m_callVi (k := 5) (As := [.int (Int32.ofInt v9)]) (rest := []) cx.fix hi hw (cc_X2_divides (l := l) (G := G) (sz := H.size) hi e11) (by decide) rfl rfl (w_cV 1 hts q_422 q_423 q_424 q_425 q_426 rfl rfl (by decide) (by decide)) hl.1 rfl (lv_room (Nat.le_of_ble_eq_true rfl)) dX2_joinPieces_62 (fun H locs hw => ?_)
                replace h := bnd h
                obtain ⟨_, hg, h⟩ := h
                refine o_if_eq (tgt := 100) hx hb hg dX2_joinPieces_65 (by decide) (fun hc => ?_) (fun hc => ?_)
                · replace h := ite_t hc h
                  cases h
                  exact kj _ _ _ (lv_sub hl [0, 1, 2, 3, 4, 5] rfl) hw
                · replace h := ite_f hc h
                  refine lv_aload_n hx hb dX2_joinPieces_68 rfl (lv_at hl 0 rfl) ?_
                  refine lv_aload_n hx hb dX2_joinPieces_69 rfl (lv_at hl 0 rfl) ?_
                  refine m_get (k := 5) (C := RX2) (T := TX2) (N := 11) (ref := "LiftFactors$Factorizer") (v := .ref (adr 31)) hx hb hi hts inX2_u hown hw (by decide) rfl 10 (by decide) q_400 rfl rfl dX2_joinPieces_70 ?_
                  replace h := bnd h
                  obtain ⟨v13, e13, h⟩ := h
                  refine m_callVv (k := 5) (As := [.ref (adr 31)]) (rest := []) cx.fix hi hw (cc_X2_add (l := l) (G := G) (sz := H.size) hi e13) (by decide) rfl rfl (w_cV 1 hts q_427 q_428 q_429 q_430 q_431 rfl rfl (by decide) (by decide)) hl.1 rfl (lv_room (Nat.le_of_ble_eq_true rfl)) dX2_joinPieces_73 (fun H locs hw => ?_)
                  refine lv_aload_n hx hb dX2_joinPieces_76 rfl (lv_at hl 0 rfl) ?_
                  refine m_get (k := 5) (C := RX2) (T := TX2) (N := 11) (ref := "LiftFactors$Factorizer") (v := .ref (adr 2)) hx hb hi hts inX2_u hown hw (by decide) rfl 4 (by decide) q_412 rfl rfl dX2_joinPieces_77 ?_
                  refine m_get (k := 2) (C := RX1) (T := TX1) (N := 2) (ref := "LiftFactors$Divider") (v := .ref (adr 18)) hx hb hi hts inX1_u hown hw (by decide) rfl 0 (by decide) q_432 rfl rfl dX2_joinPieces_80 ?_
                  refine lv_aload_n hx hb dX2_joinPieces_83 rfl (lv_at hl 0 rfl) ?_
                  refine m_get (k := 5) (C := RX2) (T := TX2) (N := 11) (ref := "LiftFactors$Factorizer") (v := .ref (adr 28)) hx hb hi hts inX2_u hown hw (by decide) rfl 7 (by decide) q_388 rfl rfl dX2_joinPieces_84 ?_
                  replace h := bnd h
                  obtain ⟨v14, e14, h⟩ := h
                  refine m_callSv (As := [.ref (adr 18), .ref (adr 28)]) (rest := []) cx.fix hw (cc_X5_copy (l := l) (G := G) (sz := H.size) hi e14) (w_cS 2 hts q_381 q_260 q_261 q_262 rfl rfl (by decide) (by decide)) hl.1 rfl (lv_room (Nat.le_of_ble_eq_true rfl)) dX2_joinPieces_87 (fun H locs hw => ?_)
                  refine lv_iload_n hx hb dX2_joinPieces_90 rfl (lv_at hl 3 rfl) ?_
                  refine lv_iload hx hb dX2_joinPieces_91 (lv_at hl 5 rfl) ?_
                  refine o_ior hx hb dX2_joinPieces_93 ?_
                  refine lv_istore_n (lv' := [(3, .int (Int32.ofInt (oorI v8 v9))), (0, .ref (adr 5)), (1, .int (Int32.ofInt (M.2 4 1))), (2, .int (Int32.ofInt v7)), (4, .int (Int32.ofInt v4)), (5, .int (Int32.ofInt v9))]) hx hb dX2_joinPieces_94 rfl hl (by decide) rfl (fun ls hl => ?_)
                  refine lv_iload_n hx hb dX2_joinPieces_95 rfl (lv_at hl 3 rfl) ?_
                  refine lv_iload hx hb dX2_joinPieces_96 (lv_at hl 4 rfl) ?_
                  refine o_isub hx hb dX2_joinPieces_98 ?_
                  refine lv_istore_n (lv' := [(2, .int (Int32.ofInt (v7 - v4))), (3, .int (Int32.ofInt (oorI v8 v9))), (0, .ref (adr 5)), (1, .int (Int32.ofInt (M.2 4 1))), (4, .int (Int32.ofInt v4)), (5, .int (Int32.ofInt v9))]) hx hb dX2_joinPieces_99 rfl hl (by decide) rfl (fun ls hl => ?_)
                  cases h
                  exact kj _ _ _ (lv_sub hl [2, 3, 0, 1, 4, 5] rfl) hw
      · clear hw hl
        intro ls H locs hl hw
        (try dsimp only at hl hw ⊢)
        refine lv_iinc (v := Int32.ofInt (v4 + 1)) (lv' := [(4, .int (Int32.ofInt (v4 + 1))), (0, .ref (adr 5)), (1, .int (Int32.ofInt (M.2 4 1))), (2, .int (Int32.ofInt v21)), (3, .int (Int32.ofInt v22))]) hx hb dX2_joinPieces_106 hl (k := 4) rfl (inc_o _ _) (by decide) rfl (fun ls hl => ?_)
        refine lv_goto (tgt := 15) hx hb dX2_joinPieces_109 (by decide) ?_
        cases h
        exact k2 _ rfl _ _ _ (lv_sub hl [1, 2, 3, 4, 0] rfl) hw
  · clear hw hl
    intro ls H locs hl hw
    (try dsimp only at hl hw ⊢)
    refine lv_aload_n hx hb dX2_joinPieces_112 rfl (lv_at hl 0 rfl) ?_
    refine lv_aload_n hx hb dX2_joinPieces_113 rfl (lv_at hl 0 rfl) ?_
    refine m_get (k := 5) (C := RX2) (T := TX2) (N := 11) (ref := "LiftFactors$Factorizer") (v := .ref (adr 28)) hx hb hi hts inX2_u hown hw (by decide) rfl 7 (by decide) q_388 rfl rfl dX2_joinPieces_114 ?_
    replace h := bnd h
    obtain ⟨v25, e25, h⟩ := h
    refine m_callVv (k := 5) (As := [.ref (adr 28)]) (rest := []) cx.fix hi hw (cc_X2_add (l := l) (G := G) (sz := H.size) hi e25) (by decide) rfl rfl (w_cV 1 hts q_427 q_428 q_429 q_430 q_431 rfl rfl (by decide) (by decide)) hl.1 rfl (lv_room (Nat.le_of_ble_eq_true rfl)) dX2_joinPieces_117 (fun H locs hw => ?_)
    cases h
    exact kr _ _ _ _ dX2_joinPieces_120 hw
theorem cc_X2_joinPieces {l : Launch} {G : gG} {adr : Nat → Nat} {sz : Nat} (hi : adi adr) {n : Nat} {M M' : MI} (h : f_X2_joinPieces n M = some M') : mV l yX2_joinPieces cX2_joinPieces 6 none { frames := 5, cells := 0, slots := 0, locals := 135 } G adr [.ref (adr 5)] (tm M) sz (tm M') := by
  refine wEnter (by decide) (Nat.le_of_ble_eq_true rfl) ?_
  intro p e s m below meth c ls cx hinit hl hsz hw
  exact b_X2_joinPieces cx hi h (fun pc ls H locs hd hw => w_vret (post := fun (u : Mem) => u = tm M') (lf := fun u => (LL adr, wf G adr u)) cx.1 cx.2.1 cx.2.2.1 cx.2.2.2.2.2.2 (tm M') hw rfl hd) hl hw
theorem q_433 : Cond.fieldLink RX2 16 "LiftFactors$Factorizer" "multiplicities" "[I" ∈ uU := uU_in (by decide +kernel) (by decide +kernel)
def l_X2_countMultiplicities_20 (n : Nat) (v3 : Int) : MI × Int → Option ((MI × Int) ⊕ (MI × Int)) := fun (M4, v5) =>
  Option.bind (gI v5 (10)) fun _ =>
  if (10) ≤ v5 then
    some (.inl (M4, v5))
  else
    Option.bind (odA 26 v3) fun v6 =>
    Option.bind (f_X1_divide n 28 v6 M4) fun (v7, M8) =>
    Option.bind (gI v7 0) fun _ =>
    if v7 = 0 then
      some (.inl (M8, v5))
    else
      Option.bind (f_X5_copy 18 28 M8) fun v9 =>
      some (.inr (v9, v5 + 1))
def l_X2_countMultiplicities_10 (n : Nat) : MI × Int → Option ((MI) ⊕ (MI × Int)) := fun (M2, v3) =>
  Option.bind (gI v3 (M2.2 5 2)) fun _ =>
  if (M2.2 5 2) ≤ v3 then
    some (.inl M2)
  else
    Option.bind (lpF (l_X2_countMultiplicities_20 n v3) n (M2, (0))) fun (M11, v12) =>
    Option.bind (osI M11 27 v3 v12) fun v13 =>
    some (.inr (v13, v3 + 1))
def f_X2_countMultiplicities (n : Nat) (a0 : Nat) (M : MI) : Option MI :=
  Option.bind (f_X5_copy a0 28 M) fun v1 =>
  Option.bind (lpF (l_X2_countMultiplicities_10 n) n (v1, (0))) fun M15 =>
  some M15
set_option maxRecDepth 100000 in
set_option maxHeartbeats 8000000 in
theorem b_X2_countMultiplicities {p : Program} {l : Launch} {e : Env} {s : State} {m : MethodId} {args : Array Value} {below : List Frame} {meth : Method} {c : Code} {Q : State → Prop} {G : gG} {A : Nat → Prop} {adr : Nat → Nat} (cx : cX p s m args meth c cX2_countMultiplicities none 4 yX2_countMultiplicities.cls) (hi : adi adr) {n : Nat} {a0 : Nat} {M M' : MI} 
    (h : f_X2_countMultiplicities n a0 M = some M')
    (kr : ∀ (pc : Nat) (ls : Array Slot) (H : Heap) (locs : List Loc), decode cX2_countMultiplicities pc = .ok (.return_, 1) → wH G A s.heap s (LL adr) (wf G adr (tm M')) H locs → W p l e { frames := 3, cells := 0, slots := 0, locals := 110 } s m args below meth c H locs 0 0 Q (F0 m pc ls []))
    {ls : Array Slot} {H : Heap} {locs : List Loc} (hl : lv_has ls 4 [(0, .ref (adr 5)), (1, .ref (adr a0))]) (hw : wH G A s.heap s (LL adr) (wf G adr (tm M)) H locs) : W p l e { frames := 3, cells := 0, slots := 0, locals := 110 } s m args below meth c H locs 0 0 Q (F0 m 0 ls []) := by
  obtain ⟨hx, hb, -, -, hown, hts, -⟩ := id cx
  have hown : s.vm.findClass RX2 = some m.cls := hown
  unfold f_X2_countMultiplicities at h
  refine lv_aload_n hx hb dX2_countMultiplicities_0 rfl (lv_at hl 1 rfl) ?_
  refine lv_aload_n hx hb dX2_countMultiplicities_1 rfl (lv_at hl 0 rfl) ?_
  refine m_get (k := 5) (C := RX2) (T := TX2) (N := 11) (ref := "LiftFactors$Factorizer") (v := .ref (adr 28)) hx hb hi hts inX2_u hown hw (by decide) rfl 7 (by decide) q_388 rfl rfl dX2_countMultiplicities_2 ?_
  replace h := bnd h
  obtain ⟨v1, e1, h⟩ := h
  refine m_callSv (As := [.ref (adr a0), .ref (adr 28)]) (rest := []) cx.fix hw (cc_X5_copy (l := l) (G := G) (sz := H.size) hi e1) (w_cS 2 hts q_381 q_260 q_261 q_262 rfl rfl (by decide) (by decide)) hl.1 rfl (lv_room (Nat.le_of_ble_eq_true rfl)) dX2_countMultiplicities_5 (fun H locs hw => ?_)
  refine lv_iconst (v := Int32.ofInt (0)) hx hb dX2_countMultiplicities_8 rfl ?_
  refine lv_istore_n (lv' := [(2, .int (Int32.ofInt (0))), (0, .ref (adr 5)), (1, .ref (adr a0))]) hx hb dX2_countMultiplicities_9 rfl hl (by decide) rfl (fun ls hl => ?_)
  replace h := bnd h
  obtain ⟨M15, j14, h⟩ := h
  refine lp_W (Wst := fun (st : MI × Int) => ∀ (ls : Array Slot) (H : Heap) (locs : List Loc), lv_has ls 4 [(0, .ref (adr 5)), (2, .int (Int32.ofInt st.2))] → wH G A s.heap s (LL adr) (wf G adr (tm st.1)) H locs → W p l e { frames := 3, cells := 0, slots := 0, locals := 110 } s m args below meth c H locs 0 0 Q (F0 m 10 ls [])) (fin := fun (r : MI) => ∀ (ls : Array Slot) (H : Heap) (locs : List Loc), lv_has ls 4 [] → wH G A s.heap s (LL adr) (wf G adr (tm r)) H locs → W p l e { frames := 3, cells := 0, slots := 0, locals := 110 } s m args below meth c H locs 0 0 Q (F0 m 79 ls [])) ?_ n _ _ j14 ?_ _ _ _ (lv_sub hl [1, 0] rfl) hw
  · clear h j14 hw hl
    intro ⟨M2, v3⟩ x h k1 k2 ls H locs hl hw
    (try dsimp only at k1 k2 hl hw ⊢)
    unfold l_X2_countMultiplicities_10 at h
    (try dsimp only at h)
    refine lv_iload_n hx hb dX2_countMultiplicities_10 rfl (lv_at hl 1 rfl) ?_
    refine lv_aload_n hx hb dX2_countMultiplicities_11 rfl (lv_at hl 0 rfl) ?_
    refine m_get (k := 5) (C := RX2) (T := TX2) (N := 11) (ref := "LiftFactors$Factorizer") (v := .int (Int32.ofInt (M2.2 5 2))) hx hb hi hts inX2_u hown hw (by decide) rfl 2 (by decide) q_375 rfl rfl dX2_countMultiplicities_12 ?_
    replace h := bnd h
    obtain ⟨_, hg, h⟩ := h
    refine o_icmp_ge (tgt := 79) hx hb hg dX2_countMultiplicities_15 (by decide) (fun hc => ?_) (fun hc => ?_)
    · replace h := ite_t hc h
      cases h
      exact k1 _ rfl _ _ _ (lv_sub hl [] rfl) hw
    · replace h := ite_f hc h
      refine lv_iconst (v := Int32.ofInt (0)) hx hb dX2_countMultiplicities_18 rfl ?_
      refine lv_istore_n (lv' := [(3, .int (Int32.ofInt (0))), (0, .ref (adr 5)), (2, .int (Int32.ofInt v3))]) hx hb dX2_countMultiplicities_19 rfl hl (by decide) rfl (fun ls hl => ?_)
      replace h := bnd h
      obtain ⟨⟨M11, v12⟩, j10, h⟩ := h
      refine lp_W (Wst := fun (st : MI × Int) => ∀ (ls : Array Slot) (H : Heap) (locs : List Loc), lv_has ls 4 [(0, .ref (adr 5)), (2, .int (Int32.ofInt v3)), (3, .int (Int32.ofInt st.2))] → wH G A s.heap s (LL adr) (wf G adr (tm st.1)) H locs → W p l e { frames := 3, cells := 0, slots := 0, locals := 110 } s m args below meth c H locs 0 0 Q (F0 m 20 ls [])) (fin := fun (r : MI × Int) => ∀ (ls : Array Slot) (H : Heap) (locs : List Loc), lv_has ls 4 [(0, .ref (adr 5)), (2, .int (Int32.ofInt v3)), (3, .int (Int32.ofInt r.2))] → wH G A s.heap s (LL adr) (wf G adr (tm r.1)) H locs → W p l e { frames := 3, cells := 0, slots := 0, locals := 110 } s m args below meth c H locs 0 0 Q (F0 m 66 ls [])) ?_ n _ _ j10 ?_ _ _ _ (lv_sub hl [1, 2, 0] rfl) hw
      · clear h j10 hw hl
        intro ⟨M4, v5⟩ x h k1 k2 ls H locs hl hw
        (try dsimp only at k1 k2 hl hw ⊢)
        unfold l_X2_countMultiplicities_20 at h
        (try dsimp only at h)
        refine lv_iload_n hx hb dX2_countMultiplicities_20 rfl (lv_at hl 2 rfl) ?_
        refine lv_bipush (v := Int32.ofInt (10)) hx hb dX2_countMultiplicities_21 rfl ?_
        replace h := bnd h
        obtain ⟨_, hg, h⟩ := h
        refine o_icmp_ge (tgt := 66) hx hb hg dX2_countMultiplicities_23 (by decide) (fun hc => ?_) (fun hc => ?_)
        · replace h := ite_t hc h
          cases h
          exact k1 _ rfl _ _ _ (lv_sub hl [0, 1, 2] rfl) hw
        · replace h := ite_f hc h
          refine lv_aload_n hx hb dX2_countMultiplicities_26 rfl (lv_at hl 0 rfl) ?_
          refine m_get (k := 5) (C := RX2) (T := TX2) (N := 11) (ref := "LiftFactors$Factorizer") (v := .ref (adr 2)) hx hb hi hts inX2_u hown hw (by decide) rfl 4 (by decide) q_412 rfl rfl dX2_countMultiplicities_27 ?_
          refine lv_aload_n hx hb dX2_countMultiplicities_30 rfl (lv_at hl 0 rfl) ?_
          refine m_get (k := 5) (C := RX2) (T := TX2) (N := 11) (ref := "LiftFactors$Factorizer") (v := .ref (adr 28)) hx hb hi hts inX2_u hown hw (by decide) rfl 7 (by decide) q_388 rfl rfl dX2_countMultiplicities_31 ?_
          refine lv_aload_n hx hb dX2_countMultiplicities_34 rfl (lv_at hl 0 rfl) ?_
          refine m_get (k := 5) (C := RX2) (T := TX2) (N := 11) (ref := "LiftFactors$Factorizer") (v := .ref (adr 26)) hx hb hi hts inX2_u hown hw (by decide) rfl 0 (by decide) q_376 rfl rfl dX2_countMultiplicities_35 ?_
          refine lv_iload_n hx hb dX2_countMultiplicities_38 rfl (lv_at hl 1 rfl) ?_
          replace h := bnd h
          obtain ⟨v6, e6, h⟩ := h
          refine o_aald hx hb hi hw e6 dX2_countMultiplicities_39 ?_
          replace h := bnd h
          obtain ⟨⟨v7, M8⟩, e7, h⟩ := h
          refine m_callVi (k := 2) (As := [.ref (adr 28), .ref (adr v6)]) (rest := []) cx.fix hi hw (cc_X1_divide (l := l) (G := G) (sz := H.size) hi e7) (by decide) rfl rfl (w_cV 2 hts q_413 q_414 q_415 q_416 q_417 rfl rfl (by decide) (by decide)) hl.1 rfl (lv_room (Nat.le_of_ble_eq_true rfl)) dX2_countMultiplicities_40 (fun H locs hw => ?_)
          replace h := bnd h
          obtain ⟨_, hg, h⟩ := h
          refine o_if_eq (tgt := 66) hx hb hg dX2_countMultiplicities_43 (by decide) (fun hc => ?_) (fun hc => ?_)
          · replace h := ite_t hc h
            cases h
            exact k1 _ rfl _ _ _ (lv_sub hl [0, 1, 2] rfl) hw
          · replace h := ite_f hc h
            refine lv_aload_n hx hb dX2_countMultiplicities_46 rfl (lv_at hl 0 rfl) ?_
            refine m_get (k := 5) (C := RX2) (T := TX2) (N := 11) (ref := "LiftFactors$Factorizer") (v := .ref (adr 2)) hx hb hi hts inX2_u hown hw (by decide) rfl 4 (by decide) q_412 rfl rfl dX2_countMultiplicities_47 ?_
            refine m_get (k := 2) (C := RX1) (T := TX1) (N := 2) (ref := "LiftFactors$Divider") (v := .ref (adr 18)) hx hb hi hts inX1_u hown hw (by decide) rfl 0 (by decide) q_432 rfl rfl dX2_countMultiplicities_50 ?_
            refine lv_aload_n hx hb dX2_countMultiplicities_53 rfl (lv_at hl 0 rfl) ?_
            refine m_get (k := 5) (C := RX2) (T := TX2) (N := 11) (ref := "LiftFactors$Factorizer") (v := .ref (adr 28)) hx hb hi hts inX2_u hown hw (by decide) rfl 7 (by decide) q_388 rfl rfl dX2_countMultiplicities_54 ?_
            replace h := bnd h
            obtain ⟨v9, e9, h⟩ := h
            refine m_callSv (As := [.ref (adr 18), .ref (adr 28)]) (rest := []) cx.fix hw (cc_X5_copy (l := l) (G := G) (sz := H.size) hi e9) (w_cS 2 hts q_381 q_260 q_261 q_262 rfl rfl (by decide) (by decide)) hl.1 rfl (lv_room (Nat.le_of_ble_eq_true rfl)) dX2_countMultiplicities_57 (fun H locs hw => ?_)
            refine lv_iinc (v := Int32.ofInt (v5 + 1)) (lv' := [(3, .int (Int32.ofInt (v5 + 1))), (0, .ref (adr 5)), (2, .int (Int32.ofInt v3))]) hx hb dX2_countMultiplicities_60 hl (k := 2) rfl (inc_o _ _) (by decide) rfl (fun ls hl => ?_)
            refine lv_goto (tgt := 20) hx hb dX2_countMultiplicities_63 (by decide) ?_
            cases h
            exact k2 _ rfl _ _ _ (lv_sub hl [1, 2, 0] rfl) hw
      · clear hw hl
        intro ls H locs hl hw
        (try dsimp only at hl hw ⊢)
        refine lv_aload_n hx hb dX2_countMultiplicities_66 rfl (lv_at hl 0 rfl) ?_
        refine m_get (k := 5) (C := RX2) (T := TX2) (N := 11) (ref := "LiftFactors$Factorizer") (v := .ref (adr 27)) hx hb hi hts inX2_u hown hw (by decide) rfl 1 (by decide) q_433 rfl rfl dX2_countMultiplicities_67 ?_
        refine lv_iload_n hx hb dX2_countMultiplicities_70 rfl (lv_at hl 1 rfl) ?_
        refine lv_iload_n hx hb dX2_countMultiplicities_71 rfl (lv_at hl 2 rfl) ?_
        replace h := bnd h
        obtain ⟨v13, e13, h⟩ := h
        refine o_iast hx hb hi hw e13 dX2_countMultiplicities_72 (fun H locs hw => ?_)
        refine lv_iinc (v := Int32.ofInt (v3 + 1)) (lv' := [(2, .int (Int32.ofInt (v3 + 1))), (0, .ref (adr 5)), (3, .int (Int32.ofInt v12))]) hx hb dX2_countMultiplicities_73 hl (k := 1) rfl (inc_o _ _) (by decide) rfl (fun ls hl => ?_)
        refine lv_goto (tgt := 10) hx hb dX2_countMultiplicities_76 (by decide) ?_
        cases h
        exact k2 _ rfl _ _ _ (lv_sub hl [1, 0] rfl) hw
  · clear hw hl
    intro ls H locs hl hw
    (try dsimp only at hl hw ⊢)
    cases h
    exact kr _ _ _ _ dX2_countMultiplicities_79 hw
theorem cc_X2_countMultiplicities {l : Launch} {G : gG} {adr : Nat → Nat} {sz : Nat} (hi : adi adr) {n : Nat} {a0 : Nat} {M M' : MI} (h : f_X2_countMultiplicities n a0 M = some M') : mV l yX2_countMultiplicities cX2_countMultiplicities 4 none { frames := 3, cells := 0, slots := 0, locals := 110 } G adr [.ref (adr 5), .ref (adr a0)] (tm M) sz (tm M') := by
  refine wEnter (by decide) (Nat.le_of_ble_eq_true rfl) ?_
  intro p e s m below meth c ls cx hinit hl hsz hw
  exact b_X2_countMultiplicities cx hi h (fun pc ls H locs hd hw => w_vret (post := fun (u : Mem) => u = tm M') (lf := fun u => (LL adr, wf G adr u)) cx.1 cx.2.1 cx.2.2.1 cx.2.2.2.2.2.2 (tm M') hw rfl hd) hl hw
