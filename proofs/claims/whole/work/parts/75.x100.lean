def l_X5_degree_5 (a0 : Nat) (M : MI) : Int → Option ((Int) ⊕ (Int)) := fun v2 =>
  Option.bind (gI v2 0) fun _ =>
  if v2 < 0 then
    some (.inl v2)
  else
    Option.bind (odJ M a0 v2) fun v3 =>
    Option.bind (gJ v3 (0)) fun _ =>
    if v3 = (0) then
      some (.inr (v2 + (-1)))
    else
      some (.inl v2)
def f_X5_degree (n : Nat) (a0 : Nat) (M : MI) : Option Int :=
  Option.bind (olA a0) fun v1 =>
  Option.bind (lpF (l_X5_degree_5 a0 M) n (v1 - (1))) fun v5 =>
  some v5
set_option maxRecDepth 100000 in
set_option maxHeartbeats 8000000 in
theorem b_X5_degree {p : Program} {l : Launch} {e : Env} {s : State} {m : MethodId} {args : Array Value} {below : List Frame} {meth : Method} {c : Code} {Q : State → Prop} {G : gG} {A : Nat → Prop} {adr : Nat → Nat} (cx : cX p s m args meth c cX5_degree (some .int) 2 yX5_degree.cls) (hi : adi adr) {n : Nat} {a0 : Nat} {M : MI} {r : Int} 
    (h : f_X5_degree n a0 M = some r)
    (kr : ∀ (pc : Nat) (ls : Array Slot) (H : Heap) (locs : List Loc), decode cX5_degree pc = .ok (.ireturn, 1) → wH G A s.heap s (LL adr) (wf G adr (tm M)) H locs → W p l e { frames := 0, cells := 0, slots := 0, locals := 0 } s m args below meth c H locs 0 0 Q (F0 m pc ls [.int (Int32.ofInt r)]))
    {ls : Array Slot} {H : Heap} {locs : List Loc} (hl : lv_has ls 2 [(0, .ref (adr a0))]) (hw : wH G A s.heap s (LL adr) (wf G adr (tm M)) H locs) : W p l e { frames := 0, cells := 0, slots := 0, locals := 0 } s m args below meth c H locs 0 0 Q (F0 m 0 ls []) := by
  obtain ⟨hx, hb, -, -, hown, hts, -⟩ := id cx
  have hown : s.vm.findClass RX5 = some m.cls := hown
  unfold f_X5_degree at h
  refine lv_aload_n hx hb dX5_degree_0 rfl (lv_at hl 0 rfl) ?_
  replace h := bnd h
  obtain ⟨v1, e1, h⟩ := h
  refine o_len hx hb hi hw e1 dX5_degree_1 ?_
  refine lv_iconst (v := Int32.ofInt (1)) hx hb dX5_degree_2 rfl ?_
  refine o_isub hx hb dX5_degree_3 ?_
  refine lv_istore_n (lv' := [(1, .int (Int32.ofInt (v1 - (1)))), (0, .ref (adr a0))]) hx hb dX5_degree_4 rfl hl (by decide) rfl (fun ls hl => ?_)
  replace h := bnd h
  obtain ⟨v5, j4, h⟩ := h
  refine lp_W (Wst := fun (st : Int) => ∀ (ls : Array Slot) (H : Heap) (locs : List Loc), lv_has ls 2 [(0, .ref (adr a0)), (1, .int (Int32.ofInt st))] → wH G A s.heap s (LL adr) (wf G adr (tm M)) H locs → W p l e { frames := 0, cells := 0, slots := 0, locals := 0 } s m args below meth c H locs 0 0 Q (F0 m 5 ls [])) (fin := fun (r : Int) => ∀ (ls : Array Slot) (H : Heap) (locs : List Loc), lv_has ls 2 [(1, .int (Int32.ofInt r))] → wH G A s.heap s (LL adr) (wf G adr (tm M)) H locs → W p l e { frames := 0, cells := 0, slots := 0, locals := 0 } s m args below meth c H locs 0 0 Q (F0 m 23 ls [])) ?_ n _ _ j4 ?_ _ _ _ (lv_sub hl [1, 0] rfl) hw
  · clear h j4 hw hl
    intro v2 x h k1 k2 ls H locs hl hw
    (try dsimp only at k1 k2 hl hw ⊢)
    unfold l_X5_degree_5 at h
    (try dsimp only at h)
    refine lv_iload_n hx hb dX5_degree_5 rfl (lv_at hl 1 rfl) ?_
    replace h := bnd h
    obtain ⟨_, hg, h⟩ := h
    refine o_if_lt (tgt := 23) hx hb hg dX5_degree_6 (by decide) (fun hc => ?_) (fun hc => ?_)
    · replace h := ite_t hc h
      cases h
      exact k1 _ rfl _ _ _ (lv_sub hl [1] rfl) hw
    · replace h := ite_f hc h
      refine lv_aload_n hx hb dX5_degree_9 rfl (lv_at hl 0 rfl) ?_
      refine lv_iload_n hx hb dX5_degree_10 rfl (lv_at hl 1 rfl) ?_
      replace h := bnd h
      obtain ⟨v3, e3, h⟩ := h
      refine o_lald hx hb hi hw e3 dX5_degree_11 ?_
      refine lv_lconst (v := Int64.ofInt (0)) hx hb dX5_degree_12 (by decide) ?_
      replace h := bnd h
      obtain ⟨_, hg, h⟩ := h
      refine o_lcmp_ne (tgt := 23) hx hb hg dX5_degree_13 dX5_degree_14 (by decide) (fun hc => ?_) (fun hc => ?_)
      · replace h := ite_f hc h
        cases h
        exact k1 _ rfl _ _ _ (lv_sub hl [1] rfl) hw
      · replace h := ite_t hc h
        refine lv_iinc (v := Int32.ofInt (v2 + (-1))) (lv' := [(1, .int (Int32.ofInt (v2 + (-1)))), (0, .ref (adr a0))]) hx hb dX5_degree_17 hl (k := 1) rfl (inc_o _ _) (by decide) rfl (fun ls hl => ?_)
        refine lv_goto (tgt := 5) hx hb dX5_degree_20 (by decide) ?_
        cases h
        exact k2 _ rfl _ _ _ (lv_sub hl [1, 0] rfl) hw
  · clear hw hl
    intro ls H locs hl hw
    (try dsimp only at hl hw ⊢)
    refine lv_iload_n hx hb dX5_degree_23 rfl (lv_at hl 0 rfl) ?_
    cases h
    exact kr _ _ _ _ dX5_degree_24 hw
theorem cc_X5_degree {l : Launch} {G : gG} {adr : Nat → Nat} {sz : Nat} (hi : adi adr) {n : Nat} {a0 : Nat} {M : MI} {r : Int} (h : f_X5_degree n a0 M = some r) : mI l yX5_degree cX5_degree 2 (some .int) { frames := 0, cells := 0, slots := 0, locals := 0 } G adr [.ref (adr a0)] (tm M) sz (Int32.ofInt r) (tm M) := by
  refine wEnter (by decide) (Nat.le_of_ble_eq_true rfl) ?_
  intro p e s m below meth c ls cx hinit hl hsz hw
  exact b_X5_degree cx hi h (fun pc ls H locs hd hw => w_iret (post := fun (r9 : Int32) (u : Mem) => r9 = Int32.ofInt r ∧ u = tm M) (lf := fun u => (LL adr, wf G adr u)) cx.1 cx.2.1 cx.2.2.1 cx.2.2.2.2.2.2 (tm M) hw ⟨rfl, rfl⟩ hd) hl hw
theorem q_241 : Cond.methodLink RX5 15 yJ9_abs_067f4 ∈ uU := uU_in (by decide +kernel) (by decide +kernel)
theorem q_242 : Cond.static yJ9_abs_067f4 ∈ uU := uU_in (by decide +kernel) (by decide +kernel)
theorem q_243 : Cond.initialized yJ9_abs_067f4.cls ∈ uU := uU_in (by decide +kernel) (by decide +kernel)
theorem q_244 : Cond.code yJ9_abs_067f4 cJ9_abs_067f4 2 (some .long) ∈ uU := uU_in (by decide +kernel) (by decide +kernel)
def l_X5_commonMeasure_15 : Int × Int × Int → Option ((Int) ⊕ (Int × Int × Int)) := fun (v3, v4, v5) =>
  Option.bind (gI v5 (128)) fun _ =>
  if (128) ≤ v5 then
    some (.inl v3)
  else
    Option.bind (gJ v4 (0)) fun _ =>
    if v4 = (0) then
      some (.inl v3)
    else
      Option.bind (orJ v3 v4) fun v6 =>
      some (.inr (v4, v6, v5 + 1))
def f_X5_commonMeasure (n : Nat) (a0 : Int) (a1 : Int) : Option Int :=
  Option.bind (f_J9_abs_067f4 a0) fun v1 =>
  Option.bind (f_J9_abs_067f4 a1) fun v2 =>
  Option.bind (lpF (l_X5_commonMeasure_15) n (v1, v2, (0))) fun v8 =>
  some v8
set_option maxRecDepth 100000 in
set_option maxHeartbeats 8000000 in
theorem b_X5_commonMeasure {p : Program} {l : Launch} {e : Env} {s : State} {m : MethodId} {args : Array Value} {below : List Frame} {meth : Method} {c : Code} {Q : State → Prop} {G : gG} {A : Nat → Prop} {adr : Nat → Nat} (cx : cX p s m args meth c cX5_commonMeasure (some .long) 11 yX5_commonMeasure.cls) (hi : adi adr) {n : Nat} {a0 : Int} {a1 : Int} {M : MI} {r : Int} 
    (h : f_X5_commonMeasure n a0 a1 = some r)
    (kr : ∀ (pc : Nat) (ls : Array Slot) (H : Heap) (locs : List Loc), decode cX5_commonMeasure pc = .ok (.lreturn, 1) → wH G A s.heap s (LL adr) (wf G adr (tm M)) H locs → W p l e { frames := 1, cells := 0, slots := 0, locals := 21 } s m args below meth c H locs 0 0 Q (F0 m pc ls [.long (Int64.ofInt r)]))
    {ls : Array Slot} {H : Heap} {locs : List Loc} (hl : lv_has ls 11 [(0, .long (Int64.ofInt a0)), (2, .long (Int64.ofInt a1))]) (hw : wH G A s.heap s (LL adr) (wf G adr (tm M)) H locs) : W p l e { frames := 1, cells := 0, slots := 0, locals := 21 } s m args below meth c H locs 0 0 Q (F0 m 0 ls []) := by
  obtain ⟨hx, hb, -, -, hown, hts, -⟩ := id cx
  have hown : s.vm.findClass RX5 = some m.cls := hown
  unfold f_X5_commonMeasure at h
  refine lv_lload_n hx hb dX5_commonMeasure_0 rfl (lv_at hl 0 rfl) ?_
  replace h := bnd h
  obtain ⟨v1, e1, h⟩ := h
  refine m_callSl (As := [.long (Int64.ofInt a0)]) (rest := []) cx.fix hw (cc_J9_abs_067f4 (l := l) (G := G) (sz := H.size) (M := M) hi e1) (w_cS 1 hts q_241 q_242 q_243 q_244 rfl rfl (by decide) (by decide)) hl.1 rfl (lv_room (Nat.le_of_ble_eq_true rfl)) dX5_commonMeasure_1 (fun H locs hw => ?_)
  refine lv_lstore (lv' := [(4, .long (Int64.ofInt v1)), (0, .long (Int64.ofInt a0)), (2, .long (Int64.ofInt a1))]) hx hb dX5_commonMeasure_4 hl (by decide) rfl (fun ls hl => ?_)
  refine lv_lload_n hx hb dX5_commonMeasure_6 rfl (lv_at hl 2 rfl) ?_
  replace h := bnd h
  obtain ⟨v2, e2, h⟩ := h
  refine m_callSl (As := [.long (Int64.ofInt a1)]) (rest := []) cx.fix hw (cc_J9_abs_067f4 (l := l) (G := G) (sz := H.size) (M := M) hi e2) (w_cS 1 hts q_241 q_242 q_243 q_244 rfl rfl (by decide) (by decide)) hl.1 rfl (lv_room (Nat.le_of_ble_eq_true rfl)) dX5_commonMeasure_7 (fun H locs hw => ?_)
  refine lv_lstore (lv' := [(6, .long (Int64.ofInt v2)), (4, .long (Int64.ofInt v1)), (0, .long (Int64.ofInt a0)), (2, .long (Int64.ofInt a1))]) hx hb dX5_commonMeasure_10 hl (by decide) rfl (fun ls hl => ?_)
  refine lv_iconst (v := Int32.ofInt (0)) hx hb dX5_commonMeasure_12 rfl ?_
  refine lv_istore (lv' := [(8, .int (Int32.ofInt (0))), (6, .long (Int64.ofInt v2)), (4, .long (Int64.ofInt v1)), (0, .long (Int64.ofInt a0)), (2, .long (Int64.ofInt a1))]) hx hb dX5_commonMeasure_13 hl (by decide) rfl (fun ls hl => ?_)
  replace h := bnd h
  obtain ⟨v8, j7, h⟩ := h
  refine lp_W (Wst := fun (st : Int × Int × Int) => ∀ (ls : Array Slot) (H : Heap) (locs : List Loc), lv_has ls 11 [(4, .long (Int64.ofInt st.1)), (6, .long (Int64.ofInt st.2.1)), (8, .int (Int32.ofInt st.2.2))] → wH G A s.heap s (LL adr) (wf G adr (tm M)) H locs → W p l e { frames := 1, cells := 0, slots := 0, locals := 21 } s m args below meth c H locs 0 0 Q (F0 m 15 ls [])) (fin := fun (r : Int) => ∀ (ls : Array Slot) (H : Heap) (locs : List Loc), lv_has ls 11 [(4, .long (Int64.ofInt r))] → wH G A s.heap s (LL adr) (wf G adr (tm M)) H locs → W p l e { frames := 1, cells := 0, slots := 0, locals := 21 } s m args below meth c H locs 0 0 Q (F0 m 51 ls [])) ?_ n _ _ j7 ?_ _ _ _ (lv_sub hl [2, 1, 0] rfl) hw
  · clear h j7 hw hl
    intro ⟨v3, v4, v5⟩ x h k1 k2 ls H locs hl hw
    (try dsimp only at k1 k2 hl hw ⊢)
    unfold l_X5_commonMeasure_15 at h
    (try dsimp only at h)
    refine lv_iload hx hb dX5_commonMeasure_15 (lv_at hl 2 rfl) ?_
    refine lv_sipush (v := Int32.ofInt (128)) hx hb dX5_commonMeasure_17 rfl ?_
    replace h := bnd h
    obtain ⟨_, hg, h⟩ := h
    refine o_icmp_ge (tgt := 51) hx hb hg dX5_commonMeasure_20 (by decide) (fun hc => ?_) (fun hc => ?_)
    · replace h := ite_t hc h
      cases h
      exact k1 _ rfl _ _ _ (lv_sub hl [0] rfl) hw
    · replace h := ite_f hc h
      refine lv_lload hx hb dX5_commonMeasure_23 (lv_at hl 1 rfl) ?_
      refine lv_lconst (v := Int64.ofInt (0)) hx hb dX5_commonMeasure_25 (by decide) ?_
      replace h := bnd h
      obtain ⟨_, hg, h⟩ := h
      refine o_lcmp_eq (tgt := 51) hx hb hg dX5_commonMeasure_26 dX5_commonMeasure_27 (by decide) (fun hc => ?_) (fun hc => ?_)
      · replace h := ite_t hc h
        cases h
        exact k1 _ rfl _ _ _ (lv_sub hl [0] rfl) hw
      · replace h := ite_f hc h
        refine lv_lload hx hb dX5_commonMeasure_30 (lv_at hl 0 rfl) ?_
        refine lv_lload hx hb dX5_commonMeasure_32 (lv_at hl 1 rfl) ?_
        replace h := bnd h
        obtain ⟨v6, e6, h⟩ := h
        refine o_lrem hx hb e6 dX5_commonMeasure_34 ?_
        refine lv_lstore (lv' := [(9, .long (Int64.ofInt v6)), (4, .long (Int64.ofInt v3)), (6, .long (Int64.ofInt v4)), (8, .int (Int32.ofInt v5))]) hx hb dX5_commonMeasure_35 hl (by decide) rfl (fun ls hl => ?_)
        refine lv_lload hx hb dX5_commonMeasure_37 (lv_at hl 2 rfl) ?_
        refine lv_lstore (lv' := [(4, .long (Int64.ofInt v4)), (9, .long (Int64.ofInt v6)), (6, .long (Int64.ofInt v4)), (8, .int (Int32.ofInt v5))]) hx hb dX5_commonMeasure_39 hl (by decide) rfl (fun ls hl => ?_)
        refine lv_lload hx hb dX5_commonMeasure_41 (lv_at hl 1 rfl) ?_
        refine lv_lstore (lv' := [(6, .long (Int64.ofInt v6)), (4, .long (Int64.ofInt v4)), (9, .long (Int64.ofInt v6)), (8, .int (Int32.ofInt v5))]) hx hb dX5_commonMeasure_43 hl (by decide) rfl (fun ls hl => ?_)
        refine lv_iinc (v := Int32.ofInt (v5 + 1)) (lv' := [(8, .int (Int32.ofInt (v5 + 1))), (6, .long (Int64.ofInt v6)), (4, .long (Int64.ofInt v4)), (9, .long (Int64.ofInt v6))]) hx hb dX5_commonMeasure_45 hl (k := 3) rfl (inc_o _ _) (by decide) rfl (fun ls hl => ?_)
        refine lv_goto (tgt := 15) hx hb dX5_commonMeasure_48 (by decide) ?_
        cases h
        exact k2 _ rfl _ _ _ (lv_sub hl [2, 1, 0] rfl) hw
  · clear hw hl
    intro ls H locs hl hw
    (try dsimp only at hl hw ⊢)
    refine lv_lload hx hb dX5_commonMeasure_51 (lv_at hl 0 rfl) ?_
    cases h
    exact kr _ _ _ _ dX5_commonMeasure_53 hw
theorem cc_X5_commonMeasure {l : Launch} {G : gG} {adr : Nat → Nat} {sz : Nat} (hi : adi adr) {n : Nat} {a0 : Int} {a1 : Int} {M : MI} {r : Int} (h : f_X5_commonMeasure n a0 a1 = some r) : mL l yX5_commonMeasure cX5_commonMeasure 11 (some .long) { frames := 1, cells := 0, slots := 0, locals := 21 } G adr [.long (Int64.ofInt a0), .long (Int64.ofInt a1)] (tm M) sz (Int64.ofInt r) (tm M) := by
  refine wEnter (by decide) (Nat.le_of_ble_eq_true rfl) ?_
  intro p e s m below meth c ls cx hinit hl hsz hw
  exact b_X5_commonMeasure cx hi h (fun pc ls H locs hd hw => w_lret (post := fun (r9 : Int64) (u : Mem) => r9 = Int64.ofInt r ∧ u = tm M) (lf := fun u => (LL adr, wf G adr u)) cx.1 cx.2.1 cx.2.2.1 cx.2.2.2.2.2.2 (tm M) hw ⟨rfl, rfl⟩ hd) hl hw
theorem q_245 : Cond.methodLink RX5 23 yX5_degree ∈ uU := uU_in (by decide +kernel) (by decide +kernel)
theorem q_246 : Cond.static yX5_degree ∈ uU := uU_in (by decide +kernel) (by decide +kernel)
theorem q_247 : Cond.initialized yX5_degree.cls ∈ uU := uU_in (by decide +kernel) (by decide +kernel)
theorem q_248 : Cond.code yX5_degree cX5_degree 2 (some .int) ∈ uU := uU_in (by decide +kernel) (by decide +kernel)
theorem q_249 : Cond.methodLink RX5 27 yX5_commonMeasure ∈ uU := uU_in (by decide +kernel) (by decide +kernel)
theorem q_250 : Cond.static yX5_commonMeasure ∈ uU := uU_in (by decide +kernel) (by decide +kernel)
theorem q_251 : Cond.initialized yX5_commonMeasure.cls ∈ uU := uU_in (by decide +kernel) (by decide +kernel)
theorem q_252 : Cond.code yX5_commonMeasure cX5_commonMeasure 11 (some .long) ∈ uU := uU_in (by decide +kernel) (by decide +kernel)
def l_X5_signedContent_10 (n : Nat) (a0 : Nat) (M : MI) : Int × Int → Option ((Int) ⊕ (Int × Int)) := fun (v2, v3) =>
  Option.bind (gI v3 0) fun _ =>
  if v3 < 0 then
    some (.inl v2)
  else
    Option.bind (gJ v2 (1)) fun _ =>
    if v2 = (1) then
      some (.inl v2)
    else
      Option.bind (odJ M a0 v3) fun v4 =>
      Option.bind (f_X5_commonMeasure n v2 v4) fun v5 =>
      some (.inr (v5, v3 + (-1)))
def f_X5_signedContent (n : Nat) (a0 : Nat) (M : MI) : Option Int :=
  Option.bind (f_X5_degree n a0 M) fun v1 =>
  Option.bind (lpF (l_X5_signedContent_10 n a0 M) n ((0), v1)) fun v7 =>
  Option.bind (
    Option.bind (gI v1 0) fun _ =>
    if v1 < 0 then
      some v7
    else
      Option.bind (odJ M a0 v1) fun v8 =>
      Option.bind (gJ v8 (0)) fun _ =>
      if (0) ≤ v8 then
        some v7
      else
        some (-v7)) fun v9 =>
  some v9
set_option maxRecDepth 100000 in
set_option maxHeartbeats 8000000 in
theorem b_X5_signedContent {p : Program} {l : Launch} {e : Env} {s : State} {m : MethodId} {args : Array Value} {below : List Frame} {meth : Method} {c : Code} {Q : State → Prop} {G : gG} {A : Nat → Prop} {adr : Nat → Nat} (cx : cX p s m args meth c cX5_signedContent (some .long) 5 yX5_signedContent.cls) (hi : adi adr) {n : Nat} {a0 : Nat} {M : MI} {r : Int} 
    (h : f_X5_signedContent n a0 M = some r)
    (kr : ∀ (pc : Nat) (ls : Array Slot) (H : Heap) (locs : List Loc), decode cX5_signedContent pc = .ok (.lreturn, 1) → wH G A s.heap s (LL adr) (wf G adr (tm M)) H locs → W p l e { frames := 2, cells := 0, slots := 0, locals := 51 } s m args below meth c H locs 0 0 Q (F0 m pc ls [.long (Int64.ofInt r)]))
    {ls : Array Slot} {H : Heap} {locs : List Loc} (hl : lv_has ls 5 [(0, .ref (adr a0))]) (hw : wH G A s.heap s (LL adr) (wf G adr (tm M)) H locs) : W p l e { frames := 2, cells := 0, slots := 0, locals := 51 } s m args below meth c H locs 0 0 Q (F0 m 0 ls []) := by
  obtain ⟨hx, hb, -, -, hown, hts, -⟩ := id cx
  have hown : s.vm.findClass RX5 = some m.cls := hown
  unfold f_X5_signedContent at h
  refine lv_aload_n hx hb dX5_signedContent_0 rfl (lv_at hl 0 rfl) ?_
  replace h := bnd h
  obtain ⟨v1, e1, h⟩ := h
  refine m_callSi (As := [.ref (adr a0)]) (rest := []) cx.fix hw (cc_X5_degree (l := l) (G := G) (sz := H.size) hi e1) (w_cS 1 hts q_245 q_246 q_247 q_248 rfl rfl (by decide) (by decide)) hl.1 rfl (lv_room (Nat.le_of_ble_eq_true rfl)) dX5_signedContent_1 (fun H locs hw => ?_)
  refine lv_istore_n (lv' := [(1, .int (Int32.ofInt v1)), (0, .ref (adr a0))]) hx hb dX5_signedContent_4 rfl hl (by decide) rfl (fun ls hl => ?_)
  refine lv_lconst (v := Int64.ofInt (0)) hx hb dX5_signedContent_5 (by decide) ?_
  refine lv_lstore_n (lv' := [(2, .long (Int64.ofInt (0))), (1, .int (Int32.ofInt v1)), (0, .ref (adr a0))]) hx hb dX5_signedContent_6 rfl hl (by decide) rfl (fun ls hl => ?_)
  refine lv_iload_n hx hb dX5_signedContent_7 rfl (lv_at hl 1 rfl) ?_
  refine lv_istore (lv' := [(4, .int (Int32.ofInt v1)), (2, .long (Int64.ofInt (0))), (1, .int (Int32.ofInt v1)), (0, .ref (adr a0))]) hx hb dX5_signedContent_8 hl (by decide) rfl (fun ls hl => ?_)
  replace h := bnd h
  obtain ⟨v7, j6, h⟩ := h
  refine lp_W (Wst := fun (st : Int × Int) => ∀ (ls : Array Slot) (H : Heap) (locs : List Loc), lv_has ls 5 [(0, .ref (adr a0)), (1, .int (Int32.ofInt v1)), (2, .long (Int64.ofInt st.1)), (4, .int (Int32.ofInt st.2))] → wH G A s.heap s (LL adr) (wf G adr (tm M)) H locs → W p l e { frames := 2, cells := 0, slots := 0, locals := 51 } s m args below meth c H locs 0 0 Q (F0 m 10 ls [])) (fin := fun (r : Int) => ∀ (ls : Array Slot) (H : Heap) (locs : List Loc), lv_has ls 5 [(0, .ref (adr a0)), (1, .int (Int32.ofInt v1)), (2, .long (Int64.ofInt r))] → wH G A s.heap s (LL adr) (wf G adr (tm M)) H locs → W p l e { frames := 2, cells := 0, slots := 0, locals := 51 } s m args below meth c H locs 0 0 Q (F0 m 36 ls [])) ?_ n _ _ j6 ?_ _ _ _ (lv_sub hl [3, 2, 1, 0] rfl) hw
  · clear h j6 hw hl
    intro ⟨v2, v3⟩ x h k1 k2 ls H locs hl hw
    (try dsimp only at k1 k2 hl hw ⊢)
    unfold l_X5_signedContent_10 at h
    (try dsimp only at h)
    refine lv_iload hx hb dX5_signedContent_10 (lv_at hl 3 rfl) ?_
    replace h := bnd h
    obtain ⟨_, hg, h⟩ := h
    refine o_if_lt (tgt := 36) hx hb hg dX5_signedContent_12 (by decide) (fun hc => ?_) (fun hc => ?_)
    · replace h := ite_t hc h
      cases h
      exact k1 _ rfl _ _ _ (lv_sub hl [0, 1, 2] rfl) hw
    · replace h := ite_f hc h
      refine lv_lload_n hx hb dX5_signedContent_15 rfl (lv_at hl 2 rfl) ?_
      refine lv_lconst (v := Int64.ofInt (1)) hx hb dX5_signedContent_16 (by decide) ?_
      replace h := bnd h
      obtain ⟨_, hg, h⟩ := h
      refine o_lcmp_eq (tgt := 36) hx hb hg dX5_signedContent_17 dX5_signedContent_18 (by decide) (fun hc => ?_) (fun hc => ?_)
      · replace h := ite_t hc h
        cases h
        exact k1 _ rfl _ _ _ (lv_sub hl [0, 1, 2] rfl) hw
      · replace h := ite_f hc h
        refine lv_lload_n hx hb dX5_signedContent_21 rfl (lv_at hl 2 rfl) ?_
        refine lv_aload_n hx hb dX5_signedContent_22 rfl (lv_at hl 0 rfl) ?_
        refine lv_iload hx hb dX5_signedContent_23 (lv_at hl 3 rfl) ?_
        replace h := bnd h
        obtain ⟨v4, e4, h⟩ := h
        refine o_lald hx hb hi hw e4 dX5_signedContent_25 ?_
        replace h := bnd h
        obtain ⟨v5, e5, h⟩ := h
        refine m_callSl (As := [.long (Int64.ofInt v2), .long (Int64.ofInt v4)]) (rest := []) cx.fix hw (cc_X5_commonMeasure (l := l) (G := G) (sz := H.size) (M := M) hi e5) (w_cS 2 hts q_249 q_250 q_251 q_252 rfl rfl (by decide) (by decide)) hl.1 rfl (lv_room (Nat.le_of_ble_eq_true rfl)) dX5_signedContent_26 (fun H locs hw => ?_)
        refine lv_lstore_n (lv' := [(2, .long (Int64.ofInt v5)), (0, .ref (adr a0)), (1, .int (Int32.ofInt v1)), (4, .int (Int32.ofInt v3))]) hx hb dX5_signedContent_29 rfl hl (by decide) rfl (fun ls hl => ?_)
        refine lv_iinc (v := Int32.ofInt (v3 + (-1))) (lv' := [(4, .int (Int32.ofInt (v3 + (-1)))), (2, .long (Int64.ofInt v5)), (0, .ref (adr a0)), (1, .int (Int32.ofInt v1))]) hx hb dX5_signedContent_30 hl (k := 3) rfl (inc_o _ _) (by decide) rfl (fun ls hl => ?_)
        refine lv_goto (tgt := 10) hx hb dX5_signedContent_33 (by decide) ?_
        cases h
        exact k2 _ rfl _ _ _ (lv_sub hl [2, 3, 1, 0] rfl) hw
  · clear hw hl
    intro ls H locs hl hw
    (try dsimp only at hl hw ⊢)
    refine lv_iload_n hx hb dX5_signedContent_36 rfl (lv_at hl 1 rfl) ?_
    replace h := bnd h
    obtain ⟨v9, j10, h⟩ := h
    have kj : ∀ (ls : Array Slot) (H : Heap) (locs : List Loc), lv_has ls 5 [] → wH G A s.heap s (LL adr) (wf G adr (tm M)) H locs → W p l e { frames := 2, cells := 0, slots := 0, locals := 51 } s m args below meth c H locs 0 0 Q (F0 m 54 ls [.long (Int64.ofInt v9)]) := by
      intro ls H locs hl hw
      cases h
      exact kr _ _ _ _ dX5_signedContent_54 hw
    clear h
    replace h := j10
    clear j10
    replace h := bnd h
    obtain ⟨_, hg, h⟩ := h
    refine o_if_lt (tgt := 53) hx hb hg dX5_signedContent_37 (by decide) (fun hc => ?_) (fun hc => ?_)
    · replace h := ite_t hc h
      refine lv_lload_n hx hb dX5_signedContent_53 rfl (lv_at hl 2 rfl) ?_
      cases h
      exact kj _ _ _ (lv_sub hl [] rfl) hw
    · replace h := ite_f hc h
      refine lv_aload_n hx hb dX5_signedContent_40 rfl (lv_at hl 0 rfl) ?_
      refine lv_iload_n hx hb dX5_signedContent_41 rfl (lv_at hl 1 rfl) ?_
      replace h := bnd h
      obtain ⟨v8, e8, h⟩ := h
      refine o_lald hx hb hi hw e8 dX5_signedContent_42 ?_
      refine lv_lconst (v := Int64.ofInt (0)) hx hb dX5_signedContent_43 (by decide) ?_
      replace h := bnd h
      obtain ⟨_, hg, h⟩ := h
      refine o_lcmp_ge (tgt := 53) hx hb hg dX5_signedContent_44 dX5_signedContent_45 (by decide) (fun hc => ?_) (fun hc => ?_)
      · replace h := ite_t hc h
        refine lv_lload_n hx hb dX5_signedContent_53 rfl (lv_at hl 2 rfl) ?_
        cases h
        exact kj _ _ _ (lv_sub hl [] rfl) hw
      · replace h := ite_f hc h
        refine lv_lload_n hx hb dX5_signedContent_48 rfl (lv_at hl 2 rfl) ?_
        refine o_lneg hx hb dX5_signedContent_49 ?_
        refine lv_goto (tgt := 54) hx hb dX5_signedContent_50 (by decide) ?_
        cases h
        exact kj _ _ _ (lv_sub hl [] rfl) hw
theorem cc_X5_signedContent {l : Launch} {G : gG} {adr : Nat → Nat} {sz : Nat} (hi : adi adr) {n : Nat} {a0 : Nat} {M : MI} {r : Int} (h : f_X5_signedContent n a0 M = some r) : mL l yX5_signedContent cX5_signedContent 5 (some .long) { frames := 2, cells := 0, slots := 0, locals := 51 } G adr [.ref (adr a0)] (tm M) sz (Int64.ofInt r) (tm M) := by
  refine wEnter (by decide) (Nat.le_of_ble_eq_true rfl) ?_
  intro p e s m below meth c ls cx hinit hl hsz hw
  exact b_X5_signedContent cx hi h (fun pc ls H locs hd hw => w_lret (post := fun (r9 : Int64) (u : Mem) => r9 = Int64.ofInt r ∧ u = tm M) (lf := fun u => (LL adr, wf G adr u)) cx.1 cx.2.1 cx.2.2.1 cx.2.2.2.2.2.2 (tm M) hw ⟨rfl, rfl⟩ hd) hl hw
theorem q_253 : Cond.methodLink RX5 31 yX5_signedContent ∈ uU := uU_in (by decide +kernel) (by decide +kernel)
theorem q_254 : Cond.static yX5_signedContent ∈ uU := uU_in (by decide +kernel) (by decide +kernel)
theorem q_255 : Cond.initialized yX5_signedContent.cls ∈ uU := uU_in (by decide +kernel) (by decide +kernel)
theorem q_256 : Cond.code yX5_signedContent cX5_signedContent 5 (some .long) ∈ uU := uU_in (by decide +kernel) (by decide +kernel)
def l_X5_makePrimitive_20 (a0 : Nat) (v1 : Int) : MI × Int → Option ((MI) ⊕ (MI × Int)) := fun (M2, v3) =>
  Option.bind (olA a0) fun v4 =>
  Option.bind (gI v3 v4) fun _ =>
  if v4 ≤ v3 then
    some (.inl M2)
  else
    Option.bind (odJ M2 a0 v3) fun v5 =>
    Option.bind (oqJ v5 v1) fun v6 =>
    Option.bind (osJ M2 a0 v3 v6) fun v7 =>
    some (.inr (v7, v3 + 1))
def f_X5_makePrimitive (n : Nat) (a0 : Nat) (M : MI) : Option MI :=
  Option.bind (f_X5_signedContent n a0 M) fun v1 =>
  Option.bind (gJ v1 (0)) fun _ =>
  if v1 = (0) then
    some M
  else
    Option.bind (gJ v1 (1)) fun _ =>
    if v1 = (1) then
      some M
    else
      Option.bind (lpF (l_X5_makePrimitive_20 a0 v1) n (M, (0))) fun M9 =>
      some M9
set_option maxRecDepth 100000 in
set_option maxHeartbeats 8000000 in
theorem b_X5_makePrimitive {p : Program} {l : Launch} {e : Env} {s : State} {m : MethodId} {args : Array Value} {below : List Frame} {meth : Method} {c : Code} {Q : State → Prop} {G : gG} {A : Nat → Prop} {adr : Nat → Nat} (cx : cX p s m args meth c cX5_makePrimitive none 4 yX5_makePrimitive.cls) (hi : adi adr) {n : Nat} {a0 : Nat} {M M' : MI} 
    (h : f_X5_makePrimitive n a0 M = some M')
    (kr : ∀ (pc : Nat) (ls : Array Slot) (H : Heap) (locs : List Loc), decode cX5_makePrimitive pc = .ok (.return_, 1) → wH G A s.heap s (LL adr) (wf G adr (tm M')) H locs → W p l e { frames := 3, cells := 0, slots := 0, locals := 75 } s m args below meth c H locs 0 0 Q (F0 m pc ls []))
    {ls : Array Slot} {H : Heap} {locs : List Loc} (hl : lv_has ls 4 [(0, .ref (adr a0))]) (hw : wH G A s.heap s (LL adr) (wf G adr (tm M)) H locs) : W p l e { frames := 3, cells := 0, slots := 0, locals := 75 } s m args below meth c H locs 0 0 Q (F0 m 0 ls []) := by
  obtain ⟨hx, hb, -, -, hown, hts, -⟩ := id cx
  have hown : s.vm.findClass RX5 = some m.cls := hown
  unfold f_X5_makePrimitive at h
  refine lv_aload_n hx hb dX5_makePrimitive_0 rfl (lv_at hl 0 rfl) ?_
  replace h := bnd h
  obtain ⟨v1, e1, h⟩ := h
  refine m_callSl (As := [.ref (adr a0)]) (rest := []) cx.fix hw (cc_X5_signedContent (l := l) (G := G) (sz := H.size) hi e1) (w_cS 1 hts q_253 q_254 q_255 q_256 rfl rfl (by decide) (by decide)) hl.1 rfl (lv_room (Nat.le_of_ble_eq_true rfl)) dX5_makePrimitive_1 (fun H locs hw => ?_)
  refine lv_lstore_n (lv' := [(1, .long (Int64.ofInt v1)), (0, .ref (adr a0))]) hx hb dX5_makePrimitive_4 rfl hl (by decide) rfl (fun ls hl => ?_)
  refine lv_lload_n hx hb dX5_makePrimitive_5 rfl (lv_at hl 0 rfl) ?_
  refine lv_lconst (v := Int64.ofInt (0)) hx hb dX5_makePrimitive_6 (by decide) ?_
  replace h := bnd h
  obtain ⟨_, hg, h⟩ := h
  refine o_lcmp_eq (tgt := 17) hx hb hg dX5_makePrimitive_7 dX5_makePrimitive_8 (by decide) (fun hc => ?_) (fun hc => ?_)
  · replace h := ite_t hc h
    cases h
    exact kr _ _ _ _ dX5_makePrimitive_17 hw
  · replace h := ite_f hc h
    refine lv_lload_n hx hb dX5_makePrimitive_11 rfl (lv_at hl 0 rfl) ?_
    refine lv_lconst (v := Int64.ofInt (1)) hx hb dX5_makePrimitive_12 (by decide) ?_
    replace h := bnd h
    obtain ⟨_, hg, h⟩ := h
    refine o_lcmp_ne (tgt := 18) hx hb hg dX5_makePrimitive_13 dX5_makePrimitive_14 (by decide) (fun hc => ?_) (fun hc => ?_)
    · replace h := ite_f hc h
      refine lv_iconst (v := Int32.ofInt (0)) hx hb dX5_makePrimitive_18 rfl ?_
      refine lv_istore_n (lv' := [(3, .int (Int32.ofInt (0))), (1, .long (Int64.ofInt v1)), (0, .ref (adr a0))]) hx hb dX5_makePrimitive_19 rfl hl (by decide) rfl (fun ls hl => ?_)
      replace h := bnd h
      obtain ⟨M9, j8, h⟩ := h
      refine lp_W (Wst := fun (st : MI × Int) => ∀ (ls : Array Slot) (H : Heap) (locs : List Loc), lv_has ls 4 [(0, .ref (adr a0)), (1, .long (Int64.ofInt v1)), (3, .int (Int32.ofInt st.2))] → wH G A s.heap s (LL adr) (wf G adr (tm st.1)) H locs → W p l e { frames := 3, cells := 0, slots := 0, locals := 75 } s m args below meth c H locs 0 0 Q (F0 m 20 ls [])) (fin := fun (r : MI) => ∀ (ls : Array Slot) (H : Heap) (locs : List Loc), lv_has ls 4 [] → wH G A s.heap s (LL adr) (wf G adr (tm r)) H locs → W p l e { frames := 3, cells := 0, slots := 0, locals := 75 } s m args below meth c H locs 0 0 Q (F0 m 39 ls [])) ?_ n _ _ j8 ?_ _ _ _ (lv_sub hl [2, 1, 0] rfl) hw
      · clear h j8 hw hl
        intro ⟨M2, v3⟩ x h k1 k2 ls H locs hl hw
        (try dsimp only at k1 k2 hl hw ⊢)
        unfold l_X5_makePrimitive_20 at h
        (try dsimp only at h)
        refine lv_iload_n hx hb dX5_makePrimitive_20 rfl (lv_at hl 2 rfl) ?_
        refine lv_aload_n hx hb dX5_makePrimitive_21 rfl (lv_at hl 0 rfl) ?_
        replace h := bnd h
        obtain ⟨v4, e4, h⟩ := h
        refine o_len hx hb hi hw e4 dX5_makePrimitive_22 ?_
        replace h := bnd h
        obtain ⟨_, hg, h⟩ := h
        refine o_icmp_ge (tgt := 39) hx hb hg dX5_makePrimitive_23 (by decide) (fun hc => ?_) (fun hc => ?_)
        · replace h := ite_t hc h
          cases h
          exact k1 _ rfl _ _ _ (lv_sub hl [] rfl) hw
        · replace h := ite_f hc h
          refine lv_aload_n hx hb dX5_makePrimitive_26 rfl (lv_at hl 0 rfl) ?_
          refine lv_iload_n hx hb dX5_makePrimitive_27 rfl (lv_at hl 2 rfl) ?_
          refine lv_dup2_11 hx hb dX5_makePrimitive_28 rfl rfl ?_
          replace h := bnd h
          obtain ⟨v5, e5, h⟩ := h
          refine o_lald hx hb hi hw e5 dX5_makePrimitive_29 ?_
          refine lv_lload_n hx hb dX5_makePrimitive_30 rfl (lv_at hl 1 rfl) ?_
          replace h := bnd h
          obtain ⟨v6, e6, h⟩ := h
          refine o_ldiv hx hb e6 dX5_makePrimitive_31 ?_
          replace h := bnd h
          obtain ⟨v7, e7, h⟩ := h
          refine o_last hx hb hi hw e7 dX5_makePrimitive_32 (fun H locs hw => ?_)
          refine lv_iinc (v := Int32.ofInt (v3 + 1)) (lv' := [(3, .int (Int32.ofInt (v3 + 1))), (0, .ref (adr a0)), (1, .long (Int64.ofInt v1))]) hx hb dX5_makePrimitive_33 hl (k := 2) rfl (inc_o _ _) (by decide) rfl (fun ls hl => ?_)
          refine lv_goto (tgt := 20) hx hb dX5_makePrimitive_36 (by decide) ?_
          cases h
          exact k2 _ rfl _ _ _ (lv_sub hl [1, 2, 0] rfl) hw
      · clear hw hl
        intro ls H locs hl hw
        (try dsimp only at hl hw ⊢)
        cases h
        exact kr _ _ _ _ dX5_makePrimitive_39 hw
    · replace h := ite_t hc h
      cases h
      exact kr _ _ _ _ dX5_makePrimitive_17 hw
theorem cc_X5_makePrimitive {l : Launch} {G : gG} {adr : Nat → Nat} {sz : Nat} (hi : adi adr) {n : Nat} {a0 : Nat} {M M' : MI} (h : f_X5_makePrimitive n a0 M = some M') : mV l yX5_makePrimitive cX5_makePrimitive 4 none { frames := 3, cells := 0, slots := 0, locals := 75 } G adr [.ref (adr a0)] (tm M) sz (tm M') := by
  refine wEnter (by decide) (Nat.le_of_ble_eq_true rfl) ?_
  intro p e s m below meth c ls cx hinit hl hsz hw
  exact b_X5_makePrimitive cx hi h (fun pc ls H locs hd hw => w_vret (post := fun (u : Mem) => u = tm M') (lf := fun u => (LL adr, wf G adr u)) cx.1 cx.2.1 cx.2.2.1 cx.2.2.2.2.2.2 (tm M') hw rfl hd) hl hw
def l_X5_derive_2 (a0 : Nat) (a1 : Nat) : MI × Int → Option ((MI) ⊕ (MI × Int)) := fun (M1, v2) =>
  Option.bind (gI v2 (11)) fun _ =>
  if (11) ≤ v2 then
    some (.inl M1)
  else
    Option.bind (gI v2 0) fun v3 =>
    Option.bind (odJ M1 a0 v2) fun v4 =>
    Option.bind (osJ M1 a1 (v2 - (1)) (v2 * v4)) fun v5 =>
    some (.inr (v5, v2 + 1))
def f_X5_derive (n : Nat) (a0 : Nat) (a1 : Nat) (M : MI) : Option MI :=
  Option.bind (lpF (l_X5_derive_2 a0 a1) n (M, (1))) fun M7 =>
  Option.bind (osJ M7 a1 (10) (0)) fun v8 =>
  some v8
set_option maxRecDepth 100000 in
set_option maxHeartbeats 8000000 in
theorem b_X5_derive {p : Program} {l : Launch} {e : Env} {s : State} {m : MethodId} {args : Array Value} {below : List Frame} {meth : Method} {c : Code} {Q : State → Prop} {G : gG} {A : Nat → Prop} {adr : Nat → Nat} (cx : cX p s m args meth c cX5_derive none 3 yX5_derive.cls) (hi : adi adr) {n : Nat} {a0 : Nat} {a1 : Nat} {M M' : MI} 
    (h : f_X5_derive n a0 a1 M = some M')
    (kr : ∀ (pc : Nat) (ls : Array Slot) (H : Heap) (locs : List Loc), decode cX5_derive pc = .ok (.return_, 1) → wH G A s.heap s (LL adr) (wf G adr (tm M')) H locs → W p l e { frames := 0, cells := 0, slots := 0, locals := 0 } s m args below meth c H locs 0 0 Q (F0 m pc ls []))
    {ls : Array Slot} {H : Heap} {locs : List Loc} (hl : lv_has ls 3 [(0, .ref (adr a0)), (1, .ref (adr a1))]) (hw : wH G A s.heap s (LL adr) (wf G adr (tm M)) H locs) : W p l e { frames := 0, cells := 0, slots := 0, locals := 0 } s m args below meth c H locs 0 0 Q (F0 m 0 ls []) := by
  obtain ⟨hx, hb, -, -, hown, hts, -⟩ := id cx
  have hown : s.vm.findClass RX5 = some m.cls := hown
  unfold f_X5_derive at h
  refine lv_iconst (v := Int32.ofInt (1)) hx hb dX5_derive_0 rfl ?_
  refine lv_istore_n (lv' := [(2, .int (Int32.ofInt (1))), (0, .ref (adr a0)), (1, .ref (adr a1))]) hx hb dX5_derive_1 rfl hl (by decide) rfl (fun ls hl => ?_)
  replace h := bnd h
  obtain ⟨M7, j6, h⟩ := h
  refine lp_W (Wst := fun (st : MI × Int) => ∀ (ls : Array Slot) (H : Heap) (locs : List Loc), lv_has ls 3 [(0, .ref (adr a0)), (1, .ref (adr a1)), (2, .int (Int32.ofInt st.2))] → wH G A s.heap s (LL adr) (wf G adr (tm st.1)) H locs → W p l e { frames := 0, cells := 0, slots := 0, locals := 0 } s m args below meth c H locs 0 0 Q (F0 m 2 ls [])) (fin := fun (r : MI) => ∀ (ls : Array Slot) (H : Heap) (locs : List Loc), lv_has ls 3 [(1, .ref (adr a1))] → wH G A s.heap s (LL adr) (wf G adr (tm r)) H locs → W p l e { frames := 0, cells := 0, slots := 0, locals := 0 } s m args below meth c H locs 0 0 Q (F0 m 25 ls [])) ?_ n _ _ j6 ?_ _ _ _ (lv_sub hl [1, 2, 0] rfl) hw
  · clear h j6 hw hl
    intro ⟨M1, v2⟩ x h k1 k2 ls H locs hl hw
    (try dsimp only at k1 k2 hl hw ⊢)
    unfold l_X5_derive_2 at h
    (try dsimp only at h)
    refine lv_iload_n hx hb dX5_derive_2 rfl (lv_at hl 2 rfl) ?_
    refine lv_bipush (v := Int32.ofInt (11)) hx hb dX5_derive_3 rfl ?_
    replace h := bnd h
    obtain ⟨_, hg, h⟩ := h
    refine o_icmp_ge (tgt := 25) hx hb hg dX5_derive_5 (by decide) (fun hc => ?_) (fun hc => ?_)
    · replace h := ite_t hc h
      cases h
      exact k1 _ rfl _ _ _ (lv_sub hl [1] rfl) hw
    · replace h := ite_f hc h
      refine lv_aload_n hx hb dX5_derive_8 rfl (lv_at hl 1 rfl) ?_
      refine lv_iload_n hx hb dX5_derive_9 rfl (lv_at hl 2 rfl) ?_
      refine lv_iconst (v := Int32.ofInt (1)) hx hb dX5_derive_10 rfl ?_
      refine o_isub hx hb dX5_derive_11 ?_
      refine lv_iload_n hx hb dX5_derive_12 rfl (lv_at hl 2 rfl) ?_
      replace h := bnd h
      obtain ⟨v3, e3, h⟩ := h
      refine o_i2l hx hb e3 dX5_derive_13 ?_
      refine lv_aload_n hx hb dX5_derive_14 rfl (lv_at hl 0 rfl) ?_
      refine lv_iload_n hx hb dX5_derive_15 rfl (lv_at hl 2 rfl) ?_
      replace h := bnd h
      obtain ⟨v4, e4, h⟩ := h
      refine o_lald hx hb hi hw e4 dX5_derive_16 ?_
      refine o_lmul hx hb dX5_derive_17 ?_
      replace h := bnd h
      obtain ⟨v5, e5, h⟩ := h
      refine o_last hx hb hi hw e5 dX5_derive_18 (fun H locs hw => ?_)
      refine lv_iinc (v := Int32.ofInt (v2 + 1)) (lv' := [(2, .int (Int32.ofInt (v2 + 1))), (0, .ref (adr a0)), (1, .ref (adr a1))]) hx hb dX5_derive_19 hl (k := 2) rfl (inc_o _ _) (by decide) rfl (fun ls hl => ?_)
      refine lv_goto (tgt := 2) hx hb dX5_derive_22 (by decide) ?_
      cases h
      exact k2 _ rfl _ _ _ (lv_sub hl [1, 2, 0] rfl) hw
  · clear hw hl
    intro ls H locs hl hw
    (try dsimp only at hl hw ⊢)
    refine lv_aload_n hx hb dX5_derive_25 rfl (lv_at hl 0 rfl) ?_
    refine lv_bipush (v := Int32.ofInt (10)) hx hb dX5_derive_26 rfl ?_
    refine lv_lconst (v := Int64.ofInt (0)) hx hb dX5_derive_28 (by decide) ?_
    replace h := bnd h
    obtain ⟨v8, e8, h⟩ := h
    refine o_last hx hb hi hw e8 dX5_derive_29 (fun H locs hw => ?_)
    cases h
    exact kr _ _ _ _ dX5_derive_30 hw
theorem cc_X5_derive {l : Launch} {G : gG} {adr : Nat → Nat} {sz : Nat} (hi : adi adr) {n : Nat} {a0 : Nat} {a1 : Nat} {M M' : MI} (h : f_X5_derive n a0 a1 M = some M') : mV l yX5_derive cX5_derive 3 none { frames := 0, cells := 0, slots := 0, locals := 0 } G adr [.ref (adr a0), .ref (adr a1)] (tm M) sz (tm M') := by
  refine wEnter (by decide) (Nat.le_of_ble_eq_true rfl) ?_
  intro p e s m below meth c ls cx hinit hl hsz hw
  exact b_X5_derive cx hi h (fun pc ls H locs hd hw => w_vret (post := fun (u : Mem) => u = tm M') (lf := fun u => (LL adr, wf G adr u)) cx.1 cx.2.1 cx.2.2.1 cx.2.2.2.2.2.2 (tm M') hw rfl hd) hl hw
def l_X5_isBefore_3 (a0 : Nat) (a1 : Nat) (M : MI) : Int → Option (((Int) ⊕ (Unit)) ⊕ (Int)) := fun v1 =>
  Option.bind (gI v1 0) fun _ =>
  if v1 < 0 then
    some (.inl (.inr ()))
  else
    Option.bind (odJ M a0 v1) fun v2 =>
    Option.bind (odJ M a1 v1) fun v3 =>
    Option.bind (gJ v2 v3) fun _ =>
    if v2 = v3 then
      some (.inr (v1 + (-1)))
    else
      Option.bind (odJ M a0 v1) fun v4 =>
      Option.bind (odJ M a1 v1) fun v5 =>
      Option.bind (
        Option.bind (gJ v4 v5) fun _ =>
        if v5 ≤ v4 then
          some (0)
        else
          some (1)) fun v6 =>
      Option.bind (obz v6) fun v7 =>
      some (.inl (.inl v7))
def f_X5_isBefore (n : Nat) (a0 : Nat) (a1 : Nat) (M : MI) : Option Int :=
  Option.bind (lpF (l_X5_isBefore_3 a0 a1 M) n (10)) fun r => match r with
  | .inl o => some o
  | .inr () =>
    some (0)
set_option maxRecDepth 100000 in
set_option maxHeartbeats 8000000 in
theorem b_X5_isBefore {p : Program} {l : Launch} {e : Env} {s : State} {m : MethodId} {args : Array Value} {below : List Frame} {meth : Method} {c : Code} {Q : State → Prop} {G : gG} {A : Nat → Prop} {adr : Nat → Nat} (cx : cX p s m args meth c cX5_isBefore (some .boolean) 3 yX5_isBefore.cls) (hi : adi adr) {n : Nat} {a0 : Nat} {a1 : Nat} {M : MI} {r : Int} 
    (h : f_X5_isBefore n a0 a1 M = some r)
    (kr : ∀ (pc : Nat) (ls : Array Slot) (H : Heap) (locs : List Loc), decode cX5_isBefore pc = .ok (.ireturn, 1) → narrow .boolean (.int (Int32.ofInt r)) = .int (Int32.ofInt r) → wH G A s.heap s (LL adr) (wf G adr (tm M)) H locs → W p l e { frames := 0, cells := 0, slots := 0, locals := 0 } s m args below meth c H locs 0 0 Q (F0 m pc ls [.int (Int32.ofInt r)]))
    {ls : Array Slot} {H : Heap} {locs : List Loc} (hl : lv_has ls 3 [(0, .ref (adr a0)), (1, .ref (adr a1))]) (hw : wH G A s.heap s (LL adr) (wf G adr (tm M)) H locs) : W p l e { frames := 0, cells := 0, slots := 0, locals := 0 } s m args below meth c H locs 0 0 Q (F0 m 0 ls []) := by
  obtain ⟨hx, hb, -, -, hown, hts, -⟩ := id cx
  have hown : s.vm.findClass RX5 = some m.cls := hown
  unfold f_X5_isBefore at h
  refine lv_bipush (v := Int32.ofInt (10)) hx hb dX5_isBefore_0 rfl ?_
  refine lv_istore_n (lv' := [(2, .int (Int32.ofInt (10))), (0, .ref (adr a0)), (1, .ref (adr a1))]) hx hb dX5_isBefore_2 rfl hl (by decide) rfl (fun ls hl => ?_)
  replace h := bnd h
  obtain ⟨o10, j9, h⟩ := h
  refine lp_W (Wst := fun (st : Int) => ∀ (ls : Array Slot) (H : Heap) (locs : List Loc), lv_has ls 3 [(0, .ref (adr a0)), (1, .ref (adr a1)), (2, .int (Int32.ofInt st))] → wH G A s.heap s (LL adr) (wf G adr (tm M)) H locs → W p l e { frames := 0, cells := 0, slots := 0, locals := 0 } s m args below meth c H locs 0 0 Q (F0 m 3 ls [])) (fin := fun (r : (Int) ⊕ (Unit)) => match r with
      | .inl o => ∀ (pc : Nat) (ls : Array Slot) (H : Heap) (locs : List Loc), decode cX5_isBefore pc = .ok (.ireturn, 1) → narrow .boolean (.int (Int32.ofInt o)) = .int (Int32.ofInt o) → wH G A s.heap s (LL adr) (wf G adr (tm M)) H locs → W p l e { frames := 0, cells := 0, slots := 0, locals := 0 } s m args below meth c H locs 0 0 Q (F0 m pc ls [.int (Int32.ofInt o)])
      | .inr q => ∀ (ls : Array Slot) (H : Heap) (locs : List Loc), lv_has ls 3 [] → wH G A s.heap s (LL adr) (wf G adr (tm M)) H locs → W p l e { frames := 0, cells := 0, slots := 0, locals := 0 } s m args below meth c H locs 0 0 Q (F0 m 39 ls [])) ?_ n _ _ j9 ?_ _ _ _ (lv_sub hl [1, 2, 0] rfl) hw
  · clear h j9 hw hl
    intro v1 x h k1 k2 ls H locs hl hw
    (try dsimp only at k2 hl hw ⊢)
    unfold l_X5_isBefore_3 at h
    (try dsimp only at h)
    refine lv_iload_n hx hb dX5_isBefore_3 rfl (lv_at hl 2 rfl) ?_
    replace h := bnd h
    obtain ⟨_, hg, h⟩ := h
    refine o_if_lt (tgt := 39) hx hb hg dX5_isBefore_4 (by decide) (fun hc => ?_) (fun hc => ?_)
    · replace h := ite_t hc h
      cases h
      exact k1 _ rfl _ _ _ (lv_sub hl [] rfl) hw
    · replace h := ite_f hc h
      refine lv_aload_n hx hb dX5_isBefore_7 rfl (lv_at hl 0 rfl) ?_
      refine lv_iload_n hx hb dX5_isBefore_8 rfl (lv_at hl 2 rfl) ?_
      replace h := bnd h
      obtain ⟨v2, e2, h⟩ := h
      refine o_lald hx hb hi hw e2 dX5_isBefore_9 ?_
      refine lv_aload_n hx hb dX5_isBefore_10 rfl (lv_at hl 1 rfl) ?_
      refine lv_iload_n hx hb dX5_isBefore_11 rfl (lv_at hl 2 rfl) ?_
      replace h := bnd h
      obtain ⟨v3, e3, h⟩ := h
      refine o_lald hx hb hi hw e3 dX5_isBefore_12 ?_
      replace h := bnd h
      obtain ⟨_, hg, h⟩ := h
      refine o_lcmp_eq (tgt := 33) hx hb hg dX5_isBefore_13 dX5_isBefore_14 (by decide) (fun hc => ?_) (fun hc => ?_)
      · replace h := ite_t hc h
        refine lv_iinc (v := Int32.ofInt (v1 + (-1))) (lv' := [(2, .int (Int32.ofInt (v1 + (-1)))), (0, .ref (adr a0)), (1, .ref (adr a1))]) hx hb dX5_isBefore_33 hl (k := 2) rfl (inc_o _ _) (by decide) rfl (fun ls hl => ?_)
        refine lv_goto (tgt := 3) hx hb dX5_isBefore_36 (by decide) ?_
        cases h
        exact k2 _ rfl _ _ _ (lv_sub hl [1, 2, 0] rfl) hw
      · replace h := ite_f hc h
        refine lv_aload_n hx hb dX5_isBefore_17 rfl (lv_at hl 0 rfl) ?_
        refine lv_iload_n hx hb dX5_isBefore_18 rfl (lv_at hl 2 rfl) ?_
        replace h := bnd h
        obtain ⟨v4, e4, h⟩ := h
        refine o_lald hx hb hi hw e4 dX5_isBefore_19 ?_
        refine lv_aload_n hx hb dX5_isBefore_20 rfl (lv_at hl 1 rfl) ?_
        refine lv_iload_n hx hb dX5_isBefore_21 rfl (lv_at hl 2 rfl) ?_
        replace h := bnd h
        obtain ⟨v5, e5, h⟩ := h
        refine o_lald hx hb hi hw e5 dX5_isBefore_22 ?_
        replace h := bnd h
        obtain ⟨v6, j8, h⟩ := h
        have kj : ∀ (ls : Array Slot) (H : Heap) (locs : List Loc), lv_has ls 3 [] → wH G A s.heap s (LL adr) (wf G adr (tm M)) H locs → W p l e { frames := 0, cells := 0, slots := 0, locals := 0 } s m args below meth c H locs 0 0 Q (F0 m 32 ls [.int (Int32.ofInt v6)]) := by
          intro ls H locs hl hw
          replace h := bnd h
          obtain ⟨v7, eZ, h⟩ := h
          obtain ⟨rfl, eZ⟩ := obz_ok eZ
          cases h
          exact k1 _ rfl _ _ _ _ dX5_isBefore_32 eZ hw
        clear h
        replace h := j8
        clear j8
        replace h := bnd h
        obtain ⟨_, hg, h⟩ := h
        refine o_lcmp_ge (tgt := 31) hx hb hg dX5_isBefore_23 dX5_isBefore_24 (by decide) (fun hc => ?_) (fun hc => ?_)
        · replace h := ite_t hc h
          refine lv_iconst (v := Int32.ofInt (0)) hx hb dX5_isBefore_31 rfl ?_
          cases h
          exact kj _ _ _ (lv_sub hl [] rfl) hw
        · replace h := ite_f hc h
          refine lv_iconst (v := Int32.ofInt (1)) hx hb dX5_isBefore_27 rfl ?_
          refine lv_goto (tgt := 32) hx hb dX5_isBefore_28 (by decide) ?_
          cases h
          exact kj _ _ _ (lv_sub hl [] rfl) hw
  · clear hw hl j9
    rcases o10 with o9 | _
    · cases h
      exact kr
    · intro ls H locs hl hw
      (try dsimp only at h hl hw ⊢)
      refine lv_iconst (v := Int32.ofInt (0)) hx hb dX5_isBefore_39 rfl ?_
      cases h
      exact kr _ _ _ _ dX5_isBefore_40 nb0 hw
theorem cc_X5_isBefore {l : Launch} {G : gG} {adr : Nat → Nat} {sz : Nat} (hi : adi adr) {n : Nat} {a0 : Nat} {a1 : Nat} {M : MI} {r : Int} (h : f_X5_isBefore n a0 a1 M = some r) : mI l yX5_isBefore cX5_isBefore 3 (some .boolean) { frames := 0, cells := 0, slots := 0, locals := 0 } G adr [.ref (adr a0), .ref (adr a1)] (tm M) sz (Int32.ofInt r) (tm M) := by
  refine wEnter (by decide) (Nat.le_of_ble_eq_true rfl) ?_
  intro p e s m below meth c ls cx hinit hl hsz hw
  exact b_X5_isBefore cx hi h (fun pc ls H locs hd hz hw => w_zret (post := fun (r9 : Int32) (u : Mem) => r9 = Int32.ofInt r ∧ u = tm M) (lf := fun u => (LL adr, wf G adr u)) cx.1 cx.2.1 cx.2.2.1 cx.2.2.2.2.2.2 hz (tm M) hw ⟨rfl, rfl⟩ hd) hl hw
theorem q_257 : Cond.methodLink RX1 18 yX5_degree ∈ uU := uU_in (by decide +kernel) (by decide +kernel)
theorem q_258 : Cond.fieldLink RX1 15 "LiftFactors$Divider" "rest" "[J" ∈ uU := uU_in (by decide +kernel) (by decide +kernel)
theorem q_259 : Cond.methodLink RX1 24 yX5_copy ∈ uU := uU_in (by decide +kernel) (by decide +kernel)
theorem q_260 : Cond.static yX5_copy ∈ uU := uU_in (by decide +kernel) (by decide +kernel)
theorem q_261 : Cond.initialized yX5_copy.cls ∈ uU := uU_in (by decide +kernel) (by decide +kernel)
theorem q_262 : Cond.code yX5_copy cX5_copy 2 none ∈ uU := uU_in (by decide +kernel) (by decide +kernel)
theorem q_263 : Cond.fieldLink RX1 9 "LiftFactors$Divider" "quotient" "[J" ∈ uU := uU_in (by decide +kernel) (by decide +kernel)
theorem q_264 : Cond.methodLink RX1 28 yJ7_fill_d0a16 ∈ uU := uU_in (by decide +kernel) (by decide +kernel)
theorem q_265 : Cond.static yJ7_fill_d0a16 ∈ uU := uU_in (by decide +kernel) (by decide +kernel)
theorem q_266 : Cond.initialized yJ7_fill_d0a16.cls ∈ uU := uU_in (by decide +kernel) (by decide +kernel)
theorem q_267 : Cond.code yJ7_fill_d0a16 cJ7_fill_d0a16 5 none ∈ uU := uU_in (by decide +kernel) (by decide +kernel)
theorem q_268 : Cond.methodLink RX1 34 yJ9_abs_067f4 ∈ uU := uU_in (by decide +kernel) (by decide +kernel)
theorem q_269 : Cond.constantLong RX1 40 (1073741824) ∈ uU := uU_in (by decide +kernel) (by decide +kernel)
def l_X1_divide_103 (a1 : Nat) (v1 : Int) (v7 : Int) (v9 : Int) : MI × Int → Option ((MI) ⊕ (MI × Int)) := fun (M13, v14) =>
  Option.bind (gI v14 v1) fun _ =>
  if v1 < v14 then
    some (.inl M13)
  else
    Option.bind (odJ M13 19 (v7 + v14)) fun v15 =>
    Option.bind (odJ M13 a1 v14) fun v16 =>
    Option.bind (osJ M13 19 (v7 + v14) (v15 - (v9 * v16))) fun v17 =>
    some (.inr (v17, v14 + 1))
def l_X1_divide_40 (n : Nat) (a1 : Nat) (v1 : Int) (v2 : Int) : MI × Int → Option (((Int × MI) ⊕ (MI)) ⊕ (MI × Int)) := fun (M6, v7) =>
  Option.bind (gI v7 0) fun _ =>
  if v7 < 0 then
    some (.inl (.inr M6))
  else
    Option.bind (odJ M6 19 (v7 + v1)) fun v8 =>
    Option.bind (oqJ v8 v2) fun v9 =>
    Option.bind (odJ M6 19 (v7 + v1)) fun v10 =>
    Option.bind (gJ (v9 * v2) v10) fun _ =>
    if (v9 * v2) = v10 then
      Option.bind (f_J9_abs_067f4 v9) fun v11 =>
      Option.bind (gJ v11 (1073741824)) fun _ =>
      if v11 ≤ (1073741824) then
        Option.bind (osJ M6 18 v7 v9) fun v12 =>
        Option.bind (lpF (l_X1_divide_103 a1 v1 v7 v9) n (v12, (0))) fun M19 =>
        some (.inr (M19, v7 + (-1)))
      else
        some (.inl (.inl ((0), M6)))
    else
      some (.inl (.inl ((0), M6)))
def f_X1_divide (n : Nat) (a0 : Nat) (a1 : Nat) (M : MI) : Option (Int × MI) :=
  Option.bind (f_X5_degree n a1 M) fun v1 =>
  Option.bind (gI v1 0) fun _ =>
  if 0 ≤ v1 then
    Option.bind (odJ M a1 v1) fun v2 =>
    Option.bind (f_X5_copy a0 19 M) fun v3 =>
    Option.bind (f_J7_fill_d0a16 n 18 (0) v3) fun v4 =>
    Option.bind (f_X5_degree n a0 v4) fun v5 =>
    Option.bind (lpF (l_X1_divide_40 n a1 v1 v2) n (v4, v5 - v1)) fun r => match r with
    | .inl o => some o
    | .inr M21 =>
      Option.bind (f_X5_degree n 19 M21) fun v22 =>
      Option.bind (
        Option.bind (gI v22 0) fun _ =>
        if 0 ≤ v22 then
          some (0)
        else
          some (1)) fun v23 =>
      Option.bind (obz v23) fun v24 =>
      some (v24, M21)
  else
    some ((0), M)
set_option maxRecDepth 100000 in
set_option maxHeartbeats 8000000 in
theorem b_X1_divide {p : Program} {l : Launch} {e : Env} {s : State} {m : MethodId} {args : Array Value} {below : List Frame} {meth : Method} {c : Code} {Q : State → Prop} {G : gG} {A : Nat → Prop} {adr : Nat → Nat} (cx : cX p s m args meth c cX1_divide (some .boolean) 10 yX1_divide.cls) (hi : adi adr) {n : Nat} {a0 : Nat} {a1 : Nat} {M M' : MI} {r : Int} 
    (h : f_X1_divide n a0 a1 M = some (r, M'))
    (kr : ∀ (pc : Nat) (ls : Array Slot) (H : Heap) (locs : List Loc), decode cX1_divide pc = .ok (.ireturn, 1) → narrow .boolean (.int (Int32.ofInt r)) = .int (Int32.ofInt r) → wH G A s.heap s (LL adr) (wf G adr (tm M')) H locs → W p l e { frames := 2, cells := 0, slots := 0, locals := 81 } s m args below meth c H locs 0 0 Q (F0 m pc ls [.int (Int32.ofInt r)]))
    {ls : Array Slot} {H : Heap} {locs : List Loc} (hl : lv_has ls 10 [(0, .ref (adr 2)), (1, .ref (adr a0)), (2, .ref (adr a1))]) (hw : wH G A s.heap s (LL adr) (wf G adr (tm M)) H locs) : W p l e { frames := 2, cells := 0, slots := 0, locals := 81 } s m args below meth c H locs 0 0 Q (F0 m 0 ls []) := by
  obtain ⟨hx, hb, -, -, hown, hts, -⟩ := id cx
  have hown : s.vm.findClass RX1 = some m.cls := hown
  unfold f_X1_divide at h
  refine lv_aload_n hx hb dX1_divide_0 rfl (lv_at hl 2 rfl) ?_
  replace h := bnd h
  obtain ⟨v1, e1, h⟩ := h
  refine m_callSi (As := [.ref (adr a1)]) (rest := []) cx.fix hw (cc_X5_degree (l := l) (G := G) (sz := H.size) hi e1) (w_cS 1 hts q_257 q_246 q_247 q_248 rfl rfl (by decide) (by decide)) hl.1 rfl (lv_room (Nat.le_of_ble_eq_true rfl)) dX1_divide_1 (fun H locs hw => ?_)
  refine lv_istore_n (lv' := [(3, .int (Int32.ofInt v1)), (0, .ref (adr 2)), (1, .ref (adr a0)), (2, .ref (adr a1))]) hx hb dX1_divide_4 rfl hl (by decide) rfl (fun ls hl => ?_)
  refine lv_iload_n hx hb dX1_divide_5 rfl (lv_at hl 0 rfl) ?_
  replace h := bnd h
  obtain ⟨_, hg, h⟩ := h
  refine o_if_ge (tgt := 11) hx hb hg dX1_divide_6 (by decide) (fun hc => ?_) (fun hc => ?_)
  · replace h := ite_t hc h
    refine lv_aload_n hx hb dX1_divide_11 rfl (lv_at hl 3 rfl) ?_
    refine lv_iload_n hx hb dX1_divide_12 rfl (lv_at hl 0 rfl) ?_
    replace h := bnd h
    obtain ⟨v2, e2, h⟩ := h
    refine o_lald hx hb hi hw e2 dX1_divide_13 ?_
    refine lv_lstore (lv' := [(4, .long (Int64.ofInt v2)), (3, .int (Int32.ofInt v1)), (0, .ref (adr 2)), (1, .ref (adr a0)), (2, .ref (adr a1))]) hx hb dX1_divide_14 hl (by decide) rfl (fun ls hl => ?_)
    refine lv_aload_n hx hb dX1_divide_16 rfl (lv_at hl 3 rfl) ?_
    refine lv_aload_n hx hb dX1_divide_17 rfl (lv_at hl 2 rfl) ?_
    refine m_get (k := 2) (C := RX1) (T := TX1) (N := 2) (ref := "LiftFactors$Divider") (v := .ref (adr 19)) hx hb hi hts inX1_u hown hw (by decide) rfl 1 (by decide) q_258 rfl rfl dX1_divide_18 ?_
    replace h := bnd h
    obtain ⟨v3, e3, h⟩ := h
    refine m_callSv (As := [.ref (adr a0), .ref (adr 19)]) (rest := []) cx.fix hw (cc_X5_copy (l := l) (G := G) (sz := H.size) hi e3) (w_cS 2 hts q_259 q_260 q_261 q_262 rfl rfl (by decide) (by decide)) hl.1 rfl (lv_room (Nat.le_of_ble_eq_true rfl)) dX1_divide_21 (fun H locs hw => ?_)
    refine lv_aload_n hx hb dX1_divide_24 rfl (lv_at hl 2 rfl) ?_
    refine m_get (k := 2) (C := RX1) (T := TX1) (N := 2) (ref := "LiftFactors$Divider") (v := .ref (adr 18)) hx hb hi hts inX1_u hown hw (by decide) rfl 0 (by decide) q_263 rfl rfl dX1_divide_25 ?_
    refine lv_lconst (v := Int64.ofInt (0)) hx hb dX1_divide_28 (by decide) ?_
    replace h := bnd h
    obtain ⟨v4, e4, h⟩ := h
    refine m_callSv (As := [.ref (adr 18), .long (Int64.ofInt (0))]) (rest := []) cx.fix hw (cc_J7_fill_d0a16 (l := l) (G := G) (sz := H.size) hi e4) (w_cS 2 hts q_264 q_265 q_266 q_267 rfl rfl (by decide) (by decide)) hl.1 rfl (lv_room (Nat.le_of_ble_eq_true rfl)) dX1_divide_29 (fun H locs hw => ?_)
    refine lv_aload_n hx hb dX1_divide_32 rfl (lv_at hl 3 rfl) ?_
    replace h := bnd h
    obtain ⟨v5, e5, h⟩ := h
    refine m_callSi (As := [.ref (adr a0)]) (rest := []) cx.fix hw (cc_X5_degree (l := l) (G := G) (sz := H.size) hi e5) (w_cS 1 hts q_257 q_246 q_247 q_248 rfl rfl (by decide) (by decide)) hl.1 rfl (lv_room (Nat.le_of_ble_eq_true rfl)) dX1_divide_33 (fun H locs hw => ?_)
    refine lv_iload_n hx hb dX1_divide_36 rfl (lv_at hl 1 rfl) ?_
    refine o_isub hx hb dX1_divide_37 ?_
    refine lv_istore (lv' := [(6, .int (Int32.ofInt (v5 - v1))), (4, .long (Int64.ofInt v2)), (3, .int (Int32.ofInt v1)), (0, .ref (adr 2)), (1, .ref (adr a0)), (2, .ref (adr a1))]) hx hb dX1_divide_38 hl (by decide) rfl (fun ls hl => ?_)
    replace h := bnd h
    obtain ⟨o26, j20, h⟩ := h
    refine lp_W (Wst := fun (st : MI × Int) => ∀ (ls : Array Slot) (H : Heap) (locs : List Loc), lv_has ls 10 [(0, .ref (adr 2)), (2, .ref (adr a1)), (3, .int (Int32.ofInt v1)), (4, .long (Int64.ofInt v2)), (6, .int (Int32.ofInt st.2))] → wH G A s.heap s (LL adr) (wf G adr (tm st.1)) H locs → W p l e { frames := 2, cells := 0, slots := 0, locals := 81 } s m args below meth c H locs 0 0 Q (F0 m 40 ls [])) (fin := fun (r : (Int × MI) ⊕ (MI)) => match r with
      | .inl o => ∀ (pc : Nat) (ls : Array Slot) (H : Heap) (locs : List Loc), decode cX1_divide pc = .ok (.ireturn, 1) → narrow .boolean (.int (Int32.ofInt o.1)) = .int (Int32.ofInt o.1) → wH G A s.heap s (LL adr) (wf G adr (tm o.2)) H locs → W p l e { frames := 2, cells := 0, slots := 0, locals := 81 } s m args below meth c H locs 0 0 Q (F0 m pc ls [.int (Int32.ofInt o.1)])
      | .inr q => ∀ (ls : Array Slot) (H : Heap) (locs : List Loc), lv_has ls 10 [(0, .ref (adr 2))] → wH G A s.heap s (LL adr) (wf G adr (tm q)) H locs → W p l e { frames := 2, cells := 0, slots := 0, locals := 81 } s m args below meth c H locs 0 0 Q (F0 m 141 ls [])) ?_ n _ _ j20 ?_ _ _ _ (lv_sub hl [3, 5, 2, 1, 0] rfl) hw
    · clear h j20 hw hl
      intro ⟨M6, v7⟩ x h k1 k2 ls H locs hl hw
      (try dsimp only at k2 hl hw ⊢)
      unfold l_X1_divide_40 at h
      (try dsimp only at h)
      refine lv_iload hx hb dX1_divide_40 (lv_at hl 4 rfl) ?_
      replace h := bnd h
      obtain ⟨_, hg, h⟩ := h
      refine o_if_lt (tgt := 141) hx hb hg dX1_divide_42 (by decide) (fun hc => ?_) (fun hc => ?_)
      · replace h := ite_t hc h
        cases h
        exact k1 _ rfl _ _ _ (lv_sub hl [0] rfl) hw
      · replace h := ite_f hc h
        refine lv_aload_n hx hb dX1_divide_45 rfl (lv_at hl 0 rfl) ?_
        refine m_get (k := 2) (C := RX1) (T := TX1) (N := 2) (ref := "LiftFactors$Divider") (v := .ref (adr 19)) hx hb hi hts inX1_u hown hw (by decide) rfl 1 (by decide) q_258 rfl rfl dX1_divide_46 ?_
        refine lv_iload hx hb dX1_divide_49 (lv_at hl 4 rfl) ?_
        refine lv_iload_n hx hb dX1_divide_51 rfl (lv_at hl 2 rfl) ?_
        refine o_iadd hx hb dX1_divide_52 ?_
        replace h := bnd h
        obtain ⟨v8, e8, h⟩ := h
        refine o_lald hx hb hi hw e8 dX1_divide_53 ?_
        refine lv_lload hx hb dX1_divide_54 (lv_at hl 3 rfl) ?_
        replace h := bnd h
        obtain ⟨v9, e9, h⟩ := h
        refine o_ldiv hx hb e9 dX1_divide_56 ?_
        refine lv_lstore (lv' := [(7, .long (Int64.ofInt v9)), (0, .ref (adr 2)), (2, .ref (adr a1)), (3, .int (Int32.ofInt v1)), (4, .long (Int64.ofInt v2)), (6, .int (Int32.ofInt v7))]) hx hb dX1_divide_57 hl (by decide) rfl (fun ls hl => ?_)
        refine lv_lload hx hb dX1_divide_59 (lv_at hl 0 rfl) ?_
        refine lv_lload hx hb dX1_divide_61 (lv_at hl 4 rfl) ?_
        refine o_lmul hx hb dX1_divide_63 ?_
        refine lv_aload_n hx hb dX1_divide_64 rfl (lv_at hl 1 rfl) ?_
        refine m_get (k := 2) (C := RX1) (T := TX1) (N := 2) (ref := "LiftFactors$Divider") (v := .ref (adr 19)) hx hb hi hts inX1_u hown hw (by decide) rfl 1 (by decide) q_258 rfl rfl dX1_divide_65 ?_
        refine lv_iload hx hb dX1_divide_68 (lv_at hl 5 rfl) ?_
        refine lv_iload_n hx hb dX1_divide_70 rfl (lv_at hl 3 rfl) ?_
        refine o_iadd hx hb dX1_divide_71 ?_
        replace h := bnd h
        obtain ⟨v10, e10, h⟩ := h
        refine o_lald hx hb hi hw e10 dX1_divide_72 ?_
        replace h := bnd h
        obtain ⟨_, hg, h⟩ := h
        refine o_lcmp_ne (tgt := 89) hx hb hg dX1_divide_73 dX1_divide_74 (by decide) (fun hc => ?_) (fun hc => ?_)
        · replace h := ite_f hc h
          refine lv_iconst (v := Int32.ofInt (0)) hx hb dX1_divide_89 rfl ?_
          cases h
          exact k1 _ rfl _ _ _ _ dX1_divide_90 nb0 hw
        · replace h := ite_t hc h
          refine lv_lload hx hb dX1_divide_77 (lv_at hl 0 rfl) ?_
          replace h := bnd h
          obtain ⟨v11, e11, h⟩ := h
          refine m_callSl (As := [.long (Int64.ofInt v9)]) (rest := []) cx.fix hw (cc_J9_abs_067f4 (l := l) (G := G) (sz := H.size) (M := M6) hi e11) (w_cS 1 hts q_268 q_242 q_243 q_244 rfl rfl (by decide) (by decide)) hl.1 rfl (lv_room (Nat.le_of_ble_eq_true rfl)) dX1_divide_79 (fun H locs hw => ?_)
          refine lv_ldc2 (v := Int64.ofInt (1073741824)) hx hb hown (hts _ q_269) dX1_divide_82 ?_
          replace h := bnd h
          obtain ⟨_, hg, h⟩ := h
          refine o_lcmp_le (tgt := 91) hx hb hg dX1_divide_85 dX1_divide_86 (by decide) (fun hc => ?_) (fun hc => ?_)
          · replace h := ite_t hc h
            refine lv_aload_n hx hb dX1_divide_91 rfl (lv_at hl 1 rfl) ?_
            refine m_get (k := 2) (C := RX1) (T := TX1) (N := 2) (ref := "LiftFactors$Divider") (v := .ref (adr 18)) hx hb hi hts inX1_u hown hw (by decide) rfl 0 (by decide) q_263 rfl rfl dX1_divide_92 ?_
            refine lv_iload hx hb dX1_divide_95 (lv_at hl 5 rfl) ?_
            refine lv_lload hx hb dX1_divide_97 (lv_at hl 0 rfl) ?_
            replace h := bnd h
            obtain ⟨v12, e12, h⟩ := h
            refine o_last hx hb hi hw e12 dX1_divide_99 (fun H locs hw => ?_)
            refine lv_iconst (v := Int32.ofInt (0)) hx hb dX1_divide_100 rfl ?_
            refine lv_istore (lv' := [(9, .int (Int32.ofInt (0))), (7, .long (Int64.ofInt v9)), (0, .ref (adr 2)), (2, .ref (adr a1)), (3, .int (Int32.ofInt v1)), (4, .long (Int64.ofInt v2)), (6, .int (Int32.ofInt v7))]) hx hb dX1_divide_101 hl (by decide) rfl (fun ls hl => ?_)
            replace h := bnd h
            obtain ⟨M19, j18, h⟩ := h
            refine lp_W (Wst := fun (st : MI × Int) => ∀ (ls : Array Slot) (H : Heap) (locs : List Loc), lv_has ls 10 [(0, .ref (adr 2)), (2, .ref (adr a1)), (3, .int (Int32.ofInt v1)), (4, .long (Int64.ofInt v2)), (6, .int (Int32.ofInt v7)), (7, .long (Int64.ofInt v9)), (9, .int (Int32.ofInt st.2))] → wH G A s.heap s (LL adr) (wf G adr (tm st.1)) H locs → W p l e { frames := 2, cells := 0, slots := 0, locals := 81 } s m args below meth c H locs 0 0 Q (F0 m 103 ls [])) (fin := fun (r : MI) => ∀ (ls : Array Slot) (H : Heap) (locs : List Loc), lv_has ls 10 [(0, .ref (adr 2)), (2, .ref (adr a1)), (3, .int (Int32.ofInt v1)), (4, .long (Int64.ofInt v2)), (6, .int (Int32.ofInt v7))] → wH G A s.heap s (LL adr) (wf G adr (tm r)) H locs → W p l e { frames := 2, cells := 0, slots := 0, locals := 81 } s m args below meth c H locs 0 0 Q (F0 m 135 ls [])) ?_ n _ _ j18 ?_ _ _ _ (lv_sub hl [2, 3, 4, 5, 6, 1, 0] rfl) hw
            · clear h j18 hw hl
              intro ⟨M13, v14⟩ x h k1 k2 ls H locs hl hw
              (try dsimp only at k1 k2 hl hw ⊢)
              unfold l_X1_divide_103 at h
              (try dsimp only at h)
              refine lv_iload hx hb dX1_divide_103 (lv_at hl 6 rfl) ?_
              refine lv_iload_n hx hb dX1_divide_105 rfl (lv_at hl 2 rfl) ?_
              replace h := bnd h
              obtain ⟨_, hg, h⟩ := h
              refine o_icmp_gt (tgt := 135) hx hb hg dX1_divide_106 (by decide) (fun hc => ?_) (fun hc => ?_)
              · replace h := ite_t hc h
                cases h
                exact k1 _ rfl _ _ _ (lv_sub hl [0, 1, 2, 3, 4] rfl) hw
              · replace h := ite_f hc h
                refine lv_aload_n hx hb dX1_divide_109 rfl (lv_at hl 0 rfl) ?_
                refine m_get (k := 2) (C := RX1) (T := TX1) (N := 2) (ref := "LiftFactors$Divider") (v := .ref (adr 19)) hx hb hi hts inX1_u hown hw (by decide) rfl 1 (by decide) q_258 rfl rfl dX1_divide_110 ?_
                refine lv_iload hx hb dX1_divide_113 (lv_at hl 4 rfl) ?_
                refine lv_iload hx hb dX1_divide_115 (lv_at hl 6 rfl) ?_
                refine o_iadd hx hb dX1_divide_117 ?_
                refine lv_dup2_11 hx hb dX1_divide_118 rfl rfl ?_
                replace h := bnd h
                obtain ⟨v15, e15, h⟩ := h
                refine o_lald hx hb hi hw e15 dX1_divide_119 ?_
                refine lv_lload hx hb dX1_divide_120 (lv_at hl 5 rfl) ?_
                refine lv_aload_n hx hb dX1_divide_122 rfl (lv_at hl 1 rfl) ?_
                refine lv_iload hx hb dX1_divide_123 (lv_at hl 6 rfl) ?_
                replace h := bnd h
                obtain ⟨v16, e16, h⟩ := h
                refine o_lald hx hb hi hw e16 dX1_divide_125 ?_
                refine o_lmul hx hb dX1_divide_126 ?_
                refine o_lsub hx hb dX1_divide_127 ?_
                replace h := bnd h
                obtain ⟨v17, e17, h⟩ := h
                refine o_last hx hb hi hw e17 dX1_divide_128 (fun H locs hw => ?_)
                refine lv_iinc (v := Int32.ofInt (v14 + 1)) (lv' := [(9, .int (Int32.ofInt (v14 + 1))), (0, .ref (adr 2)), (2, .ref (adr a1)), (3, .int (Int32.ofInt v1)), (4, .long (Int64.ofInt v2)), (6, .int (Int32.ofInt v7)), (7, .long (Int64.ofInt v9))]) hx hb dX1_divide_129 hl (k := 6) rfl (inc_o _ _) (by decide) rfl (fun ls hl => ?_)
                refine lv_goto (tgt := 103) hx hb dX1_divide_132 (by decide) ?_
                cases h
                exact k2 _ rfl _ _ _ (lv_sub hl [1, 2, 3, 4, 5, 6, 0] rfl) hw
            · clear hw hl
              intro ls H locs hl hw
              (try dsimp only at hl hw ⊢)
              refine lv_iinc (v := Int32.ofInt (v7 + (-1))) (lv' := [(6, .int (Int32.ofInt (v7 + (-1)))), (0, .ref (adr 2)), (2, .ref (adr a1)), (3, .int (Int32.ofInt v1)), (4, .long (Int64.ofInt v2))]) hx hb dX1_divide_135 hl (k := 4) rfl (inc_o _ _) (by decide) rfl (fun ls hl => ?_)
              refine lv_goto (tgt := 40) hx hb dX1_divide_138 (by decide) ?_
              cases h
              exact k2 _ rfl _ _ _ (lv_sub hl [1, 2, 3, 4, 0] rfl) hw
          · replace h := ite_f hc h
            refine lv_iconst (v := Int32.ofInt (0)) hx hb dX1_divide_89 rfl ?_
            cases h
            exact k1 _ rfl _ _ _ _ dX1_divide_90 nb0 hw
    · clear hw hl j20
      rcases o26 with o9 | M21
      · cases h
        exact kr
      · intro ls H locs hl hw
        (try dsimp only at h hl hw ⊢)
        refine lv_aload_n hx hb dX1_divide_141 rfl (lv_at hl 0 rfl) ?_
        refine m_get (k := 2) (C := RX1) (T := TX1) (N := 2) (ref := "LiftFactors$Divider") (v := .ref (adr 19)) hx hb hi hts inX1_u hown hw (by decide) rfl 1 (by decide) q_258 rfl rfl dX1_divide_142 ?_
        replace h := bnd h
        obtain ⟨v22, e22, h⟩ := h
        refine m_callSi (As := [.ref (adr 19)]) (rest := []) cx.fix hw (cc_X5_degree (l := l) (G := G) (sz := H.size) hi e22) (w_cS 1 hts q_257 q_246 q_247 q_248 rfl rfl (by decide) (by decide)) hl.1 rfl (lv_room (Nat.le_of_ble_eq_true rfl)) dX1_divide_145 (fun H locs hw => ?_)
        replace h := bnd h
        obtain ⟨v23, j25, h⟩ := h
        have kj : ∀ (ls : Array Slot) (H : Heap) (locs : List Loc), lv_has ls 10 [] → wH G A s.heap s (LL adr) (wf G adr (tm M21)) H locs → W p l e { frames := 2, cells := 0, slots := 0, locals := 81 } s m args below meth c H locs 0 0 Q (F0 m 156 ls [.int (Int32.ofInt v23)]) := by
          intro ls H locs hl hw
          replace h := bnd h
          obtain ⟨v24, eZ, h⟩ := h
          obtain ⟨rfl, eZ⟩ := obz_ok eZ
          cases h
          exact kr _ _ _ _ dX1_divide_156 eZ hw
        clear h
        replace h := j25
        clear j25
        replace h := bnd h
        obtain ⟨_, hg, h⟩ := h
        refine o_if_ge (tgt := 155) hx hb hg dX1_divide_148 (by decide) (fun hc => ?_) (fun hc => ?_)
        · replace h := ite_t hc h
          refine lv_iconst (v := Int32.ofInt (0)) hx hb dX1_divide_155 rfl ?_
          cases h
          exact kj _ _ _ (lv_sub hl [] rfl) hw
        · replace h := ite_f hc h
          refine lv_iconst (v := Int32.ofInt (1)) hx hb dX1_divide_151 rfl ?_
          refine lv_goto (tgt := 156) hx hb dX1_divide_152 (by decide) ?_
          cases h
          exact kj _ _ _ (lv_sub hl [] rfl) hw
  · replace h := ite_f hc h
    refine lv_iconst (v := Int32.ofInt (0)) hx hb dX1_divide_9 rfl ?_
    cases h
    exact kr _ _ _ _ dX1_divide_10 nb0 hw
theorem cc_X1_divide {l : Launch} {G : gG} {adr : Nat → Nat} {sz : Nat} (hi : adi adr) {n : Nat} {a0 : Nat} {a1 : Nat} {M M' : MI} {r : Int} (h : f_X1_divide n a0 a1 M = some (r, M')) : mI l yX1_divide cX1_divide 10 (some .boolean) { frames := 2, cells := 0, slots := 0, locals := 81 } G adr [.ref (adr 2), .ref (adr a0), .ref (adr a1)] (tm M) sz (Int32.ofInt r) (tm M') := by
  refine wEnter (by decide) (Nat.le_of_ble_eq_true rfl) ?_
  intro p e s m below meth c ls cx hinit hl hsz hw
  exact b_X1_divide cx hi h (fun pc ls H locs hd hz hw => w_zret (post := fun (r9 : Int32) (u : Mem) => r9 = Int32.ofInt r ∧ u = tm M') (lf := fun u => (LL adr, wf G adr u)) cx.1 cx.2.1 cx.2.2.1 cx.2.2.2.2.2.2 hz (tm M') hw ⟨rfl, rfl⟩ hd) hl hw
