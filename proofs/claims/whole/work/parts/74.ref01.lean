theorem q_10 : Cond.fieldLink RX8 13 "LiftFactorsModel" "coefficient" "[I" ∈ uU := uU_in (by decide +kernel) (by decide +kernel)
theorem q_11 : Cond.methodLink RX8 57 yX8_trim ∈ uU := uU_in (by decide +kernel) (by decide +kernel)
theorem q_12 : Cond.instanceMethod yX8_trim ∈ uU := uU_in (by decide +kernel) (by decide +kernel)
theorem q_13 : Cond.selects yX8_trim.cls yX8_trim yX8_trim ∈ uU := uU_in (by decide +kernel) (by decide +kernel)
theorem q_14 : Cond.initialized yX8_trim.cls ∈ uU := uU_in (by decide +kernel) (by decide +kernel)
theorem q_15 : Cond.code yX8_trim cX8_trim 4 none ∈ uU := uU_in (by decide +kernel) (by decide +kernel)
def l_X8_load_2 (a0 : Int) (a1 : Int) : MI × Int → Option ((MI) ⊕ (MI × Int)) := fun (M1, v2) =>
  Option.bind (gI v2 (11)) fun _ =>
  if (11) ≤ v2 then
    some (.inl M1)
  else
    Option.bind (odI M1 38 (((11) * a0) + v2)) fun v3 =>
    Option.bind (gI v3 0) fun v4 =>
    Option.bind (osJ M1 41 (((24) * a1) + v2) v3) fun v5 =>
    some (.inr (v5, v2 + 1))
def f_X8_load (n : Nat) (a0 : Int) (a1 : Int) (M : MI) : Option MI :=
  Option.bind (lpF (l_X8_load_2 a0 a1) n (M, (0))) fun M7 =>
  Option.bind (f_X8_trim n a1 (10) M7) fun v8 =>
  some v8
set_option maxRecDepth 100000 in
set_option maxHeartbeats 8000000 in
theorem b_X8_load {p : Program} {l : Launch} {e : Env} {s : State} {m : MethodId} {args : Array Value} {below : List Frame} {meth : Method} {c : Code} {Q : State → Prop} {G : gG} {A : Nat → Prop} {adr : Nat → Nat} (cx : cX p s m args meth c cX8_load none 4 yX8_load.cls) (hi : adi adr) {n : Nat} {a0 : Int} {a1 : Int} {M M' : MI} 
    (h : f_X8_load n a0 a1 M = some M')
    (kr : ∀ (pc : Nat) (ls : Array Slot) (H : Heap) (locs : List Loc), decode cX8_load pc = .ok (.return_, 1) → wH G A s.heap s (LL adr) (wf G adr (tm M')) H locs → W p l e { frames := 1, cells := 0, slots := 0, locals := 23 } s m args below meth c H locs 0 0 Q (F0 m pc ls []))
    {ls : Array Slot} {H : Heap} {locs : List Loc} (hl : lv_has ls 4 [(0, .ref (adr 36)), (1, .int (Int32.ofInt a0)), (2, .int (Int32.ofInt a1))]) (hw : wH G A s.heap s (LL adr) (wf G adr (tm M)) H locs) : W p l e { frames := 1, cells := 0, slots := 0, locals := 23 } s m args below meth c H locs 0 0 Q (F0 m 0 ls []) := by
  obtain ⟨hx, hb, -, -, hown, hts, -⟩ := id cx
  have hown : s.vm.findClass RX8 = some m.cls := hown
  unfold f_X8_load at h
  refine lv_iconst (v := Int32.ofInt (0)) hx hb dX8_load_0 rfl ?_
  refine lv_istore_n (lv' := [(3, .int (Int32.ofInt (0))), (0, .ref (adr 36)), (1, .int (Int32.ofInt a0)), (2, .int (Int32.ofInt a1))]) hx hb dX8_load_1 rfl hl (by decide) rfl (fun ls hl => ?_)
  replace h := bnd h
  obtain ⟨M7, j6, h⟩ := h
  refine lp_W (Wst := fun (st : MI × Int) => ∀ (ls : Array Slot) (H : Heap) (locs : List Loc), lv_has ls 4 [(0, .ref (adr 36)), (1, .int (Int32.ofInt a0)), (2, .int (Int32.ofInt a1)), (3, .int (Int32.ofInt st.2))] → wH G A s.heap s (LL adr) (wf G adr (tm st.1)) H locs → W p l e { frames := 1, cells := 0, slots := 0, locals := 23 } s m args below meth c H locs 0 0 Q (F0 m 2 ls [])) (fin := fun (r : MI) => ∀ (ls : Array Slot) (H : Heap) (locs : List Loc), lv_has ls 4 [(0, .ref (adr 36)), (2, .int (Int32.ofInt a1))] → wH G A s.heap s (LL adr) (wf G adr (tm r)) H locs → W p l e { frames := 1, cells := 0, slots := 0, locals := 23 } s m args below meth c H locs 0 0 Q (F0 m 37 ls [])) ?_ n _ _ j6 ?_ _ _ _ (lv_sub hl [1, 2, 3, 0] rfl) hw
  · clear h j6 hw hl
    intro ⟨M1, v2⟩ x h k1 k2 ls H locs hl hw
    (try dsimp only at k1 k2 hl hw ⊢)
    unfold l_X8_load_2 at h
    (try dsimp only at h)
    refine lv_iload_n hx hb dX8_load_2 rfl (lv_at hl 3 rfl) ?_
    refine lv_bipush (v := Int32.ofInt (11)) hx hb dX8_load_3 rfl ?_
    replace h := bnd h
    obtain ⟨_, hg, h⟩ := h
    refine o_icmp_ge (tgt := 37) hx hb hg dX8_load_5 (by decide) (fun hc => ?_) (fun hc => ?_)
    · replace h := ite_t hc h
      cases h
      exact k1 _ rfl _ _ _ (lv_sub hl [0, 2] rfl) hw
    · replace h := ite_f hc h
      refine lv_aload_n hx hb dX8_load_8 rfl (lv_at hl 0 rfl) ?_
      refine m_get (k := 36) (C := RX8) (T := TX8) (N := 18) (ref := "LiftFactorsModel") (v := .ref (adr 41)) hx hb hi hts inX8_u hown hw (by decide) rfl 7 (by decide) q_0 rfl rfl dX8_load_9 ?_
      refine lv_bipush (v := Int32.ofInt (24)) hx hb dX8_load_12 rfl ?_
      refine lv_iload_n hx hb dX8_load_14 rfl (lv_at hl 2 rfl) ?_
      refine o_imul hx hb dX8_load_15 ?_
      refine lv_iload_n hx hb dX8_load_16 rfl (lv_at hl 3 rfl) ?_
      refine o_iadd hx hb dX8_load_17 ?_
      refine lv_aload_n hx hb dX8_load_18 rfl (lv_at hl 0 rfl) ?_
      refine m_get (k := 36) (C := RX8) (T := TX8) (N := 18) (ref := "LiftFactorsModel") (v := .ref (adr 38)) hx hb hi hts inX8_u hown hw (by decide) rfl 1 (by decide) q_10 rfl rfl dX8_load_19 ?_
      refine lv_bipush (v := Int32.ofInt (11)) hx hb dX8_load_22 rfl ?_
      refine lv_iload_n hx hb dX8_load_24 rfl (lv_at hl 1 rfl) ?_
      refine o_imul hx hb dX8_load_25 ?_
      refine lv_iload_n hx hb dX8_load_26 rfl (lv_at hl 3 rfl) ?_
      refine o_iadd hx hb dX8_load_27 ?_
      replace h := bnd h
      obtain ⟨v3, e3, h⟩ := h
      refine o_iald hx hb hi hw e3 dX8_load_28 ?_
      replace h := bnd h
      obtain ⟨v4, e4, h⟩ := h
      refine o_i2l hx hb e4 dX8_load_29 ?_
      replace h := bnd h
      obtain ⟨v5, e5, h⟩ := h
      refine o_last hx hb hi hw e5 dX8_load_30 (fun H locs hw => ?_)
      refine lv_iinc (v := Int32.ofInt (v2 + 1)) (lv' := [(3, .int (Int32.ofInt (v2 + 1))), (0, .ref (adr 36)), (1, .int (Int32.ofInt a0)), (2, .int (Int32.ofInt a1))]) hx hb dX8_load_31 hl (k := 3) rfl (inc_o _ _) (by decide) rfl (fun ls hl => ?_)
      refine lv_goto (tgt := 2) hx hb dX8_load_34 (by decide) ?_
      cases h
      exact k2 _ rfl _ _ _ (lv_sub hl [1, 2, 3, 0] rfl) hw
  · clear hw hl
    intro ls H locs hl hw
    (try dsimp only at hl hw ⊢)
    refine lv_aload_n hx hb dX8_load_37 rfl (lv_at hl 0 rfl) ?_
    refine lv_iload_n hx hb dX8_load_38 rfl (lv_at hl 1 rfl) ?_
    refine lv_bipush (v := Int32.ofInt (10)) hx hb dX8_load_39 rfl ?_
    replace h := bnd h
    obtain ⟨v8, e8, h⟩ := h
    refine m_callVv (k := 36) (As := [.int (Int32.ofInt a1), .int (Int32.ofInt (10))]) (rest := []) cx.fix hi hw (cc_X8_trim (l := l) (G := G) (sz := H.size) hi e8) (by decide) rfl rfl (w_cV 2 hts q_11 q_12 q_13 q_14 q_15 rfl rfl (by decide) (by decide)) hl.1 rfl (lv_room (Nat.le_of_ble_eq_true rfl)) dX8_load_41 (fun H locs hw => ?_)
    cases h
    exact kr _ _ _ _ dX8_load_44 hw
theorem cc_X8_load {l : Launch} {G : gG} {adr : Nat → Nat} {sz : Nat} (hi : adi adr) {n : Nat} {a0 : Int} {a1 : Int} {M M' : MI} (h : f_X8_load n a0 a1 M = some M') : mV l yX8_load cX8_load 4 none { frames := 1, cells := 0, slots := 0, locals := 23 } G adr [.ref (adr 36), .int (Int32.ofInt a0), .int (Int32.ofInt a1)] (tm M) sz (tm M') := by
  refine wEnter (by decide) (Nat.le_of_ble_eq_true rfl) ?_
  intro p e s m below meth c ls cx hinit hl hsz hw
  exact b_X8_load cx hi h (fun pc ls H locs hd hw => w_vret (post := fun (u : Mem) => u = tm M') (lf := fun u => (LL adr, wf G adr u)) cx.1 cx.2.1 cx.2.2.1 cx.2.2.2.2.2.2 (tm M') hw rfl hd) hl hw
theorem q_16 : Cond.fieldLink RX8 61 "LiftFactorsModel" "given" "I" ∈ uU := uU_in (by decide +kernel) (by decide +kernel)
theorem q_17 : Cond.methodLink RX8 64 yX8_get ∈ uU := uU_in (by decide +kernel) (by decide +kernel)
theorem q_18 : Cond.instanceMethod yX8_get ∈ uU := uU_in (by decide +kernel) (by decide +kernel)
theorem q_19 : Cond.selects yX8_get.cls yX8_get yX8_get ∈ uU := uU_in (by decide +kernel) (by decide +kernel)
theorem q_20 : Cond.initialized yX8_get.cls ∈ uU := uU_in (by decide +kernel) (by decide +kernel)
theorem q_21 : Cond.code yX8_get cX8_get 3 (some .long) ∈ uU := uU_in (by decide +kernel) (by decide +kernel)
def l_X8_store_2 (a0 : Int) : MI × Int → Option ((MI) ⊕ (MI × Int)) := fun (M1, v2) =>
  Option.bind (gI v2 (11)) fun _ =>
  if (11) ≤ v2 then
    some (.inl M1)
  else
    Option.bind (f_X8_get a0 v2 M1) fun v3 =>
    Option.bind (gJ v3 0) fun v4 =>
    Option.bind (osI M1 38 (((11) * (M1.2 36 2)) + v2) v3) fun v5 =>
    some (.inr (v5, v2 + 1))
def f_X8_store (n : Nat) (a0 : Int) (M : MI) : Option (Int × MI) :=
  Option.bind (lpF (l_X8_store_2 a0) n (M, (0))) fun M7 =>
  Option.bind (opI M7 36 2 ((M7.2 36 2) + (1))) fun v8 =>
  some ((v8.2 36 2) - (1), v8)
set_option maxRecDepth 100000 in
set_option maxHeartbeats 8000000 in
theorem b_X8_store {p : Program} {l : Launch} {e : Env} {s : State} {m : MethodId} {args : Array Value} {below : List Frame} {meth : Method} {c : Code} {Q : State → Prop} {G : gG} {A : Nat → Prop} {adr : Nat → Nat} (cx : cX p s m args meth c cX8_store (some .int) 3 yX8_store.cls) (hi : adi adr) {n : Nat} {a0 : Int} {M M' : MI} {r : Int} 
    (h : f_X8_store n a0 M = some (r, M'))
    (kr : ∀ (pc : Nat) (ls : Array Slot) (H : Heap) (locs : List Loc), decode cX8_store pc = .ok (.ireturn, 1) → wH G A s.heap s (LL adr) (wf G adr (tm M')) H locs → W p l e { frames := 1, cells := 0, slots := 0, locals := 22 } s m args below meth c H locs 0 0 Q (F0 m pc ls [.int (Int32.ofInt r)]))
    {ls : Array Slot} {H : Heap} {locs : List Loc} (hl : lv_has ls 3 [(0, .ref (adr 36)), (1, .int (Int32.ofInt a0))]) (hw : wH G A s.heap s (LL adr) (wf G adr (tm M)) H locs) : W p l e { frames := 1, cells := 0, slots := 0, locals := 22 } s m args below meth c H locs 0 0 Q (F0 m 0 ls []) := by
  obtain ⟨hx, hb, -, -, hown, hts, -⟩ := id cx
  have hown : s.vm.findClass RX8 = some m.cls := hown
  unfold f_X8_store at h
  refine lv_iconst (v := Int32.ofInt (0)) hx hb dX8_store_0 rfl ?_
  refine lv_istore_n (lv' := [(2, .int (Int32.ofInt (0))), (0, .ref (adr 36)), (1, .int (Int32.ofInt a0))]) hx hb dX8_store_1 rfl hl (by decide) rfl (fun ls hl => ?_)
  replace h := bnd h
  obtain ⟨M7, j6, h⟩ := h
  refine lp_W (Wst := fun (st : MI × Int) => ∀ (ls : Array Slot) (H : Heap) (locs : List Loc), lv_has ls 3 [(0, .ref (adr 36)), (1, .int (Int32.ofInt a0)), (2, .int (Int32.ofInt st.2))] → wH G A s.heap s (LL adr) (wf G adr (tm st.1)) H locs → W p l e { frames := 1, cells := 0, slots := 0, locals := 22 } s m args below meth c H locs 0 0 Q (F0 m 2 ls [])) (fin := fun (r : MI) => ∀ (ls : Array Slot) (H : Heap) (locs : List Loc), lv_has ls 3 [(0, .ref (adr 36))] → wH G A s.heap s (LL adr) (wf G adr (tm r)) H locs → W p l e { frames := 1, cells := 0, slots := 0, locals := 22 } s m args below meth c H locs 0 0 Q (F0 m 35 ls [])) ?_ n _ _ j6 ?_ _ _ _ (lv_sub hl [1, 2, 0] rfl) hw
  · clear h j6 hw hl
    intro ⟨M1, v2⟩ x h k1 k2 ls H locs hl hw
    (try dsimp only at k1 k2 hl hw ⊢)
    unfold l_X8_store_2 at h
    (try dsimp only at h)
    refine lv_iload_n hx hb dX8_store_2 rfl (lv_at hl 2 rfl) ?_
    refine lv_bipush (v := Int32.ofInt (11)) hx hb dX8_store_3 rfl ?_
    replace h := bnd h
    obtain ⟨_, hg, h⟩ := h
    refine o_icmp_ge (tgt := 35) hx hb hg dX8_store_5 (by decide) (fun hc => ?_) (fun hc => ?_)
    · replace h := ite_t hc h
      cases h
      exact k1 _ rfl _ _ _ (lv_sub hl [0] rfl) hw
    · replace h := ite_f hc h
      refine lv_aload_n hx hb dX8_store_8 rfl (lv_at hl 0 rfl) ?_
      refine m_get (k := 36) (C := RX8) (T := TX8) (N := 18) (ref := "LiftFactorsModel") (v := .ref (adr 38)) hx hb hi hts inX8_u hown hw (by decide) rfl 1 (by decide) q_10 rfl rfl dX8_store_9 ?_
      refine lv_bipush (v := Int32.ofInt (11)) hx hb dX8_store_12 rfl ?_
      refine lv_aload_n hx hb dX8_store_14 rfl (lv_at hl 0 rfl) ?_
      refine m_get (k := 36) (C := RX8) (T := TX8) (N := 18) (ref := "LiftFactorsModel") (v := .int (Int32.ofInt (M1.2 36 2))) hx hb hi hts inX8_u hown hw (by decide) rfl 2 (by decide) q_16 rfl rfl dX8_store_15 ?_
      refine o_imul hx hb dX8_store_18 ?_
      refine lv_iload_n hx hb dX8_store_19 rfl (lv_at hl 2 rfl) ?_
      refine o_iadd hx hb dX8_store_20 ?_
      refine lv_aload_n hx hb dX8_store_21 rfl (lv_at hl 0 rfl) ?_
      refine lv_iload_n hx hb dX8_store_22 rfl (lv_at hl 1 rfl) ?_
      refine lv_iload_n hx hb dX8_store_23 rfl (lv_at hl 2 rfl) ?_
      replace h := bnd h
      obtain ⟨v3, e3, h⟩ := h
      refine m_callVl (k := 36) (As := [.int (Int32.ofInt a0), .int (Int32.ofInt v2)]) (rest := [.int (Int32.ofInt (((11) * (M1.2 36 2)) + v2)), .ref (adr 38)]) cx.fix hi hw (cc_X8_get (l := l) (G := G) (sz := H.size) hi e3) (by decide) rfl rfl (w_cV 2 hts q_17 q_18 q_19 q_20 q_21 rfl rfl (by decide) (by decide)) hl.1 rfl (lv_room (Nat.le_of_ble_eq_true rfl)) dX8_store_24 (fun H locs hw => ?_)
      replace h := bnd h
      obtain ⟨v4, e4, h⟩ := h
      refine o_l2i hx hb e4 dX8_store_27 ?_
      replace h := bnd h
      obtain ⟨v5, e5, h⟩ := h
      refine o_iast hx hb hi hw e5 dX8_store_28 (fun H locs hw => ?_)
      refine lv_iinc (v := Int32.ofInt (v2 + 1)) (lv' := [(2, .int (Int32.ofInt (v2 + 1))), (0, .ref (adr 36)), (1, .int (Int32.ofInt a0))]) hx hb dX8_store_29 hl (k := 2) rfl (inc_o _ _) (by decide) rfl (fun ls hl => ?_)
      refine lv_goto (tgt := 2) hx hb dX8_store_32 (by decide) ?_
      cases h
      exact k2 _ rfl _ _ _ (lv_sub hl [1, 2, 0] rfl) hw
  · clear hw hl
    intro ls H locs hl hw
    (try dsimp only at hl hw ⊢)
    refine lv_aload_n hx hb dX8_store_35 rfl (lv_at hl 0 rfl) ?_
    refine lv_dup hx hb dX8_store_36 rfl ?_
    refine m_get (k := 36) (C := RX8) (T := TX8) (N := 18) (ref := "LiftFactorsModel") (v := .int (Int32.ofInt (M7.2 36 2))) hx hb hi hts inX8_u hown hw (by decide) rfl 2 (by decide) q_16 rfl rfl dX8_store_37 ?_
    refine lv_iconst (v := Int32.ofInt (1)) hx hb dX8_store_40 rfl ?_
    refine o_iadd hx hb dX8_store_41 ?_
    replace h := bnd h
    obtain ⟨v8, e8, h⟩ := h
    refine o_putI (k := 36) (C := RX8) (T := TX8) (N := 18) (ref := "LiftFactorsModel") hx hb hi hts inX8_u tyX8 tyX8_ok nmX8 hown hw (by decide) rfl 2 (by decide) q_16 rfl rfl e8 (by decide +kernel) rfl dX8_store_42 (fun H locs hw => ?_)
    refine lv_aload_n hx hb dX8_store_45 rfl (lv_at hl 0 rfl) ?_
    refine m_get (k := 36) (C := RX8) (T := TX8) (N := 18) (ref := "LiftFactorsModel") (v := .int (Int32.ofInt (v8.2 36 2))) hx hb hi hts inX8_u hown hw (by decide) rfl 2 (by decide) q_16 rfl rfl dX8_store_46 ?_
    refine lv_iconst (v := Int32.ofInt (1)) hx hb dX8_store_49 rfl ?_
    refine o_isub hx hb dX8_store_50 ?_
    cases h
    exact kr _ _ _ _ dX8_store_51 hw
theorem cc_X8_store {l : Launch} {G : gG} {adr : Nat → Nat} {sz : Nat} (hi : adi adr) {n : Nat} {a0 : Int} {M M' : MI} {r : Int} (h : f_X8_store n a0 M = some (r, M')) : mI l yX8_store cX8_store 3 (some .int) { frames := 1, cells := 0, slots := 0, locals := 22 } G adr [.ref (adr 36), .int (Int32.ofInt a0)] (tm M) sz (Int32.ofInt r) (tm M') := by
  refine wEnter (by decide) (Nat.le_of_ble_eq_true rfl) ?_
  intro p e s m below meth c ls cx hinit hl hsz hw
  exact b_X8_store cx hi h (fun pc ls H locs hd hw => w_iret (post := fun (r9 : Int32) (u : Mem) => r9 = Int32.ofInt r ∧ u = tm M') (lf := fun u => (LL adr, wf G adr u)) cx.1 cx.2.1 cx.2.2.1 cx.2.2.2.2.2.2 (tm M') hw ⟨rfl, rfl⟩ hd) hl hw
theorem q_22 : Cond.constantLong RX8 68 (9999) ∈ uU := uU_in (by decide +kernel) (by decide +kernel)
def l_X8_great_15 (a0 : Int) (M : MI) : Int → Option (((Int) ⊕ (Unit)) ⊕ (Int)) := fun v2 =>
  Option.bind (odI M 42 a0) fun v3 =>
  Option.bind (gI v2 v3) fun _ =>
  if v3 < v2 then
    some (.inl (.inr ()))
  else
    Option.bind (odJ M 41 (((24) * a0) + v2)) fun v4 =>
    Option.bind (f_X8_abs v4) fun v5 =>
    Option.bind (gJ v5 (9999)) fun _ =>
    if v5 ≤ (9999) then
      some (.inr (v2 + 1))
    else
      some (.inl (.inl (1)))
def f_X8_great (n : Nat) (a0 : Int) (M : MI) : Option Int :=
  Option.bind (odI M 42 a0) fun v1 =>
  Option.bind (gI v1 (11)) fun _ =>
  if v1 < (11) then
    Option.bind (lpF (l_X8_great_15 a0 M) n (0)) fun r => match r with
    | .inl o => some o
    | .inr () =>
      some (0)
  else
    some (1)
set_option maxRecDepth 100000 in
set_option maxHeartbeats 8000000 in
theorem b_X8_great {p : Program} {l : Launch} {e : Env} {s : State} {m : MethodId} {args : Array Value} {below : List Frame} {meth : Method} {c : Code} {Q : State → Prop} {G : gG} {A : Nat → Prop} {adr : Nat → Nat} (cx : cX p s m args meth c cX8_great (some .boolean) 3 yX8_great.cls) (hi : adi adr) {n : Nat} {a0 : Int} {M : MI} {r : Int} 
    (h : f_X8_great n a0 M = some r)
    (kr : ∀ (pc : Nat) (ls : Array Slot) (H : Heap) (locs : List Loc), decode cX8_great pc = .ok (.ireturn, 1) → narrow .boolean (.int (Int32.ofInt r)) = .int (Int32.ofInt r) → wH G A s.heap s (LL adr) (wf G adr (tm M)) H locs → W p l e { frames := 1, cells := 0, slots := 0, locals := 21 } s m args below meth c H locs 0 0 Q (F0 m pc ls [.int (Int32.ofInt r)]))
    {ls : Array Slot} {H : Heap} {locs : List Loc} (hl : lv_has ls 3 [(0, .ref (adr 36)), (1, .int (Int32.ofInt a0))]) (hw : wH G A s.heap s (LL adr) (wf G adr (tm M)) H locs) : W p l e { frames := 1, cells := 0, slots := 0, locals := 21 } s m args below meth c H locs 0 0 Q (F0 m 0 ls []) := by
  obtain ⟨hx, hb, -, -, hown, hts, -⟩ := id cx
  have hown : s.vm.findClass RX8 = some m.cls := hown
  unfold f_X8_great at h
  refine lv_aload_n hx hb dX8_great_0 rfl (lv_at hl 0 rfl) ?_
  refine m_get (k := 36) (C := RX8) (T := TX8) (N := 18) (ref := "LiftFactorsModel") (v := .ref (adr 42)) hx hb hi hts inX8_u hown hw (by decide) rfl 8 (by decide) q_1 rfl rfl dX8_great_1 ?_
  refine lv_iload_n hx hb dX8_great_4 rfl (lv_at hl 1 rfl) ?_
  replace h := bnd h
  obtain ⟨v1, e1, h⟩ := h
  refine o_iald hx hb hi hw e1 dX8_great_5 ?_
  refine lv_bipush (v := Int32.ofInt (11)) hx hb dX8_great_6 rfl ?_
  replace h := bnd h
  obtain ⟨_, hg, h⟩ := h
  refine o_icmp_lt (tgt := 13) hx hb hg dX8_great_8 (by decide) (fun hc => ?_) (fun hc => ?_)
  · replace h := ite_t hc h
    refine lv_iconst (v := Int32.ofInt (0)) hx hb dX8_great_13 rfl ?_
    refine lv_istore_n (lv' := [(2, .int (Int32.ofInt (0))), (0, .ref (adr 36)), (1, .int (Int32.ofInt a0))]) hx hb dX8_great_14 rfl hl (by decide) rfl (fun ls hl => ?_)
    replace h := bnd h
    obtain ⟨o7, j6, h⟩ := h
    refine lp_W (Wst := fun (st : Int) => ∀ (ls : Array Slot) (H : Heap) (locs : List Loc), lv_has ls 3 [(0, .ref (adr 36)), (1, .int (Int32.ofInt a0)), (2, .int (Int32.ofInt st))] → wH G A s.heap s (LL adr) (wf G adr (tm M)) H locs → W p l e { frames := 1, cells := 0, slots := 0, locals := 21 } s m args below meth c H locs 0 0 Q (F0 m 15 ls [])) (fin := fun (r : (Int) ⊕ (Unit)) => match r with
      | .inl o => ∀ (pc : Nat) (ls : Array Slot) (H : Heap) (locs : List Loc), decode cX8_great pc = .ok (.ireturn, 1) → narrow .boolean (.int (Int32.ofInt o)) = .int (Int32.ofInt o) → wH G A s.heap s (LL adr) (wf G adr (tm M)) H locs → W p l e { frames := 1, cells := 0, slots := 0, locals := 21 } s m args below meth c H locs 0 0 Q (F0 m pc ls [.int (Int32.ofInt o)])
      | .inr q => ∀ (ls : Array Slot) (H : Heap) (locs : List Loc), lv_has ls 3 [] → wH G A s.heap s (LL adr) (wf G adr (tm M)) H locs → W p l e { frames := 1, cells := 0, slots := 0, locals := 21 } s m args below meth c H locs 0 0 Q (F0 m 54 ls [])) ?_ n _ _ j6 ?_ _ _ _ (lv_sub hl [1, 2, 0] rfl) hw
    · clear h j6 hw hl
      intro v2 x h k1 k2 ls H locs hl hw
      (try dsimp only at k2 hl hw ⊢)
      unfold l_X8_great_15 at h
      (try dsimp only at h)
      refine lv_iload_n hx hb dX8_great_15 rfl (lv_at hl 2 rfl) ?_
      refine lv_aload_n hx hb dX8_great_16 rfl (lv_at hl 0 rfl) ?_
      refine m_get (k := 36) (C := RX8) (T := TX8) (N := 18) (ref := "LiftFactorsModel") (v := .ref (adr 42)) hx hb hi hts inX8_u hown hw (by decide) rfl 8 (by decide) q_1 rfl rfl dX8_great_17 ?_
      refine lv_iload_n hx hb dX8_great_20 rfl (lv_at hl 1 rfl) ?_
      replace h := bnd h
      obtain ⟨v3, e3, h⟩ := h
      refine o_iald hx hb hi hw e3 dX8_great_21 ?_
      replace h := bnd h
      obtain ⟨_, hg, h⟩ := h
      refine o_icmp_gt (tgt := 54) hx hb hg dX8_great_22 (by decide) (fun hc => ?_) (fun hc => ?_)
      · replace h := ite_t hc h
        cases h
        exact k1 _ rfl _ _ _ (lv_sub hl [] rfl) hw
      · replace h := ite_f hc h
        refine lv_aload_n hx hb dX8_great_25 rfl (lv_at hl 0 rfl) ?_
        refine m_get (k := 36) (C := RX8) (T := TX8) (N := 18) (ref := "LiftFactorsModel") (v := .ref (adr 41)) hx hb hi hts inX8_u hown hw (by decide) rfl 7 (by decide) q_0 rfl rfl dX8_great_26 ?_
        refine lv_bipush (v := Int32.ofInt (24)) hx hb dX8_great_29 rfl ?_
        refine lv_iload_n hx hb dX8_great_31 rfl (lv_at hl 1 rfl) ?_
        refine o_imul hx hb dX8_great_32 ?_
        refine lv_iload_n hx hb dX8_great_33 rfl (lv_at hl 2 rfl) ?_
        refine o_iadd hx hb dX8_great_34 ?_
        replace h := bnd h
        obtain ⟨v4, e4, h⟩ := h
        refine o_lald hx hb hi hw e4 dX8_great_35 ?_
        replace h := bnd h
        obtain ⟨v5, e5, h⟩ := h
        refine m_callSl (As := [.long (Int64.ofInt v4)]) (rest := []) cx.fix hw (cc_X8_abs (l := l) (G := G) (sz := H.size) (M := M) hi e5) (w_cS 1 hts q_2 q_3 q_4 q_5 rfl rfl (by decide) (by decide)) hl.1 rfl (lv_room (Nat.le_of_ble_eq_true rfl)) dX8_great_36 (fun H locs hw => ?_)
        refine lv_ldc2 (v := Int64.ofInt (9999)) hx hb hown (hts _ q_22) dX8_great_39 ?_
        replace h := bnd h
        obtain ⟨_, hg, h⟩ := h
        refine o_lcmp_le (tgt := 48) hx hb hg dX8_great_42 dX8_great_43 (by decide) (fun hc => ?_) (fun hc => ?_)
        · replace h := ite_t hc h
          refine lv_iinc (v := Int32.ofInt (v2 + 1)) (lv' := [(2, .int (Int32.ofInt (v2 + 1))), (0, .ref (adr 36)), (1, .int (Int32.ofInt a0))]) hx hb dX8_great_48 hl (k := 2) rfl (inc_o _ _) (by decide) rfl (fun ls hl => ?_)
          refine lv_goto (tgt := 15) hx hb dX8_great_51 (by decide) ?_
          cases h
          exact k2 _ rfl _ _ _ (lv_sub hl [1, 2, 0] rfl) hw
        · replace h := ite_f hc h
          refine lv_iconst (v := Int32.ofInt (1)) hx hb dX8_great_46 rfl ?_
          cases h
          exact k1 _ rfl _ _ _ _ dX8_great_47 nb1 hw
    · clear hw hl j6
      rcases o7 with o9 | _
      · cases h
        exact kr
      · intro ls H locs hl hw
        (try dsimp only at h hl hw ⊢)
        refine lv_iconst (v := Int32.ofInt (0)) hx hb dX8_great_54 rfl ?_
        cases h
        exact kr _ _ _ _ dX8_great_55 nb0 hw
  · replace h := ite_f hc h
    refine lv_iconst (v := Int32.ofInt (1)) hx hb dX8_great_11 rfl ?_
    cases h
    exact kr _ _ _ _ dX8_great_12 nb1 hw
theorem cc_X8_great {l : Launch} {G : gG} {adr : Nat → Nat} {sz : Nat} (hi : adi adr) {n : Nat} {a0 : Int} {M : MI} {r : Int} (h : f_X8_great n a0 M = some r) : mI l yX8_great cX8_great 3 (some .boolean) { frames := 1, cells := 0, slots := 0, locals := 21 } G adr [.ref (adr 36), .int (Int32.ofInt a0)] (tm M) sz (Int32.ofInt r) (tm M) := by
  refine wEnter (by decide) (Nat.le_of_ble_eq_true rfl) ?_
  intro p e s m below meth c ls cx hinit hl hsz hw
  exact b_X8_great cx hi h (fun pc ls H locs hd hz hw => w_zret (post := fun (r9 : Int32) (u : Mem) => r9 = Int32.ofInt r ∧ u = tm M) (lf := fun u => (LL adr, wf G adr u)) cx.1 cx.2.1 cx.2.2.1 cx.2.2.2.2.2.2 hz (tm M) hw ⟨rfl, rfl⟩ hd) hl hw
def f_X8_isPoly (a0 : Int) : Option Int :=
  Option.bind (
    Option.bind (gI a0 0) fun _ =>
    if a0 < 0 then
      some (0)
    else
      Option.bind (gI a0 (80)) fun _ =>
      if (80) ≤ a0 then
        some (0)
      else
        some (1)) fun v1 =>
  Option.bind (obz v1) fun v2 =>
  some v2
set_option maxRecDepth 100000 in
set_option maxHeartbeats 8000000 in
theorem b_X8_isPoly {p : Program} {l : Launch} {e : Env} {s : State} {m : MethodId} {args : Array Value} {below : List Frame} {meth : Method} {c : Code} {Q : State → Prop} {G : gG} {A : Nat → Prop} {adr : Nat → Nat} (cx : cX p s m args meth c cX8_isPoly (some .boolean) 1 yX8_isPoly.cls) (hi : adi adr) {a0 : Int} {M : MI} {r : Int} 
    (h : f_X8_isPoly a0 = some r)
    (kr : ∀ (pc : Nat) (ls : Array Slot) (H : Heap) (locs : List Loc), decode cX8_isPoly pc = .ok (.ireturn, 1) → narrow .boolean (.int (Int32.ofInt r)) = .int (Int32.ofInt r) → wH G A s.heap s (LL adr) (wf G adr (tm M)) H locs → W p l e { frames := 0, cells := 0, slots := 0, locals := 0 } s m args below meth c H locs 0 0 Q (F0 m pc ls [.int (Int32.ofInt r)]))
    {ls : Array Slot} {H : Heap} {locs : List Loc} (hl : lv_has ls 1 [(0, .int (Int32.ofInt a0))]) (hw : wH G A s.heap s (LL adr) (wf G adr (tm M)) H locs) : W p l e { frames := 0, cells := 0, slots := 0, locals := 0 } s m args below meth c H locs 0 0 Q (F0 m 0 ls []) := by
  obtain ⟨hx, hb, -, -, hown, hts, -⟩ := id cx
  have hown : s.vm.findClass RX8 = some m.cls := hown
  unfold f_X8_isPoly at h
  refine lv_iload_n hx hb dX8_isPoly_0 rfl (lv_at hl 0 rfl) ?_
  replace h := bnd h
  obtain ⟨v1, j3, h⟩ := h
  have kj : ∀ (ls : Array Slot) (H : Heap) (locs : List Loc), lv_has ls 1 [] → wH G A s.heap s (LL adr) (wf G adr (tm M)) H locs → W p l e { frames := 0, cells := 0, slots := 0, locals := 0 } s m args below meth c H locs 0 0 Q (F0 m 15 ls [.int (Int32.ofInt v1)]) := by
    intro ls H locs hl hw
    replace h := bnd h
    obtain ⟨v2, eZ, h⟩ := h
    obtain ⟨rfl, eZ⟩ := obz_ok eZ
    cases h
    exact kr _ _ _ _ dX8_isPoly_15 eZ hw
  clear h
  replace h := j3
  clear j3
  replace h := bnd h
  obtain ⟨_, hg, h⟩ := h
  refine o_if_lt (tgt := 14) hx hb hg dX8_isPoly_1 (by decide) (fun hc => ?_) (fun hc => ?_)
  · replace h := ite_t hc h
    refine lv_iconst (v := Int32.ofInt (0)) hx hb dX8_isPoly_14 rfl ?_
    cases h
    exact kj _ _ _ (lv_sub hl [] rfl) hw
  · replace h := ite_f hc h
    refine lv_iload_n hx hb dX8_isPoly_4 rfl (lv_at hl 0 rfl) ?_
    refine lv_bipush (v := Int32.ofInt (80)) hx hb dX8_isPoly_5 rfl ?_
    replace h := bnd h
    obtain ⟨_, hg, h⟩ := h
    refine o_icmp_ge (tgt := 14) hx hb hg dX8_isPoly_7 (by decide) (fun hc => ?_) (fun hc => ?_)
    · replace h := ite_t hc h
      refine lv_iconst (v := Int32.ofInt (0)) hx hb dX8_isPoly_14 rfl ?_
      cases h
      exact kj _ _ _ (lv_sub hl [] rfl) hw
    · replace h := ite_f hc h
      refine lv_iconst (v := Int32.ofInt (1)) hx hb dX8_isPoly_10 rfl ?_
      refine lv_goto (tgt := 15) hx hb dX8_isPoly_11 (by decide) ?_
      cases h
      exact kj _ _ _ (lv_sub hl [] rfl) hw
theorem cc_X8_isPoly {l : Launch} {G : gG} {adr : Nat → Nat} {sz : Nat} (hi : adi adr) {a0 : Int} {M : MI} {r : Int} (h : f_X8_isPoly a0 = some r) : mI l yX8_isPoly cX8_isPoly 1 (some .boolean) { frames := 0, cells := 0, slots := 0, locals := 0 } G adr [.int (Int32.ofInt a0)] (tm M) sz (Int32.ofInt r) (tm M) := by
  refine wEnter (by decide) (Nat.le_of_ble_eq_true rfl) ?_
  intro p e s m below meth c ls cx hinit hl hsz hw
  exact b_X8_isPoly cx hi h (fun pc ls H locs hd hz hw => w_zret (post := fun (r9 : Int32) (u : Mem) => r9 = Int32.ofInt r ∧ u = tm M) (lf := fun u => (LL adr, wf G adr u)) cx.1 cx.2.1 cx.2.2.1 cx.2.2.2.2.2.2 hz (tm M) hw ⟨rfl, rfl⟩ hd) hl hw
def f_X8_isPower (a0 : Int) : Option Int :=
  Option.bind (
    Option.bind (gI a0 0) fun _ =>
    if a0 < 0 then
      some (0)
    else
      Option.bind (gI a0 (11)) fun _ =>
      if (11) ≤ a0 then
        some (0)
      else
        some (1)) fun v1 =>
  Option.bind (obz v1) fun v2 =>
  some v2
set_option maxRecDepth 100000 in
set_option maxHeartbeats 8000000 in
theorem b_X8_isPower {p : Program} {l : Launch} {e : Env} {s : State} {m : MethodId} {args : Array Value} {below : List Frame} {meth : Method} {c : Code} {Q : State → Prop} {G : gG} {A : Nat → Prop} {adr : Nat → Nat} (cx : cX p s m args meth c cX8_isPower (some .boolean) 1 yX8_isPower.cls) (hi : adi adr) {a0 : Int} {M : MI} {r : Int} 
    (h : f_X8_isPower a0 = some r)
    (kr : ∀ (pc : Nat) (ls : Array Slot) (H : Heap) (locs : List Loc), decode cX8_isPower pc = .ok (.ireturn, 1) → narrow .boolean (.int (Int32.ofInt r)) = .int (Int32.ofInt r) → wH G A s.heap s (LL adr) (wf G adr (tm M)) H locs → W p l e { frames := 0, cells := 0, slots := 0, locals := 0 } s m args below meth c H locs 0 0 Q (F0 m pc ls [.int (Int32.ofInt r)]))
    {ls : Array Slot} {H : Heap} {locs : List Loc} (hl : lv_has ls 1 [(0, .int (Int32.ofInt a0))]) (hw : wH G A s.heap s (LL adr) (wf G adr (tm M)) H locs) : W p l e { frames := 0, cells := 0, slots := 0, locals := 0 } s m args below meth c H locs 0 0 Q (F0 m 0 ls []) := by
  obtain ⟨hx, hb, -, -, hown, hts, -⟩ := id cx
  have hown : s.vm.findClass RX8 = some m.cls := hown
  unfold f_X8_isPower at h
  refine lv_iload_n hx hb dX8_isPower_0 rfl (lv_at hl 0 rfl) ?_
  replace h := bnd h
  obtain ⟨v1, j3, h⟩ := h
  have kj : ∀ (ls : Array Slot) (H : Heap) (locs : List Loc), lv_has ls 1 [] → wH G A s.heap s (LL adr) (wf G adr (tm M)) H locs → W p l e { frames := 0, cells := 0, slots := 0, locals := 0 } s m args below meth c H locs 0 0 Q (F0 m 15 ls [.int (Int32.ofInt v1)]) := by
    intro ls H locs hl hw
    replace h := bnd h
    obtain ⟨v2, eZ, h⟩ := h
    obtain ⟨rfl, eZ⟩ := obz_ok eZ
    cases h
    exact kr _ _ _ _ dX8_isPower_15 eZ hw
  clear h
  replace h := j3
  clear j3
  replace h := bnd h
  obtain ⟨_, hg, h⟩ := h
  refine o_if_lt (tgt := 14) hx hb hg dX8_isPower_1 (by decide) (fun hc => ?_) (fun hc => ?_)
  · replace h := ite_t hc h
    refine lv_iconst (v := Int32.ofInt (0)) hx hb dX8_isPower_14 rfl ?_
    cases h
    exact kj _ _ _ (lv_sub hl [] rfl) hw
  · replace h := ite_f hc h
    refine lv_iload_n hx hb dX8_isPower_4 rfl (lv_at hl 0 rfl) ?_
    refine lv_bipush (v := Int32.ofInt (11)) hx hb dX8_isPower_5 rfl ?_
    replace h := bnd h
    obtain ⟨_, hg, h⟩ := h
    refine o_icmp_ge (tgt := 14) hx hb hg dX8_isPower_7 (by decide) (fun hc => ?_) (fun hc => ?_)
    · replace h := ite_t hc h
      refine lv_iconst (v := Int32.ofInt (0)) hx hb dX8_isPower_14 rfl ?_
      cases h
      exact kj _ _ _ (lv_sub hl [] rfl) hw
    · replace h := ite_f hc h
      refine lv_iconst (v := Int32.ofInt (1)) hx hb dX8_isPower_10 rfl ?_
      refine lv_goto (tgt := 15) hx hb dX8_isPower_11 (by decide) ?_
      cases h
      exact kj _ _ _ (lv_sub hl [] rfl) hw
theorem cc_X8_isPower {l : Launch} {G : gG} {adr : Nat → Nat} {sz : Nat} (hi : adi adr) {a0 : Int} {M : MI} {r : Int} (h : f_X8_isPower a0 = some r) : mI l yX8_isPower cX8_isPower 1 (some .boolean) { frames := 0, cells := 0, slots := 0, locals := 0 } G adr [.int (Int32.ofInt a0)] (tm M) sz (Int32.ofInt r) (tm M) := by
  refine wEnter (by decide) (Nat.le_of_ble_eq_true rfl) ?_
  intro p e s m below meth c ls cx hinit hl hsz hw
  exact b_X8_isPower cx hi h (fun pc ls H locs hd hz hw => w_zret (post := fun (r9 : Int32) (u : Mem) => r9 = Int32.ofInt r ∧ u = tm M) (lf := fun u => (LL adr, wf G adr u)) cx.1 cx.2.1 cx.2.2.1 cx.2.2.2.2.2.2 hz (tm M) hw ⟨rfl, rfl⟩ hd) hl hw
def l_X8_derive_2 (a0 : Int) (a1 : Int) : MI × Int → Option ((MI) ⊕ (MI × Int)) := fun (M1, v2) =>
  Option.bind (odI M1 42 a0) fun v3 =>
  Option.bind (gI v2 v3) fun _ =>
  if v3 < v2 then
    some (.inl M1)
  else
    Option.bind (gI v2 0) fun v4 =>
    Option.bind (odJ M1 41 (((24) * a0) + v2)) fun v5 =>
    Option.bind (osJ M1 41 ((((24) * a1) + v2) - (1)) (v2 * v5)) fun v6 =>
    some (.inr (v6, v2 + 1))
def f_X8_derive (n : Nat) (a0 : Int) (a1 : Int) (M : MI) : Option MI :=
  Option.bind (lpF (l_X8_derive_2 a0 a1) n (M, (1))) fun M8 =>
  Option.bind (odI M8 42 a0) fun v9 =>
  Option.bind (f_X8_trim n a1 (v9 - (1)) M8) fun v10 =>
  some v10
set_option maxRecDepth 100000 in
set_option maxHeartbeats 8000000 in
theorem b_X8_derive {p : Program} {l : Launch} {e : Env} {s : State} {m : MethodId} {args : Array Value} {below : List Frame} {meth : Method} {c : Code} {Q : State → Prop} {G : gG} {A : Nat → Prop} {adr : Nat → Nat} (cx : cX p s m args meth c cX8_derive none 4 yX8_derive.cls) (hi : adi adr) {n : Nat} {a0 : Int} {a1 : Int} {M M' : MI} 
    (h : f_X8_derive n a0 a1 M = some M')
    (kr : ∀ (pc : Nat) (ls : Array Slot) (H : Heap) (locs : List Loc), decode cX8_derive pc = .ok (.return_, 1) → wH G A s.heap s (LL adr) (wf G adr (tm M')) H locs → W p l e { frames := 1, cells := 0, slots := 0, locals := 23 } s m args below meth c H locs 0 0 Q (F0 m pc ls []))
    {ls : Array Slot} {H : Heap} {locs : List Loc} (hl : lv_has ls 4 [(0, .ref (adr 36)), (1, .int (Int32.ofInt a0)), (2, .int (Int32.ofInt a1))]) (hw : wH G A s.heap s (LL adr) (wf G adr (tm M)) H locs) : W p l e { frames := 1, cells := 0, slots := 0, locals := 23 } s m args below meth c H locs 0 0 Q (F0 m 0 ls []) := by
  obtain ⟨hx, hb, -, -, hown, hts, -⟩ := id cx
  have hown : s.vm.findClass RX8 = some m.cls := hown
  unfold f_X8_derive at h
  refine lv_iconst (v := Int32.ofInt (1)) hx hb dX8_derive_0 rfl ?_
  refine lv_istore_n (lv' := [(3, .int (Int32.ofInt (1))), (0, .ref (adr 36)), (1, .int (Int32.ofInt a0)), (2, .int (Int32.ofInt a1))]) hx hb dX8_derive_1 rfl hl (by decide) rfl (fun ls hl => ?_)
  replace h := bnd h
  obtain ⟨M8, j7, h⟩ := h
  refine lp_W (Wst := fun (st : MI × Int) => ∀ (ls : Array Slot) (H : Heap) (locs : List Loc), lv_has ls 4 [(0, .ref (adr 36)), (1, .int (Int32.ofInt a0)), (2, .int (Int32.ofInt a1)), (3, .int (Int32.ofInt st.2))] → wH G A s.heap s (LL adr) (wf G adr (tm st.1)) H locs → W p l e { frames := 1, cells := 0, slots := 0, locals := 23 } s m args below meth c H locs 0 0 Q (F0 m 2 ls [])) (fin := fun (r : MI) => ∀ (ls : Array Slot) (H : Heap) (locs : List Loc), lv_has ls 4 [(0, .ref (adr 36)), (1, .int (Int32.ofInt a0)), (2, .int (Int32.ofInt a1))] → wH G A s.heap s (LL adr) (wf G adr (tm r)) H locs → W p l e { frames := 1, cells := 0, slots := 0, locals := 23 } s m args below meth c H locs 0 0 Q (F0 m 45 ls [])) ?_ n _ _ j7 ?_ _ _ _ (lv_sub hl [1, 2, 3, 0] rfl) hw
  · clear h j7 hw hl
    intro ⟨M1, v2⟩ x h k1 k2 ls H locs hl hw
    (try dsimp only at k1 k2 hl hw ⊢)
    unfold l_X8_derive_2 at h
    (try dsimp only at h)
    refine lv_iload_n hx hb dX8_derive_2 rfl (lv_at hl 3 rfl) ?_
    refine lv_aload_n hx hb dX8_derive_3 rfl (lv_at hl 0 rfl) ?_
    refine m_get (k := 36) (C := RX8) (T := TX8) (N := 18) (ref := "LiftFactorsModel") (v := .ref (adr 42)) hx hb hi hts inX8_u hown hw (by decide) rfl 8 (by decide) q_1 rfl rfl dX8_derive_4 ?_
    refine lv_iload_n hx hb dX8_derive_7 rfl (lv_at hl 1 rfl) ?_
    replace h := bnd h
    obtain ⟨v3, e3, h⟩ := h
    refine o_iald hx hb hi hw e3 dX8_derive_8 ?_
    replace h := bnd h
    obtain ⟨_, hg, h⟩ := h
    refine o_icmp_gt (tgt := 45) hx hb hg dX8_derive_9 (by decide) (fun hc => ?_) (fun hc => ?_)
    · replace h := ite_t hc h
      cases h
      exact k1 _ rfl _ _ _ (lv_sub hl [0, 1, 2] rfl) hw
    · replace h := ite_f hc h
      refine lv_aload_n hx hb dX8_derive_12 rfl (lv_at hl 0 rfl) ?_
      refine m_get (k := 36) (C := RX8) (T := TX8) (N := 18) (ref := "LiftFactorsModel") (v := .ref (adr 41)) hx hb hi hts inX8_u hown hw (by decide) rfl 7 (by decide) q_0 rfl rfl dX8_derive_13 ?_
      refine lv_bipush (v := Int32.ofInt (24)) hx hb dX8_derive_16 rfl ?_
      refine lv_iload_n hx hb dX8_derive_18 rfl (lv_at hl 2 rfl) ?_
      refine o_imul hx hb dX8_derive_19 ?_
      refine lv_iload_n hx hb dX8_derive_20 rfl (lv_at hl 3 rfl) ?_
      refine o_iadd hx hb dX8_derive_21 ?_
      refine lv_iconst (v := Int32.ofInt (1)) hx hb dX8_derive_22 rfl ?_
      refine o_isub hx hb dX8_derive_23 ?_
      refine lv_iload_n hx hb dX8_derive_24 rfl (lv_at hl 3 rfl) ?_
      replace h := bnd h
      obtain ⟨v4, e4, h⟩ := h
      refine o_i2l hx hb e4 dX8_derive_25 ?_
      refine lv_aload_n hx hb dX8_derive_26 rfl (lv_at hl 0 rfl) ?_
      refine m_get (k := 36) (C := RX8) (T := TX8) (N := 18) (ref := "LiftFactorsModel") (v := .ref (adr 41)) hx hb hi hts inX8_u hown hw (by decide) rfl 7 (by decide) q_0 rfl rfl dX8_derive_27 ?_
      refine lv_bipush (v := Int32.ofInt (24)) hx hb dX8_derive_30 rfl ?_
      refine lv_iload_n hx hb dX8_derive_32 rfl (lv_at hl 1 rfl) ?_
      refine o_imul hx hb dX8_derive_33 ?_
      refine lv_iload_n hx hb dX8_derive_34 rfl (lv_at hl 3 rfl) ?_
      refine o_iadd hx hb dX8_derive_35 ?_
      replace h := bnd h
      obtain ⟨v5, e5, h⟩ := h
      refine o_lald hx hb hi hw e5 dX8_derive_36 ?_
      refine o_lmul hx hb dX8_derive_37 ?_
      replace h := bnd h
      obtain ⟨v6, e6, h⟩ := h
      refine o_last hx hb hi hw e6 dX8_derive_38 (fun H locs hw => ?_)
      refine lv_iinc (v := Int32.ofInt (v2 + 1)) (lv' := [(3, .int (Int32.ofInt (v2 + 1))), (0, .ref (adr 36)), (1, .int (Int32.ofInt a0)), (2, .int (Int32.ofInt a1))]) hx hb dX8_derive_39 hl (k := 3) rfl (inc_o _ _) (by decide) rfl (fun ls hl => ?_)
      refine lv_goto (tgt := 2) hx hb dX8_derive_42 (by decide) ?_
      cases h
      exact k2 _ rfl _ _ _ (lv_sub hl [1, 2, 3, 0] rfl) hw
  · clear hw hl
    intro ls H locs hl hw
    (try dsimp only at hl hw ⊢)
    refine lv_aload_n hx hb dX8_derive_45 rfl (lv_at hl 0 rfl) ?_
    refine lv_iload_n hx hb dX8_derive_46 rfl (lv_at hl 2 rfl) ?_
    refine lv_aload_n hx hb dX8_derive_47 rfl (lv_at hl 0 rfl) ?_
    refine m_get (k := 36) (C := RX8) (T := TX8) (N := 18) (ref := "LiftFactorsModel") (v := .ref (adr 42)) hx hb hi hts inX8_u hown hw (by decide) rfl 8 (by decide) q_1 rfl rfl dX8_derive_48 ?_
    refine lv_iload_n hx hb dX8_derive_51 rfl (lv_at hl 1 rfl) ?_
    replace h := bnd h
    obtain ⟨v9, e9, h⟩ := h
    refine o_iald hx hb hi hw e9 dX8_derive_52 ?_
    refine lv_iconst (v := Int32.ofInt (1)) hx hb dX8_derive_53 rfl ?_
    refine o_isub hx hb dX8_derive_54 ?_
    replace h := bnd h
    obtain ⟨v10, e10, h⟩ := h
    refine m_callVv (k := 36) (As := [.int (Int32.ofInt a1), .int (Int32.ofInt (v9 - (1)))]) (rest := []) cx.fix hi hw (cc_X8_trim (l := l) (G := G) (sz := H.size) hi e10) (by decide) rfl rfl (w_cV 2 hts q_11 q_12 q_13 q_14 q_15 rfl rfl (by decide) (by decide)) hl.1 rfl (lv_room (Nat.le_of_ble_eq_true rfl)) dX8_derive_55 (fun H locs hw => ?_)
    cases h
    exact kr _ _ _ _ dX8_derive_58 hw
theorem cc_X8_derive {l : Launch} {G : gG} {adr : Nat → Nat} {sz : Nat} (hi : adi adr) {n : Nat} {a0 : Int} {a1 : Int} {M M' : MI} (h : f_X8_derive n a0 a1 M = some M') : mV l yX8_derive cX8_derive 4 none { frames := 1, cells := 0, slots := 0, locals := 23 } G adr [.ref (adr 36), .int (Int32.ofInt a0), .int (Int32.ofInt a1)] (tm M) sz (tm M') := by
  refine wEnter (by decide) (Nat.le_of_ble_eq_true rfl) ?_
  intro p e s m below meth c ls cx hinit hl hsz hw
  exact b_X8_derive cx hi h (fun pc ls H locs hd hw => w_vret (post := fun (u : Mem) => u = tm M') (lf := fun u => (LL adr, wf G adr u)) cx.1 cx.2.1 cx.2.2.1 cx.2.2.2.2.2.2 (tm M') hw rfl hd) hl hw
theorem q_23 : Cond.constantLong RX8 70 (20000000) ∈ uU := uU_in (by decide +kernel) (by decide +kernel)
theorem q_24 : Cond.methodLink RX8 72 yX8_copy ∈ uU := uU_in (by decide +kernel) (by decide +kernel)
theorem q_25 : Cond.instanceMethod yX8_copy ∈ uU := uU_in (by decide +kernel) (by decide +kernel)
theorem q_26 : Cond.selects yX8_copy.cls yX8_copy yX8_copy ∈ uU := uU_in (by decide +kernel) (by decide +kernel)
theorem q_27 : Cond.initialized yX8_copy.cls ∈ uU := uU_in (by decide +kernel) (by decide +kernel)
theorem q_28 : Cond.code yX8_copy cX8_copy 4 none ∈ uU := uU_in (by decide +kernel) (by decide +kernel)
def l_X8_divides_14 (a0 : Int) (M : MI) : Int → Option (((Int × MI) ⊕ (Unit)) ⊕ (Int)) := fun v2 =>
  Option.bind (odI M 42 a0) fun v3 =>
  Option.bind (gI v2 v3) fun _ =>
  if v3 < v2 then
    some (.inl (.inr ()))
  else
    Option.bind (odJ M 41 (((24) * a0) + v2)) fun v4 =>
    Option.bind (f_X8_abs v4) fun v5 =>
    Option.bind (gJ v5 (20000000)) fun _ =>
    if v5 ≤ (20000000) then
      some (.inr (v2 + 1))
    else
      some (.inl (.inl ((0), M)))
def l_X8_divides_169 (a0 : Int) (v13 : Int) (v20 : Int) : MI × Int → Option ((MI) ⊕ (MI × Int)) := fun (M22, v23) =>
  Option.bind (odI M22 42 a0) fun v24 =>
  Option.bind (gI v23 v24) fun _ =>
  if v24 < v23 then
    some (.inl M22)
  else
    Option.bind (odJ M22 41 (((96) + v13) + v23)) fun v25 =>
    Option.bind (odJ M22 41 (((24) * a0) + v23)) fun v26 =>
    Option.bind (osJ M22 41 (((96) + v13) + v23) (v25 - (v20 * v26))) fun v27 =>
    some (.inr (v27, v23 + 1))
def l_X8_divides_98 (n : Nat) (a0 : Int) (a2 : Int) (v11 : Int) : MI × Int → Option (((Int × MI) ⊕ (MI)) ⊕ (MI × Int)) := fun (M12, v13) =>
  Option.bind (gI v13 0) fun _ =>
  if v13 < 0 then
    some (.inl (.inr M12))
  else
    Option.bind (odI M12 42 a0) fun v15 =>
    Option.bind (odJ M12 41 (((96) + v13) + v15)) fun v16 =>
    Option.bind (orJ v16 v11) fun v17 =>
    Option.bind (gJ v17 (0)) fun _ =>
    if v17 = (0) then
      Option.bind (oqJ v16 v11) fun v18 =>
      Option.bind (f_X8_abs v18) fun v19 =>
      Option.bind (gJ v19 a2) fun _ =>
      if v19 ≤ a2 then
        Option.bind (oqJ v16 v11) fun v20 =>
        Option.bind (osJ M12 41 ((72) + v13) v20) fun v21 =>
        Option.bind (lpF (l_X8_divides_169 a0 v13 v20) n (v21, (0))) fun M29 =>
        some (.inr (M29, v13 + (-1)))
      else
        some (.inl (.inl ((0), M12)))
    else
      some (.inl (.inl ((0), M12)))
def l_X8_divides_226 (a1 : Int) (M31 : MI) : Int → Option (((Int × MI) ⊕ (Unit)) ⊕ (Int)) := fun v32 =>
  Option.bind (odI M31 42 a1) fun v34 =>
  Option.bind (gI v32 v34) fun _ =>
  if v34 < v32 then
    some (.inl (.inr ()))
  else
    Option.bind (odJ M31 41 ((96) + v32)) fun v35 =>
    Option.bind (gJ v35 (0)) fun _ =>
    if v35 = (0) then
      some (.inr (v32 + 1))
    else
      some (.inl (.inl ((0), M31)))
def f_X8_divides (n : Nat) (a0 : Int) (a1 : Int) (a2 : Int) (M : MI) : Option (Int × MI) :=
  Option.bind (odI M 42 a0) fun v1 =>
  Option.bind (gI v1 0) fun _ =>
  if 0 ≤ v1 then
    Option.bind (lpF (l_X8_divides_14 a0 M) n (0)) fun r => match r with
    | .inl o => some o
    | .inr () =>
      Option.bind (f_X8_copy n a1 (4) M) fun v7 =>
      Option.bind (odI v7 42 a1) fun v8 =>
      Option.bind (odI v7 42 a0) fun v9 =>
      Option.bind (odI v7 42 a0) fun v10 =>
      Option.bind (odJ v7 41 (((24) * a0) + v10)) fun v11 =>
      Option.bind (lpF (l_X8_divides_98 n a0 a2 v11) n (v7, v8 - v9)) fun r => match r with
      | .inl o => some o
      | .inr M31 =>
        Option.bind (lpF (l_X8_divides_226 a1 M31) n (0)) fun r => match r with
        | .inl o => some o
        | .inr () =>
          Option.bind (f_X8_trim n (3) (v8 - v9) M31) fun v37 =>
          some ((1), v37)
  else
    some ((0), M)
set_option maxRecDepth 100000 in
set_option maxHeartbeats 8000000 in
theorem b_X8_divides {p : Program} {l : Launch} {e : Env} {s : State} {m : MethodId} {args : Array Value} {below : List Frame} {meth : Method} {c : Code} {Q : State → Prop} {G : gG} {A : Nat → Prop} {adr : Nat → Nat} (cx : cX p s m args meth c cX8_divides (some .boolean) 14 yX8_divides.cls) (hi : adi adr) {n : Nat} {a0 : Int} {a1 : Int} {a2 : Int} {M M' : MI} {r : Int} 
    (h : f_X8_divides n a0 a1 a2 M = some (r, M'))
    (kr : ∀ (pc : Nat) (ls : Array Slot) (H : Heap) (locs : List Loc), decode cX8_divides pc = .ok (.ireturn, 1) → narrow .boolean (.int (Int32.ofInt r)) = .int (Int32.ofInt r) → wH G A s.heap s (LL adr) (wf G adr (tm M')) H locs → W p l e { frames := 1, cells := 0, slots := 0, locals := 23 } s m args below meth c H locs 0 0 Q (F0 m pc ls [.int (Int32.ofInt r)]))
    {ls : Array Slot} {H : Heap} {locs : List Loc} (hl : lv_has ls 14 [(0, .ref (adr 36)), (1, .int (Int32.ofInt a0)), (2, .int (Int32.ofInt a1)), (3, .long (Int64.ofInt a2))]) (hw : wH G A s.heap s (LL adr) (wf G adr (tm M)) H locs) : W p l e { frames := 1, cells := 0, slots := 0, locals := 23 } s m args below meth c H locs 0 0 Q (F0 m 0 ls []) := by
  obtain ⟨hx, hb, -, -, hown, hts, -⟩ := id cx
  have hown : s.vm.findClass RX8 = some m.cls := hown
  unfold f_X8_divides at h
  refine lv_aload_n hx hb dX8_divides_0 rfl (lv_at hl 0 rfl) ?_
  refine m_get (k := 36) (C := RX8) (T := TX8) (N := 18) (ref := "LiftFactorsModel") (v := .ref (adr 42)) hx hb hi hts inX8_u hown hw (by decide) rfl 8 (by decide) q_1 rfl rfl dX8_divides_1 ?_
  refine lv_iload_n hx hb dX8_divides_4 rfl (lv_at hl 1 rfl) ?_
  replace h := bnd h
  obtain ⟨v1, e1, h⟩ := h
  refine o_iald hx hb hi hw e1 dX8_divides_5 ?_
  replace h := bnd h
  obtain ⟨_, hg, h⟩ := h
  refine o_if_ge (tgt := 11) hx hb hg dX8_divides_6 (by decide) (fun hc => ?_) (fun hc => ?_)
  · replace h := ite_t hc h
    refine lv_iconst (v := Int32.ofInt (0)) hx hb dX8_divides_11 rfl ?_
    refine lv_istore (lv' := [(5, .int (Int32.ofInt (0))), (0, .ref (adr 36)), (1, .int (Int32.ofInt a0)), (2, .int (Int32.ofInt a1)), (3, .long (Int64.ofInt a2))]) hx hb dX8_divides_12 hl (by decide) rfl (fun ls hl => ?_)
    replace h := bnd h
    obtain ⟨o40, j6, h⟩ := h
    refine lp_W (Wst := fun (st : Int) => ∀ (ls : Array Slot) (H : Heap) (locs : List Loc), lv_has ls 14 [(0, .ref (adr 36)), (1, .int (Int32.ofInt a0)), (2, .int (Int32.ofInt a1)), (3, .long (Int64.ofInt a2)), (5, .int (Int32.ofInt st))] → wH G A s.heap s (LL adr) (wf G adr (tm M)) H locs → W p l e { frames := 1, cells := 0, slots := 0, locals := 23 } s m args below meth c H locs 0 0 Q (F0 m 14 ls [])) (fin := fun (r : (Int × MI) ⊕ (Unit)) => match r with
      | .inl o => ∀ (pc : Nat) (ls : Array Slot) (H : Heap) (locs : List Loc), decode cX8_divides pc = .ok (.ireturn, 1) → narrow .boolean (.int (Int32.ofInt o.1)) = .int (Int32.ofInt o.1) → wH G A s.heap s (LL adr) (wf G adr (tm o.2)) H locs → W p l e { frames := 1, cells := 0, slots := 0, locals := 23 } s m args below meth c H locs 0 0 Q (F0 m pc ls [.int (Int32.ofInt o.1)])
      | .inr q => ∀ (ls : Array Slot) (H : Heap) (locs : List Loc), lv_has ls 14 [(0, .ref (adr 36)), (1, .int (Int32.ofInt a0)), (2, .int (Int32.ofInt a1)), (3, .long (Int64.ofInt a2))] → wH G A s.heap s (LL adr) (wf G adr (tm M)) H locs → W p l e { frames := 1, cells := 0, slots := 0, locals := 23 } s m args below meth c H locs 0 0 Q (F0 m 55 ls [])) ?_ n _ _ j6 ?_ _ _ _ (lv_sub hl [1, 2, 3, 4, 0] rfl) hw
    · clear h j6 hw hl
      intro v2 x h k1 k2 ls H locs hl hw
      (try dsimp only at k2 hl hw ⊢)
      unfold l_X8_divides_14 at h
      (try dsimp only at h)
      refine lv_iload hx hb dX8_divides_14 (lv_at hl 4 rfl) ?_
      refine lv_aload_n hx hb dX8_divides_16 rfl (lv_at hl 0 rfl) ?_
      refine m_get (k := 36) (C := RX8) (T := TX8) (N := 18) (ref := "LiftFactorsModel") (v := .ref (adr 42)) hx hb hi hts inX8_u hown hw (by decide) rfl 8 (by decide) q_1 rfl rfl dX8_divides_17 ?_
      refine lv_iload_n hx hb dX8_divides_20 rfl (lv_at hl 1 rfl) ?_
      replace h := bnd h
      obtain ⟨v3, e3, h⟩ := h
      refine o_iald hx hb hi hw e3 dX8_divides_21 ?_
      replace h := bnd h
      obtain ⟨_, hg, h⟩ := h
      refine o_icmp_gt (tgt := 55) hx hb hg dX8_divides_22 (by decide) (fun hc => ?_) (fun hc => ?_)
      · replace h := ite_t hc h
        cases h
        exact k1 _ rfl _ _ _ (lv_sub hl [0, 1, 2, 3] rfl) hw
      · replace h := ite_f hc h
        refine lv_aload_n hx hb dX8_divides_25 rfl (lv_at hl 0 rfl) ?_
        refine m_get (k := 36) (C := RX8) (T := TX8) (N := 18) (ref := "LiftFactorsModel") (v := .ref (adr 41)) hx hb hi hts inX8_u hown hw (by decide) rfl 7 (by decide) q_0 rfl rfl dX8_divides_26 ?_
        refine lv_bipush (v := Int32.ofInt (24)) hx hb dX8_divides_29 rfl ?_
        refine lv_iload_n hx hb dX8_divides_31 rfl (lv_at hl 1 rfl) ?_
        refine o_imul hx hb dX8_divides_32 ?_
        refine lv_iload hx hb dX8_divides_33 (lv_at hl 4 rfl) ?_
        refine o_iadd hx hb dX8_divides_35 ?_
        replace h := bnd h
        obtain ⟨v4, e4, h⟩ := h
        refine o_lald hx hb hi hw e4 dX8_divides_36 ?_
        replace h := bnd h
        obtain ⟨v5, e5, h⟩ := h
        refine m_callSl (As := [.long (Int64.ofInt v4)]) (rest := []) cx.fix hw (cc_X8_abs (l := l) (G := G) (sz := H.size) (M := M) hi e5) (w_cS 1 hts q_2 q_3 q_4 q_5 rfl rfl (by decide) (by decide)) hl.1 rfl (lv_room (Nat.le_of_ble_eq_true rfl)) dX8_divides_37 (fun H locs hw => ?_)
        refine lv_ldc2 (v := Int64.ofInt (20000000)) hx hb hown (hts _ q_23) dX8_divides_40 ?_
        replace h := bnd h
        obtain ⟨_, hg, h⟩ := h
        refine o_lcmp_le (tgt := 49) hx hb hg dX8_divides_43 dX8_divides_44 (by decide) (fun hc => ?_) (fun hc => ?_)
        · replace h := ite_t hc h
          refine lv_iinc (v := Int32.ofInt (v2 + 1)) (lv' := [(5, .int (Int32.ofInt (v2 + 1))), (0, .ref (adr 36)), (1, .int (Int32.ofInt a0)), (2, .int (Int32.ofInt a1)), (3, .long (Int64.ofInt a2))]) hx hb dX8_divides_49 hl (k := 4) rfl (inc_o _ _) (by decide) rfl (fun ls hl => ?_)
          refine lv_goto (tgt := 14) hx hb dX8_divides_52 (by decide) ?_
          cases h
          exact k2 _ rfl _ _ _ (lv_sub hl [1, 2, 3, 4, 0] rfl) hw
        · replace h := ite_f hc h
          refine lv_iconst (v := Int32.ofInt (0)) hx hb dX8_divides_47 rfl ?_
          cases h
          exact k1 _ rfl _ _ _ _ dX8_divides_48 nb0 hw
    · clear hw hl j6
      rcases o40 with o9 | _
      · cases h
        exact kr
      · intro ls H locs hl hw
        (try dsimp only at h hl hw ⊢)
        refine lv_aload_n hx hb dX8_divides_55 rfl (lv_at hl 0 rfl) ?_
        refine lv_iload_n hx hb dX8_divides_56 rfl (lv_at hl 2 rfl) ?_
        refine lv_iconst (v := Int32.ofInt (4)) hx hb dX8_divides_57 rfl ?_
        replace h := bnd h
        obtain ⟨v7, e7, h⟩ := h
        refine m_callVv (k := 36) (As := [.int (Int32.ofInt a1), .int (Int32.ofInt (4))]) (rest := []) cx.fix hi hw (cc_X8_copy (l := l) (G := G) (sz := H.size) hi e7) (by decide) rfl rfl (w_cV 2 hts q_24 q_25 q_26 q_27 q_28 rfl rfl (by decide) (by decide)) hl.1 rfl (lv_room (Nat.le_of_ble_eq_true rfl)) dX8_divides_58 (fun H locs hw => ?_)
        refine lv_aload_n hx hb dX8_divides_61 rfl (lv_at hl 0 rfl) ?_
        refine m_get (k := 36) (C := RX8) (T := TX8) (N := 18) (ref := "LiftFactorsModel") (v := .ref (adr 42)) hx hb hi hts inX8_u hown hw (by decide) rfl 8 (by decide) q_1 rfl rfl dX8_divides_62 ?_
        refine lv_iload_n hx hb dX8_divides_65 rfl (lv_at hl 2 rfl) ?_
        replace h := bnd h
        obtain ⟨v8, e8, h⟩ := h
        refine o_iald hx hb hi hw e8 dX8_divides_66 ?_
        refine lv_aload_n hx hb dX8_divides_67 rfl (lv_at hl 0 rfl) ?_
        refine m_get (k := 36) (C := RX8) (T := TX8) (N := 18) (ref := "LiftFactorsModel") (v := .ref (adr 42)) hx hb hi hts inX8_u hown hw (by decide) rfl 8 (by decide) q_1 rfl rfl dX8_divides_68 ?_
        refine lv_iload_n hx hb dX8_divides_71 rfl (lv_at hl 1 rfl) ?_
        replace h := bnd h
        obtain ⟨v9, e9, h⟩ := h
        refine o_iald hx hb hi hw e9 dX8_divides_72 ?_
        refine o_isub hx hb dX8_divides_73 ?_
        refine lv_istore (lv' := [(5, .int (Int32.ofInt (v8 - v9))), (0, .ref (adr 36)), (1, .int (Int32.ofInt a0)), (2, .int (Int32.ofInt a1)), (3, .long (Int64.ofInt a2))]) hx hb dX8_divides_74 hl (by decide) rfl (fun ls hl => ?_)
        refine lv_aload_n hx hb dX8_divides_76 rfl (lv_at hl 1 rfl) ?_
        refine m_get (k := 36) (C := RX8) (T := TX8) (N := 18) (ref := "LiftFactorsModel") (v := .ref (adr 41)) hx hb hi hts inX8_u hown hw (by decide) rfl 7 (by decide) q_0 rfl rfl dX8_divides_77 ?_
        refine lv_bipush (v := Int32.ofInt (24)) hx hb dX8_divides_80 rfl ?_
        refine lv_iload_n hx hb dX8_divides_82 rfl (lv_at hl 2 rfl) ?_
        refine o_imul hx hb dX8_divides_83 ?_
        refine lv_aload_n hx hb dX8_divides_84 rfl (lv_at hl 1 rfl) ?_
        refine m_get (k := 36) (C := RX8) (T := TX8) (N := 18) (ref := "LiftFactorsModel") (v := .ref (adr 42)) hx hb hi hts inX8_u hown hw (by decide) rfl 8 (by decide) q_1 rfl rfl dX8_divides_85 ?_
        refine lv_iload_n hx hb dX8_divides_88 rfl (lv_at hl 2 rfl) ?_
        replace h := bnd h
        obtain ⟨v10, e10, h⟩ := h
        refine o_iald hx hb hi hw e10 dX8_divides_89 ?_
        refine o_iadd hx hb dX8_divides_90 ?_
        replace h := bnd h
        obtain ⟨v11, e11, h⟩ := h
        refine o_lald hx hb hi hw e11 dX8_divides_91 ?_
        refine lv_lstore (lv' := [(6, .long (Int64.ofInt v11)), (5, .int (Int32.ofInt (v8 - v9))), (0, .ref (adr 36)), (1, .int (Int32.ofInt a0)), (2, .int (Int32.ofInt a1)), (3, .long (Int64.ofInt a2))]) hx hb dX8_divides_92 hl (by decide) rfl (fun ls hl => ?_)
        refine lv_iload hx hb dX8_divides_94 (lv_at hl 1 rfl) ?_
        refine lv_istore (lv' := [(8, .int (Int32.ofInt (v8 - v9))), (6, .long (Int64.ofInt v11)), (5, .int (Int32.ofInt (v8 - v9))), (0, .ref (adr 36)), (1, .int (Int32.ofInt a0)), (2, .int (Int32.ofInt a1)), (3, .long (Int64.ofInt a2))]) hx hb dX8_divides_96 hl (by decide) rfl (fun ls hl => ?_)
        replace h := bnd h
        obtain ⟨o39, j30, h⟩ := h
        refine lp_W (Wst := fun (st : MI × Int) => ∀ (ls : Array Slot) (H : Heap) (locs : List Loc), lv_has ls 14 [(0, .ref (adr 36)), (1, .int (Int32.ofInt a0)), (2, .int (Int32.ofInt a1)), (3, .long (Int64.ofInt a2)), (5, .int (Int32.ofInt (v8 - v9))), (6, .long (Int64.ofInt v11)), (8, .int (Int32.ofInt st.2))] → wH G A s.heap s (LL adr) (wf G adr (tm st.1)) H locs → W p l e { frames := 1, cells := 0, slots := 0, locals := 23 } s m args below meth c H locs 0 0 Q (F0 m 98 ls [])) (fin := fun (r : (Int × MI) ⊕ (MI)) => match r with
      | .inl o => ∀ (pc : Nat) (ls : Array Slot) (H : Heap) (locs : List Loc), decode cX8_divides pc = .ok (.ireturn, 1) → narrow .boolean (.int (Int32.ofInt o.1)) = .int (Int32.ofInt o.1) → wH G A s.heap s (LL adr) (wf G adr (tm o.2)) H locs → W p l e { frames := 1, cells := 0, slots := 0, locals := 23 } s m args below meth c H locs 0 0 Q (F0 m pc ls [.int (Int32.ofInt o.1)])
      | .inr q => ∀ (ls : Array Slot) (H : Heap) (locs : List Loc), lv_has ls 14 [(0, .ref (adr 36)), (2, .int (Int32.ofInt a1)), (5, .int (Int32.ofInt (v8 - v9)))] → wH G A s.heap s (LL adr) (wf G adr (tm q)) H locs → W p l e { frames := 1, cells := 0, slots := 0, locals := 23 } s m args below meth c H locs 0 0 Q (F0 m 223 ls [])) ?_ n _ _ j30 ?_ _ _ _ (lv_sub hl [3, 4, 5, 6, 2, 1, 0] rfl) hw
        · clear h j30 hw hl
          intro ⟨M12, v13⟩ x h k1 k2 ls H locs hl hw
          (try dsimp only at k2 hl hw ⊢)
          unfold l_X8_divides_98 at h
          (try dsimp only at h)
          refine lv_iload hx hb dX8_divides_98 (lv_at hl 6 rfl) ?_
          replace h := bnd h
          obtain ⟨_, hg, h⟩ := h
          refine o_if_lt (tgt := 223) hx hb hg dX8_divides_100 (by decide) (fun hc => ?_) (fun hc => ?_)
          · replace h := ite_t hc h
            cases h
            exact k1 _ rfl _ _ _ (lv_sub hl [0, 2, 4] rfl) hw
          · replace h := ite_f hc h
            refine lv_aload_n hx hb dX8_divides_103 rfl (lv_at hl 0 rfl) ?_
            refine m_get (k := 36) (C := RX8) (T := TX8) (N := 18) (ref := "LiftFactorsModel") (v := .ref (adr 41)) hx hb hi hts inX8_u hown hw (by decide) rfl 7 (by decide) q_0 rfl rfl dX8_divides_104 ?_
            refine lv_bipush (v := Int32.ofInt (96)) hx hb dX8_divides_107 rfl ?_
            refine lv_iload hx hb dX8_divides_109 (lv_at hl 6 rfl) ?_
            refine o_iadd hx hb dX8_divides_111 ?_
            refine lv_aload_n hx hb dX8_divides_112 rfl (lv_at hl 0 rfl) ?_
            refine m_get (k := 36) (C := RX8) (T := TX8) (N := 18) (ref := "LiftFactorsModel") (v := .ref (adr 42)) hx hb hi hts inX8_u hown hw (by decide) rfl 8 (by decide) q_1 rfl rfl dX8_divides_113 ?_
            refine lv_iload_n hx hb dX8_divides_116 rfl (lv_at hl 1 rfl) ?_
            replace h := bnd h
            obtain ⟨v15, e15, h⟩ := h
            refine o_iald hx hb hi hw e15 dX8_divides_117 ?_
            refine o_iadd hx hb dX8_divides_118 ?_
            replace h := bnd h
            obtain ⟨v16, e16, h⟩ := h
            refine o_lald hx hb hi hw e16 dX8_divides_119 ?_
            refine lv_lstore (lv' := [(9, .long (Int64.ofInt v16)), (0, .ref (adr 36)), (1, .int (Int32.ofInt a0)), (2, .int (Int32.ofInt a1)), (3, .long (Int64.ofInt a2)), (5, .int (Int32.ofInt (v8 - v9))), (6, .long (Int64.ofInt v11)), (8, .int (Int32.ofInt v13))]) hx hb dX8_divides_120 hl (by decide) rfl (fun ls hl => ?_)
            refine lv_lload hx hb dX8_divides_122 (lv_at hl 0 rfl) ?_
            refine lv_lload hx hb dX8_divides_124 (lv_at hl 6 rfl) ?_
            replace h := bnd h
            obtain ⟨v17, e17, h⟩ := h
            refine o_lrem hx hb e17 dX8_divides_126 ?_
            refine lv_lconst (v := Int64.ofInt (0)) hx hb dX8_divides_127 (by decide) ?_
            replace h := bnd h
            obtain ⟨_, hg, h⟩ := h
            refine o_lcmp_ne (tgt := 145) hx hb hg dX8_divides_128 dX8_divides_129 (by decide) (fun hc => ?_) (fun hc => ?_)
            · replace h := ite_f hc h
              refine lv_iconst (v := Int32.ofInt (0)) hx hb dX8_divides_145 rfl ?_
              cases h
              exact k1 _ rfl _ _ _ _ dX8_divides_146 nb0 hw
            · replace h := ite_t hc h
              refine lv_lload hx hb dX8_divides_132 (lv_at hl 0 rfl) ?_
              refine lv_lload hx hb dX8_divides_134 (lv_at hl 6 rfl) ?_
              replace h := bnd h
              obtain ⟨v18, e18, h⟩ := h
              refine o_ldiv hx hb e18 dX8_divides_136 ?_
              replace h := bnd h
              obtain ⟨v19, e19, h⟩ := h
              refine m_callSl (As := [.long (Int64.ofInt v18)]) (rest := []) cx.fix hw (cc_X8_abs (l := l) (G := G) (sz := H.size) (M := M12) hi e19) (w_cS 1 hts q_2 q_3 q_4 q_5 rfl rfl (by decide) (by decide)) hl.1 rfl (lv_room (Nat.le_of_ble_eq_true rfl)) dX8_divides_137 (fun H locs hw => ?_)
              refine lv_lload_n hx hb dX8_divides_140 rfl (lv_at hl 4 rfl) ?_
              replace h := bnd h
              obtain ⟨_, hg, h⟩ := h
              refine o_lcmp_le (tgt := 147) hx hb hg dX8_divides_141 dX8_divides_142 (by decide) (fun hc => ?_) (fun hc => ?_)
              · replace h := ite_t hc h
                refine lv_lload hx hb dX8_divides_147 (lv_at hl 0 rfl) ?_
                refine lv_lload hx hb dX8_divides_149 (lv_at hl 6 rfl) ?_
                replace h := bnd h
                obtain ⟨v20, e20, h⟩ := h
                refine o_ldiv hx hb e20 dX8_divides_151 ?_
                refine lv_lstore (lv' := [(11, .long (Int64.ofInt v20)), (9, .long (Int64.ofInt v16)), (0, .ref (adr 36)), (1, .int (Int32.ofInt a0)), (2, .int (Int32.ofInt a1)), (3, .long (Int64.ofInt a2)), (5, .int (Int32.ofInt (v8 - v9))), (6, .long (Int64.ofInt v11)), (8, .int (Int32.ofInt v13))]) hx hb dX8_divides_152 hl (by decide) rfl (fun ls hl => ?_)
                refine lv_aload_n hx hb dX8_divides_154 rfl (lv_at hl 2 rfl) ?_
                refine m_get (k := 36) (C := RX8) (T := TX8) (N := 18) (ref := "LiftFactorsModel") (v := .ref (adr 41)) hx hb hi hts inX8_u hown hw (by decide) rfl 7 (by decide) q_0 rfl rfl dX8_divides_155 ?_
                refine lv_bipush (v := Int32.ofInt (72)) hx hb dX8_divides_158 rfl ?_
                refine lv_iload hx hb dX8_divides_160 (lv_at hl 8 rfl) ?_
                refine o_iadd hx hb dX8_divides_162 ?_
                refine lv_lload hx hb dX8_divides_163 (lv_at hl 0 rfl) ?_
                replace h := bnd h
                obtain ⟨v21, e21, h⟩ := h
                refine o_last hx hb hi hw e21 dX8_divides_165 (fun H locs hw => ?_)
                refine lv_iconst (v := Int32.ofInt (0)) hx hb dX8_divides_166 rfl ?_
                refine lv_istore (lv' := [(13, .int (Int32.ofInt (0))), (11, .long (Int64.ofInt v20)), (9, .long (Int64.ofInt v16)), (0, .ref (adr 36)), (1, .int (Int32.ofInt a0)), (2, .int (Int32.ofInt a1)), (3, .long (Int64.ofInt a2)), (5, .int (Int32.ofInt (v8 - v9))), (6, .long (Int64.ofInt v11)), (8, .int (Int32.ofInt v13))]) hx hb dX8_divides_167 hl (by decide) rfl (fun ls hl => ?_)
                replace h := bnd h
                obtain ⟨M29, j28, h⟩ := h
                refine lp_W (Wst := fun (st : MI × Int) => ∀ (ls : Array Slot) (H : Heap) (locs : List Loc), lv_has ls 14 [(0, .ref (adr 36)), (1, .int (Int32.ofInt a0)), (2, .int (Int32.ofInt a1)), (3, .long (Int64.ofInt a2)), (5, .int (Int32.ofInt (v8 - v9))), (6, .long (Int64.ofInt v11)), (8, .int (Int32.ofInt v13)), (11, .long (Int64.ofInt v20)), (13, .int (Int32.ofInt st.2))] → wH G A s.heap s (LL adr) (wf G adr (tm st.1)) H locs → W p l e { frames := 1, cells := 0, slots := 0, locals := 23 } s m args below meth c H locs 0 0 Q (F0 m 169 ls [])) (fin := fun (r : MI) => ∀ (ls : Array Slot) (H : Heap) (locs : List Loc), lv_has ls 14 [(0, .ref (adr 36)), (1, .int (Int32.ofInt a0)), (2, .int (Int32.ofInt a1)), (3, .long (Int64.ofInt a2)), (5, .int (Int32.ofInt (v8 - v9))), (6, .long (Int64.ofInt v11)), (8, .int (Int32.ofInt v13))] → wH G A s.heap s (LL adr) (wf G adr (tm r)) H locs → W p l e { frames := 1, cells := 0, slots := 0, locals := 23 } s m args below meth c H locs 0 0 Q (F0 m 217 ls [])) ?_ n _ _ j28 ?_ _ _ _ (lv_sub hl [3, 4, 5, 6, 7, 8, 9, 1, 0] rfl) hw
                · clear h j28 hw hl
                  intro ⟨M22, v23⟩ x h k1 k2 ls H locs hl hw
                  (try dsimp only at k1 k2 hl hw ⊢)
                  unfold l_X8_divides_169 at h
                  (try dsimp only at h)
                  refine lv_iload hx hb dX8_divides_169 (lv_at hl 8 rfl) ?_
                  refine lv_aload_n hx hb dX8_divides_171 rfl (lv_at hl 0 rfl) ?_
                  refine m_get (k := 36) (C := RX8) (T := TX8) (N := 18) (ref := "LiftFactorsModel") (v := .ref (adr 42)) hx hb hi hts inX8_u hown hw (by decide) rfl 8 (by decide) q_1 rfl rfl dX8_divides_172 ?_
                  refine lv_iload_n hx hb dX8_divides_175 rfl (lv_at hl 1 rfl) ?_
                  replace h := bnd h
                  obtain ⟨v24, e24, h⟩ := h
                  refine o_iald hx hb hi hw e24 dX8_divides_176 ?_
                  replace h := bnd h
                  obtain ⟨_, hg, h⟩ := h
                  refine o_icmp_gt (tgt := 217) hx hb hg dX8_divides_177 (by decide) (fun hc => ?_) (fun hc => ?_)
                  · replace h := ite_t hc h
                    cases h
                    exact k1 _ rfl _ _ _ (lv_sub hl [0, 1, 2, 3, 4, 5, 6] rfl) hw
                  · replace h := ite_f hc h
                    refine lv_aload_n hx hb dX8_divides_180 rfl (lv_at hl 0 rfl) ?_
                    refine m_get (k := 36) (C := RX8) (T := TX8) (N := 18) (ref := "LiftFactorsModel") (v := .ref (adr 41)) hx hb hi hts inX8_u hown hw (by decide) rfl 7 (by decide) q_0 rfl rfl dX8_divides_181 ?_
                    refine lv_bipush (v := Int32.ofInt (96)) hx hb dX8_divides_184 rfl ?_
                    refine lv_iload hx hb dX8_divides_186 (lv_at hl 6 rfl) ?_
                    refine o_iadd hx hb dX8_divides_188 ?_
                    refine lv_iload hx hb dX8_divides_189 (lv_at hl 8 rfl) ?_
                    refine o_iadd hx hb dX8_divides_191 ?_
                    refine lv_dup2_11 hx hb dX8_divides_192 rfl rfl ?_
                    replace h := bnd h
                    obtain ⟨v25, e25, h⟩ := h
                    refine o_lald hx hb hi hw e25 dX8_divides_193 ?_
                    refine lv_lload hx hb dX8_divides_194 (lv_at hl 7 rfl) ?_
                    refine lv_aload_n hx hb dX8_divides_196 rfl (lv_at hl 0 rfl) ?_
                    refine m_get (k := 36) (C := RX8) (T := TX8) (N := 18) (ref := "LiftFactorsModel") (v := .ref (adr 41)) hx hb hi hts inX8_u hown hw (by decide) rfl 7 (by decide) q_0 rfl rfl dX8_divides_197 ?_
                    refine lv_bipush (v := Int32.ofInt (24)) hx hb dX8_divides_200 rfl ?_
                    refine lv_iload_n hx hb dX8_divides_202 rfl (lv_at hl 1 rfl) ?_
                    refine o_imul hx hb dX8_divides_203 ?_
                    refine lv_iload hx hb dX8_divides_204 (lv_at hl 8 rfl) ?_
                    refine o_iadd hx hb dX8_divides_206 ?_
                    replace h := bnd h
                    obtain ⟨v26, e26, h⟩ := h
                    refine o_lald hx hb hi hw e26 dX8_divides_207 ?_
                    refine o_lmul hx hb dX8_divides_208 ?_
                    refine o_lsub hx hb dX8_divides_209 ?_
                    replace h := bnd h
                    obtain ⟨v27, e27, h⟩ := h
                    refine o_last hx hb hi hw e27 dX8_divides_210 (fun H locs hw => ?_)
                    refine lv_iinc (v := Int32.ofInt (v23 + 1)) (lv' := [(13, .int (Int32.ofInt (v23 + 1))), (0, .ref (adr 36)), (1, .int (Int32.ofInt a0)), (2, .int (Int32.ofInt a1)), (3, .long (Int64.ofInt a2)), (5, .int (Int32.ofInt (v8 - v9))), (6, .long (Int64.ofInt v11)), (8, .int (Int32.ofInt v13)), (11, .long (Int64.ofInt v20))]) hx hb dX8_divides_211 hl (k := 8) rfl (inc_o _ _) (by decide) rfl (fun ls hl => ?_)
                    refine lv_goto (tgt := 169) hx hb dX8_divides_214 (by decide) ?_
                    cases h
                    exact k2 _ rfl _ _ _ (lv_sub hl [1, 2, 3, 4, 5, 6, 7, 8, 0] rfl) hw
                · clear hw hl
                  intro ls H locs hl hw
                  (try dsimp only at hl hw ⊢)
                  refine lv_iinc (v := Int32.ofInt (v13 + (-1))) (lv' := [(8, .int (Int32.ofInt (v13 + (-1)))), (0, .ref (adr 36)), (1, .int (Int32.ofInt a0)), (2, .int (Int32.ofInt a1)), (3, .long (Int64.ofInt a2)), (5, .int (Int32.ofInt (v8 - v9))), (6, .long (Int64.ofInt v11))]) hx hb dX8_divides_217 hl (k := 6) rfl (inc_o _ _) (by decide) rfl (fun ls hl => ?_)
                  refine lv_goto (tgt := 98) hx hb dX8_divides_220 (by decide) ?_
                  cases h
                  exact k2 _ rfl _ _ _ (lv_sub hl [1, 2, 3, 4, 5, 6, 0] rfl) hw
              · replace h := ite_f hc h
                refine lv_iconst (v := Int32.ofInt (0)) hx hb dX8_divides_145 rfl ?_
                cases h
                exact k1 _ rfl _ _ _ _ dX8_divides_146 nb0 hw
        · clear hw hl j30
          rcases o39 with o9 | M31
          · cases h
            exact kr
          · intro ls H locs hl hw
            (try dsimp only at h hl hw ⊢)
            refine lv_iconst (v := Int32.ofInt (0)) hx hb dX8_divides_223 rfl ?_
            refine lv_istore (lv' := [(8, .int (Int32.ofInt (0))), (0, .ref (adr 36)), (2, .int (Int32.ofInt a1)), (5, .int (Int32.ofInt (v8 - v9)))]) hx hb dX8_divides_224 hl (by decide) rfl (fun ls hl => ?_)
            replace h := bnd h
            obtain ⟨o38, j36, h⟩ := h
            refine lp_W (Wst := fun (st : Int) => ∀ (ls : Array Slot) (H : Heap) (locs : List Loc), lv_has ls 14 [(0, .ref (adr 36)), (2, .int (Int32.ofInt a1)), (5, .int (Int32.ofInt (v8 - v9))), (8, .int (Int32.ofInt st))] → wH G A s.heap s (LL adr) (wf G adr (tm M31)) H locs → W p l e { frames := 1, cells := 0, slots := 0, locals := 23 } s m args below meth c H locs 0 0 Q (F0 m 226 ls [])) (fin := fun (r : (Int × MI) ⊕ (Unit)) => match r with
      | .inl o => ∀ (pc : Nat) (ls : Array Slot) (H : Heap) (locs : List Loc), decode cX8_divides pc = .ok (.ireturn, 1) → narrow .boolean (.int (Int32.ofInt o.1)) = .int (Int32.ofInt o.1) → wH G A s.heap s (LL adr) (wf G adr (tm o.2)) H locs → W p l e { frames := 1, cells := 0, slots := 0, locals := 23 } s m args below meth c H locs 0 0 Q (F0 m pc ls [.int (Int32.ofInt o.1)])
      | .inr q => ∀ (ls : Array Slot) (H : Heap) (locs : List Loc), lv_has ls 14 [(0, .ref (adr 36)), (5, .int (Int32.ofInt (v8 - v9)))] → wH G A s.heap s (LL adr) (wf G adr (tm M31)) H locs → W p l e { frames := 1, cells := 0, slots := 0, locals := 23 } s m args below meth c H locs 0 0 Q (F0 m 260 ls [])) ?_ n _ _ j36 ?_ _ _ _ (lv_sub hl [1, 2, 3, 0] rfl) hw
            · clear h j36 hw hl
              intro v32 x h k1 k2 ls H locs hl hw
              (try dsimp only at k2 hl hw ⊢)
              unfold l_X8_divides_226 at h
              (try dsimp only at h)
              refine lv_iload hx hb dX8_divides_226 (lv_at hl 3 rfl) ?_
              refine lv_aload_n hx hb dX8_divides_228 rfl (lv_at hl 0 rfl) ?_
              refine m_get (k := 36) (C := RX8) (T := TX8) (N := 18) (ref := "LiftFactorsModel") (v := .ref (adr 42)) hx hb hi hts inX8_u hown hw (by decide) rfl 8 (by decide) q_1 rfl rfl dX8_divides_229 ?_
              refine lv_iload_n hx hb dX8_divides_232 rfl (lv_at hl 1 rfl) ?_
              replace h := bnd h
              obtain ⟨v34, e34, h⟩ := h
              refine o_iald hx hb hi hw e34 dX8_divides_233 ?_
              replace h := bnd h
              obtain ⟨_, hg, h⟩ := h
              refine o_icmp_gt (tgt := 260) hx hb hg dX8_divides_234 (by decide) (fun hc => ?_) (fun hc => ?_)
              · replace h := ite_t hc h
                cases h
                exact k1 _ rfl _ _ _ (lv_sub hl [0, 2] rfl) hw
              · replace h := ite_f hc h
                refine lv_aload_n hx hb dX8_divides_237 rfl (lv_at hl 0 rfl) ?_
                refine m_get (k := 36) (C := RX8) (T := TX8) (N := 18) (ref := "LiftFactorsModel") (v := .ref (adr 41)) hx hb hi hts inX8_u hown hw (by decide) rfl 7 (by decide) q_0 rfl rfl dX8_divides_238 ?_
                refine lv_bipush (v := Int32.ofInt (96)) hx hb dX8_divides_241 rfl ?_
                refine lv_iload hx hb dX8_divides_243 (lv_at hl 3 rfl) ?_
                refine o_iadd hx hb dX8_divides_245 ?_
                replace h := bnd h
                obtain ⟨v35, e35, h⟩ := h
                refine o_lald hx hb hi hw e35 dX8_divides_246 ?_
                refine lv_lconst (v := Int64.ofInt (0)) hx hb dX8_divides_247 (by decide) ?_
                replace h := bnd h
                obtain ⟨_, hg, h⟩ := h
                refine o_lcmp_eq (tgt := 254) hx hb hg dX8_divides_248 dX8_divides_249 (by decide) (fun hc => ?_) (fun hc => ?_)
                · replace h := ite_t hc h
                  refine lv_iinc (v := Int32.ofInt (v32 + 1)) (lv' := [(8, .int (Int32.ofInt (v32 + 1))), (0, .ref (adr 36)), (2, .int (Int32.ofInt a1)), (5, .int (Int32.ofInt (v8 - v9)))]) hx hb dX8_divides_254 hl (k := 3) rfl (inc_o _ _) (by decide) rfl (fun ls hl => ?_)
                  refine lv_goto (tgt := 226) hx hb dX8_divides_257 (by decide) ?_
                  cases h
                  exact k2 _ rfl _ _ _ (lv_sub hl [1, 2, 3, 0] rfl) hw
                · replace h := ite_f hc h
                  refine lv_iconst (v := Int32.ofInt (0)) hx hb dX8_divides_252 rfl ?_
                  cases h
                  exact k1 _ rfl _ _ _ _ dX8_divides_253 nb0 hw
            · clear hw hl j36
              rcases o38 with o9 | _
              · cases h
                exact kr
              · intro ls H locs hl hw
                (try dsimp only at h hl hw ⊢)
                refine lv_aload_n hx hb dX8_divides_260 rfl (lv_at hl 0 rfl) ?_
                refine lv_iconst (v := Int32.ofInt (3)) hx hb dX8_divides_261 rfl ?_
                refine lv_iload hx hb dX8_divides_262 (lv_at hl 1 rfl) ?_
                replace h := bnd h
                obtain ⟨v37, e37, h⟩ := h
                refine m_callVv (k := 36) (As := [.int (Int32.ofInt (3)), .int (Int32.ofInt (v8 - v9))]) (rest := []) cx.fix hi hw (cc_X8_trim (l := l) (G := G) (sz := H.size) hi e37) (by decide) rfl rfl (w_cV 2 hts q_11 q_12 q_13 q_14 q_15 rfl rfl (by decide) (by decide)) hl.1 rfl (lv_room (Nat.le_of_ble_eq_true rfl)) dX8_divides_264 (fun H locs hw => ?_)
                refine lv_iconst (v := Int32.ofInt (1)) hx hb dX8_divides_267 rfl ?_
                cases h
                exact kr _ _ _ _ dX8_divides_268 nb1 hw
  · replace h := ite_f hc h
    refine lv_iconst (v := Int32.ofInt (0)) hx hb dX8_divides_9 rfl ?_
    cases h
    exact kr _ _ _ _ dX8_divides_10 nb0 hw
theorem cc_X8_divides {l : Launch} {G : gG} {adr : Nat → Nat} {sz : Nat} (hi : adi adr) {n : Nat} {a0 : Int} {a1 : Int} {a2 : Int} {M M' : MI} {r : Int} (h : f_X8_divides n a0 a1 a2 M = some (r, M')) : mI l yX8_divides cX8_divides 14 (some .boolean) { frames := 1, cells := 0, slots := 0, locals := 23 } G adr [.ref (adr 36), .int (Int32.ofInt a0), .int (Int32.ofInt a1), .long (Int64.ofInt a2)] (tm M) sz (Int32.ofInt r) (tm M') := by
  refine wEnter (by decide) (Nat.le_of_ble_eq_true rfl) ?_
  intro p e s m below meth c ls cx hinit hl hsz hw
  exact b_X8_divides cx hi h (fun pc ls H locs hd hz hw => w_zret (post := fun (r9 : Int32) (u : Mem) => r9 = Int32.ofInt r ∧ u = tm M') (lf := fun u => (LL adr, wf G adr u)) cx.1 cx.2.1 cx.2.2.1 cx.2.2.2.2.2.2 hz (tm M') hw ⟨rfl, rfl⟩ hd) hl hw
