theorem q_0 : Cond.fieldLink RX8 22 "LiftFactorsModel" "w" "[J" ∈ uU := uU_in (by decide +kernel) (by decide +kernel)
theorem q_1 : Cond.fieldLink RX8 26 "LiftFactorsModel" "deg" "[I" ∈ uU := uU_in (by decide +kernel) (by decide +kernel)
def l_X8_trim_2 (a0 : Int) (M : MI) : Int → Option ((Int) ⊕ (Int)) := fun v1 =>
  Option.bind (gI v1 0) fun _ =>
  if v1 < 0 then
    some (.inl v1)
  else
    Option.bind (odJ M 41 (((24) * a0) + v1)) fun v2 =>
    Option.bind (gJ v2 (0)) fun _ =>
    if v2 = (0) then
      some (.inr (v1 + (-1)))
    else
      some (.inl v1)
def f_X8_trim (n : Nat) (a0 : Int) (a1 : Int) (M : MI) : Option MI :=
  Option.bind (lpF (l_X8_trim_2 a0 M) n a1) fun v4 =>
  Option.bind (osI M 42 a0 v4) fun v5 =>
  some v5
set_option maxRecDepth 100000 in
set_option maxHeartbeats 8000000 in
theorem b_X8_trim {p : Program} {l : Launch} {e : Env} {s : State} {m : MethodId} {args : Array Value} {below : List Frame} {meth : Method} {c : Code} {Q : State → Prop} {G : gG} {A : Nat → Prop} {adr : Nat → Nat} (cx : cX p s m args meth c cX8_trim none 4 yX8_trim.cls) (hi : adi adr) {n : Nat} {a0 : Int} {a1 : Int} {M M' : MI} 
    (h : f_X8_trim n a0 a1 M = some M')
    (kr : ∀ (pc : Nat) (ls : Array Slot) (H : Heap) (locs : List Loc), decode cX8_trim pc = .ok (.return_, 1) → wH G A s.heap s (LL adr) (wf G adr (tm M')) H locs → W p l e { frames := 0, cells := 0, slots := 0, locals := 0 } s m args below meth c H locs 0 0 Q (F0 m pc ls []))
    {ls : Array Slot} {H : Heap} {locs : List Loc} (hl : lv_has ls 4 [(0, .ref (adr 36)), (1, .int (Int32.ofInt a0)), (2, .int (Int32.ofInt a1))]) (hw : wH G A s.heap s (LL adr) (wf G adr (tm M)) H locs) : W p l e { frames := 0, cells := 0, slots := 0, locals := 0 } s m args below meth c H locs 0 0 Q (F0 m 0 ls []) := by
  obtain ⟨hx, hb, -, -, hown, hts, -⟩ := id cx
  have hown : s.vm.findClass RX8 = some m.cls := hown
  unfold f_X8_trim at h
  refine lv_iload_n hx hb dX8_trim_0 rfl (lv_at hl 2 rfl) ?_
  refine lv_istore_n (lv' := [(3, .int (Int32.ofInt a1)), (0, .ref (adr 36)), (1, .int (Int32.ofInt a0)), (2, .int (Int32.ofInt a1))]) hx hb dX8_trim_1 rfl hl (by decide) rfl (fun ls hl => ?_)
  replace h := bnd h
  obtain ⟨v4, j3, h⟩ := h
  refine lp_W (Wst := fun (st : Int) => ∀ (ls : Array Slot) (H : Heap) (locs : List Loc), lv_has ls 4 [(0, .ref (adr 36)), (1, .int (Int32.ofInt a0)), (3, .int (Int32.ofInt st))] → wH G A s.heap s (LL adr) (wf G adr (tm M)) H locs → W p l e { frames := 0, cells := 0, slots := 0, locals := 0 } s m args below meth c H locs 0 0 Q (F0 m 2 ls [])) (fin := fun (r : Int) => ∀ (ls : Array Slot) (H : Heap) (locs : List Loc), lv_has ls 4 [(0, .ref (adr 36)), (1, .int (Int32.ofInt a0)), (3, .int (Int32.ofInt r))] → wH G A s.heap s (LL adr) (wf G adr (tm M)) H locs → W p l e { frames := 0, cells := 0, slots := 0, locals := 0 } s m args below meth c H locs 0 0 Q (F0 m 28 ls [])) ?_ n _ _ j3 ?_ _ _ _ (lv_sub hl [1, 2, 0] rfl) hw
  · clear h j3 hw hl
    intro v1 x h k1 k2 ls H locs hl hw
    (try dsimp only at k1 k2 hl hw ⊢)
    unfold l_X8_trim_2 at h
    (try dsimp only at h)
    refine lv_iload_n hx hb dX8_trim_2 rfl (lv_at hl 2 rfl) ?_
    replace h := bnd h
    obtain ⟨_, hg, h⟩ := h
    refine o_if_lt (tgt := 28) hx hb hg dX8_trim_3 (by decide) (fun hc => ?_) (fun hc => ?_)
    · replace h := ite_t hc h
      cases h
      exact k1 _ rfl _ _ _ (lv_sub hl [0, 1, 2] rfl) hw
    · replace h := ite_f hc h
      refine lv_aload_n hx hb dX8_trim_6 rfl (lv_at hl 0 rfl) ?_
      refine m_get (k := 36) (C := RX8) (T := TX8) (N := 18) (ref := "LiftFactorsModel") (v := .ref (adr 41)) hx hb hi hts inX8_u hown hw (by decide) rfl 7 (by decide) q_0 rfl rfl dX8_trim_7 ?_
      refine lv_bipush (v := Int32.ofInt (24)) hx hb dX8_trim_10 rfl ?_
      refine lv_iload_n hx hb dX8_trim_12 rfl (lv_at hl 1 rfl) ?_
      refine o_imul hx hb dX8_trim_13 ?_
      refine lv_iload_n hx hb dX8_trim_14 rfl (lv_at hl 2 rfl) ?_
      refine o_iadd hx hb dX8_trim_15 ?_
      replace h := bnd h
      obtain ⟨v2, e2, h⟩ := h
      refine o_lald hx hb hi hw e2 dX8_trim_16 ?_
      refine lv_lconst (v := Int64.ofInt (0)) hx hb dX8_trim_17 (by decide) ?_
      replace h := bnd h
      obtain ⟨_, hg, h⟩ := h
      refine o_lcmp_ne (tgt := 28) hx hb hg dX8_trim_18 dX8_trim_19 (by decide) (fun hc => ?_) (fun hc => ?_)
      · replace h := ite_f hc h
        cases h
        exact k1 _ rfl _ _ _ (lv_sub hl [0, 1, 2] rfl) hw
      · replace h := ite_t hc h
        refine lv_iinc (v := Int32.ofInt (v1 + (-1))) (lv' := [(3, .int (Int32.ofInt (v1 + (-1)))), (0, .ref (adr 36)), (1, .int (Int32.ofInt a0))]) hx hb dX8_trim_22 hl (k := 2) rfl (inc_o _ _) (by decide) rfl (fun ls hl => ?_)
        refine lv_goto (tgt := 2) hx hb dX8_trim_25 (by decide) ?_
        cases h
        exact k2 _ rfl _ _ _ (lv_sub hl [1, 2, 0] rfl) hw
  · clear hw hl
    intro ls H locs hl hw
    (try dsimp only at hl hw ⊢)
    refine lv_aload_n hx hb dX8_trim_28 rfl (lv_at hl 0 rfl) ?_
    refine m_get (k := 36) (C := RX8) (T := TX8) (N := 18) (ref := "LiftFactorsModel") (v := .ref (adr 42)) hx hb hi hts inX8_u hown hw (by decide) rfl 8 (by decide) q_1 rfl rfl dX8_trim_29 ?_
    refine lv_iload_n hx hb dX8_trim_32 rfl (lv_at hl 1 rfl) ?_
    refine lv_iload_n hx hb dX8_trim_33 rfl (lv_at hl 2 rfl) ?_
    replace h := bnd h
    obtain ⟨v5, e5, h⟩ := h
    refine o_iast hx hb hi hw e5 dX8_trim_34 (fun H locs hw => ?_)
    cases h
    exact kr _ _ _ _ dX8_trim_35 hw
theorem cc_X8_trim {l : Launch} {G : gG} {adr : Nat → Nat} {sz : Nat} (hi : adi adr) {n : Nat} {a0 : Int} {a1 : Int} {M M' : MI} (h : f_X8_trim n a0 a1 M = some M') : mV l yX8_trim cX8_trim 4 none { frames := 0, cells := 0, slots := 0, locals := 0 } G adr [.ref (adr 36), .int (Int32.ofInt a0), .int (Int32.ofInt a1)] (tm M) sz (tm M') := by
  refine wEnter (by decide) (Nat.le_of_ble_eq_true rfl) ?_
  intro p e s m below meth c ls cx hinit hl hsz hw
  exact b_X8_trim cx hi h (fun pc ls H locs hd hw => w_vret (post := fun (u : Mem) => u = tm M') (lf := fun u => (LL adr, wf G adr u)) cx.1 cx.2.1 cx.2.2.1 cx.2.2.2.2.2.2 (tm M') hw rfl hd) hl hw
def f_X8_get (a0 : Int) (a1 : Int) (M : MI) : Option Int :=
  Option.bind (odI M 42 a0) fun v1 =>
  Option.bind (
    Option.bind (gI a1 v1) fun _ =>
    if a1 ≤ v1 then
      Option.bind (odJ M 41 (((24) * a0) + a1)) fun v2 =>
      some v2
    else
      some (0)) fun v3 =>
  some v3
set_option maxRecDepth 100000 in
set_option maxHeartbeats 8000000 in
theorem b_X8_get {p : Program} {l : Launch} {e : Env} {s : State} {m : MethodId} {args : Array Value} {below : List Frame} {meth : Method} {c : Code} {Q : State → Prop} {G : gG} {A : Nat → Prop} {adr : Nat → Nat} (cx : cX p s m args meth c cX8_get (some .long) 3 yX8_get.cls) (hi : adi adr) {a0 : Int} {a1 : Int} {M : MI} {r : Int} 
    (h : f_X8_get a0 a1 M = some r)
    (kr : ∀ (pc : Nat) (ls : Array Slot) (H : Heap) (locs : List Loc), decode cX8_get pc = .ok (.lreturn, 1) → wH G A s.heap s (LL adr) (wf G adr (tm M)) H locs → W p l e { frames := 0, cells := 0, slots := 0, locals := 0 } s m args below meth c H locs 0 0 Q (F0 m pc ls [.long (Int64.ofInt r)]))
    {ls : Array Slot} {H : Heap} {locs : List Loc} (hl : lv_has ls 3 [(0, .ref (adr 36)), (1, .int (Int32.ofInt a0)), (2, .int (Int32.ofInt a1))]) (hw : wH G A s.heap s (LL adr) (wf G adr (tm M)) H locs) : W p l e { frames := 0, cells := 0, slots := 0, locals := 0 } s m args below meth c H locs 0 0 Q (F0 m 0 ls []) := by
  obtain ⟨hx, hb, -, -, hown, hts, -⟩ := id cx
  have hown : s.vm.findClass RX8 = some m.cls := hown
  unfold f_X8_get at h
  refine lv_iload_n hx hb dX8_get_0 rfl (lv_at hl 2 rfl) ?_
  refine lv_aload_n hx hb dX8_get_1 rfl (lv_at hl 0 rfl) ?_
  refine m_get (k := 36) (C := RX8) (T := TX8) (N := 18) (ref := "LiftFactorsModel") (v := .ref (adr 42)) hx hb hi hts inX8_u hown hw (by decide) rfl 8 (by decide) q_1 rfl rfl dX8_get_2 ?_
  refine lv_iload_n hx hb dX8_get_5 rfl (lv_at hl 1 rfl) ?_
  replace h := bnd h
  obtain ⟨v1, e1, h⟩ := h
  refine o_iald hx hb hi hw e1 dX8_get_6 ?_
  replace h := bnd h
  obtain ⟨v3, j4, h⟩ := h
  have kj : ∀ (ls : Array Slot) (H : Heap) (locs : List Loc), lv_has ls 3 [] → wH G A s.heap s (LL adr) (wf G adr (tm M)) H locs → W p l e { frames := 0, cells := 0, slots := 0, locals := 0 } s m args below meth c H locs 0 0 Q (F0 m 25 ls [.long (Int64.ofInt v3)]) := by
    intro ls H locs hl hw
    cases h
    exact kr _ _ _ _ dX8_get_25 hw
  clear h
  replace h := j4
  clear j4
  replace h := bnd h
  obtain ⟨_, hg, h⟩ := h
  refine o_icmp_le (tgt := 14) hx hb hg dX8_get_7 (by decide) (fun hc => ?_) (fun hc => ?_)
  · replace h := ite_t hc h
    refine lv_aload_n hx hb dX8_get_14 rfl (lv_at hl 0 rfl) ?_
    refine m_get (k := 36) (C := RX8) (T := TX8) (N := 18) (ref := "LiftFactorsModel") (v := .ref (adr 41)) hx hb hi hts inX8_u hown hw (by decide) rfl 7 (by decide) q_0 rfl rfl dX8_get_15 ?_
    refine lv_bipush (v := Int32.ofInt (24)) hx hb dX8_get_18 rfl ?_
    refine lv_iload_n hx hb dX8_get_20 rfl (lv_at hl 1 rfl) ?_
    refine o_imul hx hb dX8_get_21 ?_
    refine lv_iload_n hx hb dX8_get_22 rfl (lv_at hl 2 rfl) ?_
    refine o_iadd hx hb dX8_get_23 ?_
    replace h := bnd h
    obtain ⟨v2, e2, h⟩ := h
    refine o_lald hx hb hi hw e2 dX8_get_24 ?_
    cases h
    exact kj _ _ _ (lv_sub hl [] rfl) hw
  · replace h := ite_f hc h
    refine lv_lconst (v := Int64.ofInt (0)) hx hb dX8_get_10 (by decide) ?_
    refine lv_goto (tgt := 25) hx hb dX8_get_11 (by decide) ?_
    cases h
    exact kj _ _ _ (lv_sub hl [] rfl) hw
theorem cc_X8_get {l : Launch} {G : gG} {adr : Nat → Nat} {sz : Nat} (hi : adi adr) {a0 : Int} {a1 : Int} {M : MI} {r : Int} (h : f_X8_get a0 a1 M = some r) : mL l yX8_get cX8_get 3 (some .long) { frames := 0, cells := 0, slots := 0, locals := 0 } G adr [.ref (adr 36), .int (Int32.ofInt a0), .int (Int32.ofInt a1)] (tm M) sz (Int64.ofInt r) (tm M) := by
  refine wEnter (by decide) (Nat.le_of_ble_eq_true rfl) ?_
  intro p e s m below meth c ls cx hinit hl hsz hw
  exact b_X8_get cx hi h (fun pc ls H locs hd hw => w_lret (post := fun (r9 : Int64) (u : Mem) => r9 = Int64.ofInt r ∧ u = tm M) (lf := fun u => (LL adr, wf G adr u)) cx.1 cx.2.1 cx.2.2.1 cx.2.2.2.2.2.2 (tm M) hw ⟨rfl, rfl⟩ hd) hl hw
def l_X8_copy_2 (a0 : Int) (a1 : Int) : MI × Int → Option ((MI) ⊕ (MI × Int)) := fun (M1, v2) =>
  Option.bind (odI M1 42 a0) fun v3 =>
  Option.bind (gI v2 v3) fun _ =>
  if v3 < v2 then
    some (.inl M1)
  else
    Option.bind (odJ M1 41 (((24) * a0) + v2)) fun v4 =>
    Option.bind (osJ M1 41 (((24) * a1) + v2) v4) fun v5 =>
    some (.inr (v5, v2 + 1))
def f_X8_copy (n : Nat) (a0 : Int) (a1 : Int) (M : MI) : Option MI :=
  Option.bind (lpF (l_X8_copy_2 a0 a1) n (M, (0))) fun M7 =>
  Option.bind (odI M7 42 a0) fun v8 =>
  Option.bind (osI M7 42 a1 v8) fun v9 =>
  some v9
set_option maxRecDepth 100000 in
set_option maxHeartbeats 8000000 in
theorem b_X8_copy {p : Program} {l : Launch} {e : Env} {s : State} {m : MethodId} {args : Array Value} {below : List Frame} {meth : Method} {c : Code} {Q : State → Prop} {G : gG} {A : Nat → Prop} {adr : Nat → Nat} (cx : cX p s m args meth c cX8_copy none 4 yX8_copy.cls) (hi : adi adr) {n : Nat} {a0 : Int} {a1 : Int} {M M' : MI} 
    (h : f_X8_copy n a0 a1 M = some M')
    (kr : ∀ (pc : Nat) (ls : Array Slot) (H : Heap) (locs : List Loc), decode cX8_copy pc = .ok (.return_, 1) → wH G A s.heap s (LL adr) (wf G adr (tm M')) H locs → W p l e { frames := 0, cells := 0, slots := 0, locals := 0 } s m args below meth c H locs 0 0 Q (F0 m pc ls []))
    {ls : Array Slot} {H : Heap} {locs : List Loc} (hl : lv_has ls 4 [(0, .ref (adr 36)), (1, .int (Int32.ofInt a0)), (2, .int (Int32.ofInt a1))]) (hw : wH G A s.heap s (LL adr) (wf G adr (tm M)) H locs) : W p l e { frames := 0, cells := 0, slots := 0, locals := 0 } s m args below meth c H locs 0 0 Q (F0 m 0 ls []) := by
  obtain ⟨hx, hb, -, -, hown, hts, -⟩ := id cx
  have hown : s.vm.findClass RX8 = some m.cls := hown
  unfold f_X8_copy at h
  refine lv_iconst (v := Int32.ofInt (0)) hx hb dX8_copy_0 rfl ?_
  refine lv_istore_n (lv' := [(3, .int (Int32.ofInt (0))), (0, .ref (adr 36)), (1, .int (Int32.ofInt a0)), (2, .int (Int32.ofInt a1))]) hx hb dX8_copy_1 rfl hl (by decide) rfl (fun ls hl => ?_)
  replace h := bnd h
  obtain ⟨M7, j6, h⟩ := h
  refine lp_W (Wst := fun (st : MI × Int) => ∀ (ls : Array Slot) (H : Heap) (locs : List Loc), lv_has ls 4 [(0, .ref (adr 36)), (1, .int (Int32.ofInt a0)), (2, .int (Int32.ofInt a1)), (3, .int (Int32.ofInt st.2))] → wH G A s.heap s (LL adr) (wf G adr (tm st.1)) H locs → W p l e { frames := 0, cells := 0, slots := 0, locals := 0 } s m args below meth c H locs 0 0 Q (F0 m 2 ls [])) (fin := fun (r : MI) => ∀ (ls : Array Slot) (H : Heap) (locs : List Loc), lv_has ls 4 [(0, .ref (adr 36)), (1, .int (Int32.ofInt a0)), (2, .int (Int32.ofInt a1))] → wH G A s.heap s (LL adr) (wf G adr (tm r)) H locs → W p l e { frames := 0, cells := 0, slots := 0, locals := 0 } s m args below meth c H locs 0 0 Q (F0 m 40 ls [])) ?_ n _ _ j6 ?_ _ _ _ (lv_sub hl [1, 2, 3, 0] rfl) hw
  · clear h j6 hw hl
    intro ⟨M1, v2⟩ x h k1 k2 ls H locs hl hw
    (try dsimp only at k1 k2 hl hw ⊢)
    unfold l_X8_copy_2 at h
    (try dsimp only at h)
    refine lv_iload_n hx hb dX8_copy_2 rfl (lv_at hl 3 rfl) ?_
    refine lv_aload_n hx hb dX8_copy_3 rfl (lv_at hl 0 rfl) ?_
    refine m_get (k := 36) (C := RX8) (T := TX8) (N := 18) (ref := "LiftFactorsModel") (v := .ref (adr 42)) hx hb hi hts inX8_u hown hw (by decide) rfl 8 (by decide) q_1 rfl rfl dX8_copy_4 ?_
    refine lv_iload_n hx hb dX8_copy_7 rfl (lv_at hl 1 rfl) ?_
    replace h := bnd h
    obtain ⟨v3, e3, h⟩ := h
    refine o_iald hx hb hi hw e3 dX8_copy_8 ?_
    replace h := bnd h
    obtain ⟨_, hg, h⟩ := h
    refine o_icmp_gt (tgt := 40) hx hb hg dX8_copy_9 (by decide) (fun hc => ?_) (fun hc => ?_)
    · replace h := ite_t hc h
      cases h
      exact k1 _ rfl _ _ _ (lv_sub hl [0, 1, 2] rfl) hw
    · replace h := ite_f hc h
      refine lv_aload_n hx hb dX8_copy_12 rfl (lv_at hl 0 rfl) ?_
      refine m_get (k := 36) (C := RX8) (T := TX8) (N := 18) (ref := "LiftFactorsModel") (v := .ref (adr 41)) hx hb hi hts inX8_u hown hw (by decide) rfl 7 (by decide) q_0 rfl rfl dX8_copy_13 ?_
      refine lv_bipush (v := Int32.ofInt (24)) hx hb dX8_copy_16 rfl ?_
      refine lv_iload_n hx hb dX8_copy_18 rfl (lv_at hl 2 rfl) ?_
      refine o_imul hx hb dX8_copy_19 ?_
      refine lv_iload_n hx hb dX8_copy_20 rfl (lv_at hl 3 rfl) ?_
      refine o_iadd hx hb dX8_copy_21 ?_
      refine lv_aload_n hx hb dX8_copy_22 rfl (lv_at hl 0 rfl) ?_
      refine m_get (k := 36) (C := RX8) (T := TX8) (N := 18) (ref := "LiftFactorsModel") (v := .ref (adr 41)) hx hb hi hts inX8_u hown hw (by decide) rfl 7 (by decide) q_0 rfl rfl dX8_copy_23 ?_
      refine lv_bipush (v := Int32.ofInt (24)) hx hb dX8_copy_26 rfl ?_
      refine lv_iload_n hx hb dX8_copy_28 rfl (lv_at hl 1 rfl) ?_
      refine o_imul hx hb dX8_copy_29 ?_
      refine lv_iload_n hx hb dX8_copy_30 rfl (lv_at hl 3 rfl) ?_
      refine o_iadd hx hb dX8_copy_31 ?_
      replace h := bnd h
      obtain ⟨v4, e4, h⟩ := h
      refine o_lald hx hb hi hw e4 dX8_copy_32 ?_
      replace h := bnd h
      obtain ⟨v5, e5, h⟩ := h
      refine o_last hx hb hi hw e5 dX8_copy_33 (fun H locs hw => ?_)
      refine lv_iinc (v := Int32.ofInt (v2 + 1)) (lv' := [(3, .int (Int32.ofInt (v2 + 1))), (0, .ref (adr 36)), (1, .int (Int32.ofInt a0)), (2, .int (Int32.ofInt a1))]) hx hb dX8_copy_34 hl (k := 3) rfl (inc_o _ _) (by decide) rfl (fun ls hl => ?_)
      refine lv_goto (tgt := 2) hx hb dX8_copy_37 (by decide) ?_
      cases h
      exact k2 _ rfl _ _ _ (lv_sub hl [1, 2, 3, 0] rfl) hw
  · clear hw hl
    intro ls H locs hl hw
    (try dsimp only at hl hw ⊢)
    refine lv_aload_n hx hb dX8_copy_40 rfl (lv_at hl 0 rfl) ?_
    refine m_get (k := 36) (C := RX8) (T := TX8) (N := 18) (ref := "LiftFactorsModel") (v := .ref (adr 42)) hx hb hi hts inX8_u hown hw (by decide) rfl 8 (by decide) q_1 rfl rfl dX8_copy_41 ?_
    refine lv_iload_n hx hb dX8_copy_44 rfl (lv_at hl 2 rfl) ?_
    refine lv_aload_n hx hb dX8_copy_45 rfl (lv_at hl 0 rfl) ?_
    refine m_get (k := 36) (C := RX8) (T := TX8) (N := 18) (ref := "LiftFactorsModel") (v := .ref (adr 42)) hx hb hi hts inX8_u hown hw (by decide) rfl 8 (by decide) q_1 rfl rfl dX8_copy_46 ?_
    refine lv_iload_n hx hb dX8_copy_49 rfl (lv_at hl 1 rfl) ?_
    replace h := bnd h
    obtain ⟨v8, e8, h⟩ := h
    refine o_iald hx hb hi hw e8 dX8_copy_50 ?_
    replace h := bnd h
    obtain ⟨v9, e9, h⟩ := h
    refine o_iast hx hb hi hw e9 dX8_copy_51 (fun H locs hw => ?_)
    cases h
    exact kr _ _ _ _ dX8_copy_52 hw
theorem cc_X8_copy {l : Launch} {G : gG} {adr : Nat → Nat} {sz : Nat} (hi : adi adr) {n : Nat} {a0 : Int} {a1 : Int} {M M' : MI} (h : f_X8_copy n a0 a1 M = some M') : mV l yX8_copy cX8_copy 4 none { frames := 0, cells := 0, slots := 0, locals := 0 } G adr [.ref (adr 36), .int (Int32.ofInt a0), .int (Int32.ofInt a1)] (tm M) sz (tm M') := by
  refine wEnter (by decide) (Nat.le_of_ble_eq_true rfl) ?_
  intro p e s m below meth c ls cx hinit hl hsz hw
  exact b_X8_copy cx hi h (fun pc ls H locs hd hw => w_vret (post := fun (u : Mem) => u = tm M') (lf := fun u => (LL adr, wf G adr u)) cx.1 cx.2.1 cx.2.2.1 cx.2.2.2.2.2.2 (tm M') hw rfl hd) hl hw
def f_X8_constant (a0 : Int) (a1 : Int) (M : MI) : Option MI :=
  Option.bind (osJ M 41 ((24) * a0) a1) fun v1 =>
  Option.bind (
    Option.bind (gJ a1 (0)) fun _ =>
    if a1 = (0) then
      some (-1)
    else
      some (0)) fun v2 =>
  Option.bind (osI v1 42 a0 v2) fun v3 =>
  some v3
set_option maxRecDepth 100000 in
set_option maxHeartbeats 8000000 in
theorem b_X8_constant {p : Program} {l : Launch} {e : Env} {s : State} {m : MethodId} {args : Array Value} {below : List Frame} {meth : Method} {c : Code} {Q : State → Prop} {G : gG} {A : Nat → Prop} {adr : Nat → Nat} (cx : cX p s m args meth c cX8_constant none 4 yX8_constant.cls) (hi : adi adr) {a0 : Int} {a1 : Int} {M M' : MI} 
    (h : f_X8_constant a0 a1 M = some M')
    (kr : ∀ (pc : Nat) (ls : Array Slot) (H : Heap) (locs : List Loc), decode cX8_constant pc = .ok (.return_, 1) → wH G A s.heap s (LL adr) (wf G adr (tm M')) H locs → W p l e { frames := 0, cells := 0, slots := 0, locals := 0 } s m args below meth c H locs 0 0 Q (F0 m pc ls []))
    {ls : Array Slot} {H : Heap} {locs : List Loc} (hl : lv_has ls 4 [(0, .ref (adr 36)), (1, .int (Int32.ofInt a0)), (2, .long (Int64.ofInt a1))]) (hw : wH G A s.heap s (LL adr) (wf G adr (tm M)) H locs) : W p l e { frames := 0, cells := 0, slots := 0, locals := 0 } s m args below meth c H locs 0 0 Q (F0 m 0 ls []) := by
  obtain ⟨hx, hb, -, -, hown, hts, -⟩ := id cx
  have hown : s.vm.findClass RX8 = some m.cls := hown
  unfold f_X8_constant at h
  refine lv_aload_n hx hb dX8_constant_0 rfl (lv_at hl 0 rfl) ?_
  refine m_get (k := 36) (C := RX8) (T := TX8) (N := 18) (ref := "LiftFactorsModel") (v := .ref (adr 41)) hx hb hi hts inX8_u hown hw (by decide) rfl 7 (by decide) q_0 rfl rfl dX8_constant_1 ?_
  refine lv_bipush (v := Int32.ofInt (24)) hx hb dX8_constant_4 rfl ?_
  refine lv_iload_n hx hb dX8_constant_6 rfl (lv_at hl 1 rfl) ?_
  refine o_imul hx hb dX8_constant_7 ?_
  refine lv_lload_n hx hb dX8_constant_8 rfl (lv_at hl 2 rfl) ?_
  replace h := bnd h
  obtain ⟨v1, e1, h⟩ := h
  refine o_last hx hb hi hw e1 dX8_constant_9 (fun H locs hw => ?_)
  refine lv_aload_n hx hb dX8_constant_10 rfl (lv_at hl 0 rfl) ?_
  refine m_get (k := 36) (C := RX8) (T := TX8) (N := 18) (ref := "LiftFactorsModel") (v := .ref (adr 42)) hx hb hi hts inX8_u hown hw (by decide) rfl 8 (by decide) q_1 rfl rfl dX8_constant_11 ?_
  refine lv_iload_n hx hb dX8_constant_14 rfl (lv_at hl 1 rfl) ?_
  refine lv_lload_n hx hb dX8_constant_15 rfl (lv_at hl 2 rfl) ?_
  refine lv_lconst (v := Int64.ofInt (0)) hx hb dX8_constant_16 (by decide) ?_
  replace h := bnd h
  obtain ⟨v2, j4, h⟩ := h
  have kj : ∀ (ls : Array Slot) (H : Heap) (locs : List Loc), lv_has ls 4 [] → wH G A s.heap s (LL adr) (wf G adr (tm v1)) H locs → W p l e { frames := 0, cells := 0, slots := 0, locals := 0 } s m args below meth c H locs 0 0 Q (F0 m 26 ls [.int (Int32.ofInt v2), .int (Int32.ofInt a0), .ref (adr 42)]) := by
    intro ls H locs hl hw
    replace h := bnd h
    obtain ⟨v3, e3, h⟩ := h
    refine o_iast hx hb hi hw e3 dX8_constant_26 (fun H locs hw => ?_)
    cases h
    exact kr _ _ _ _ dX8_constant_27 hw
  clear h
  replace h := j4
  clear j4
  replace h := bnd h
  obtain ⟨_, hg, h⟩ := h
  refine o_lcmp_ne (tgt := 25) hx hb hg dX8_constant_17 dX8_constant_18 (by decide) (fun hc => ?_) (fun hc => ?_)
  · replace h := ite_f hc h
    refine lv_iconst (v := Int32.ofInt (0)) hx hb dX8_constant_25 rfl ?_
    cases h
    exact kj _ _ _ (lv_sub hl [] rfl) hw
  · replace h := ite_t hc h
    refine lv_iconst (v := Int32.ofInt (-1)) hx hb dX8_constant_21 rfl ?_
    refine lv_goto (tgt := 26) hx hb dX8_constant_22 (by decide) ?_
    cases h
    exact kj _ _ _ (lv_sub hl [] rfl) hw
theorem cc_X8_constant {l : Launch} {G : gG} {adr : Nat → Nat} {sz : Nat} (hi : adi adr) {a0 : Int} {a1 : Int} {M M' : MI} (h : f_X8_constant a0 a1 M = some M') : mV l yX8_constant cX8_constant 4 none { frames := 0, cells := 0, slots := 0, locals := 0 } G adr [.ref (adr 36), .int (Int32.ofInt a0), .long (Int64.ofInt a1)] (tm M) sz (tm M') := by
  refine wEnter (by decide) (Nat.le_of_ble_eq_true rfl) ?_
  intro p e s m below meth c ls cx hinit hl hsz hw
  exact b_X8_constant cx hi h (fun pc ls H locs hd hw => w_vret (post := fun (u : Mem) => u = tm M') (lf := fun u => (LL adr, wf G adr u)) cx.1 cx.2.1 cx.2.2.1 cx.2.2.2.2.2.2 (tm M') hw rfl hd) hl hw
def f_X8_abs (a0 : Int) : Option Int :=
  Option.bind (
    Option.bind (gJ a0 (0)) fun _ =>
    if (0) ≤ a0 then
      some a0
    else
      some (-a0)) fun v1 =>
  some v1
set_option maxRecDepth 100000 in
set_option maxHeartbeats 8000000 in
theorem b_X8_abs {p : Program} {l : Launch} {e : Env} {s : State} {m : MethodId} {args : Array Value} {below : List Frame} {meth : Method} {c : Code} {Q : State → Prop} {G : gG} {A : Nat → Prop} {adr : Nat → Nat} (cx : cX p s m args meth c cX8_abs (some .long) 2 yX8_abs.cls) (hi : adi adr) {a0 : Int} {M : MI} {r : Int} 
    (h : f_X8_abs a0 = some r)
    (kr : ∀ (pc : Nat) (ls : Array Slot) (H : Heap) (locs : List Loc), decode cX8_abs pc = .ok (.lreturn, 1) → wH G A s.heap s (LL adr) (wf G adr (tm M)) H locs → W p l e { frames := 0, cells := 0, slots := 0, locals := 0 } s m args below meth c H locs 0 0 Q (F0 m pc ls [.long (Int64.ofInt r)]))
    {ls : Array Slot} {H : Heap} {locs : List Loc} (hl : lv_has ls 2 [(0, .long (Int64.ofInt a0))]) (hw : wH G A s.heap s (LL adr) (wf G adr (tm M)) H locs) : W p l e { frames := 0, cells := 0, slots := 0, locals := 0 } s m args below meth c H locs 0 0 Q (F0 m 0 ls []) := by
  obtain ⟨hx, hb, -, -, hown, hts, -⟩ := id cx
  have hown : s.vm.findClass RX8 = some m.cls := hown
  unfold f_X8_abs at h
  refine lv_lload_n hx hb dX8_abs_0 rfl (lv_at hl 0 rfl) ?_
  refine lv_lconst (v := Int64.ofInt (0)) hx hb dX8_abs_1 (by decide) ?_
  replace h := bnd h
  obtain ⟨v1, j2, h⟩ := h
  have kj : ∀ (ls : Array Slot) (H : Heap) (locs : List Loc), lv_has ls 2 [] → wH G A s.heap s (LL adr) (wf G adr (tm M)) H locs → W p l e { frames := 0, cells := 0, slots := 0, locals := 0 } s m args below meth c H locs 0 0 Q (F0 m 12 ls [.long (Int64.ofInt v1)]) := by
    intro ls H locs hl hw
    cases h
    exact kr _ _ _ _ dX8_abs_12 hw
  clear h
  replace h := j2
  clear j2
  replace h := bnd h
  obtain ⟨_, hg, h⟩ := h
  refine o_lcmp_ge (tgt := 11) hx hb hg dX8_abs_2 dX8_abs_3 (by decide) (fun hc => ?_) (fun hc => ?_)
  · replace h := ite_t hc h
    refine lv_lload_n hx hb dX8_abs_11 rfl (lv_at hl 0 rfl) ?_
    cases h
    exact kj _ _ _ (lv_sub hl [] rfl) hw
  · replace h := ite_f hc h
    refine lv_lload_n hx hb dX8_abs_6 rfl (lv_at hl 0 rfl) ?_
    refine o_lneg hx hb dX8_abs_7 ?_
    refine lv_goto (tgt := 12) hx hb dX8_abs_8 (by decide) ?_
    cases h
    exact kj _ _ _ (lv_sub hl [] rfl) hw
theorem cc_X8_abs {l : Launch} {G : gG} {adr : Nat → Nat} {sz : Nat} (hi : adi adr) {a0 : Int} {M : MI} {r : Int} (h : f_X8_abs a0 = some r) : mL l yX8_abs cX8_abs 2 (some .long) { frames := 0, cells := 0, slots := 0, locals := 0 } G adr [.long (Int64.ofInt a0)] (tm M) sz (Int64.ofInt r) (tm M) := by
  refine wEnter (by decide) (Nat.le_of_ble_eq_true rfl) ?_
  intro p e s m below meth c ls cx hinit hl hsz hw
  exact b_X8_abs cx hi h (fun pc ls H locs hd hw => w_lret (post := fun (r9 : Int64) (u : Mem) => r9 = Int64.ofInt r ∧ u = tm M) (lf := fun u => (LL adr, wf G adr u)) cx.1 cx.2.1 cx.2.2.1 cx.2.2.2.2.2.2 (tm M) hw ⟨rfl, rfl⟩ hd) hl hw
theorem q_2 : Cond.methodLink RX8 49 yX8_abs ∈ uU := uU_in (by decide +kernel) (by decide +kernel)
theorem q_3 : Cond.static yX8_abs ∈ uU := uU_in (by decide +kernel) (by decide +kernel)
theorem q_4 : Cond.initialized yX8_abs.cls ∈ uU := uU_in (by decide +kernel) (by decide +kernel)
theorem q_5 : Cond.code yX8_abs cX8_abs 2 (some .long) ∈ uU := uU_in (by decide +kernel) (by decide +kernel)
def l_X8_common_12 : Int × Int → Option ((Int) ⊕ (Int × Int)) := fun (v3, v4) =>
  Option.bind (gJ v4 (0)) fun _ =>
  if v4 = (0) then
    some (.inl v3)
  else
    Option.bind (orJ v3 v4) fun v5 =>
    some (.inr (v4, v5))
def f_X8_common (n : Nat) (a0 : Int) (a1 : Int) : Option Int :=
  Option.bind (f_X8_abs a0) fun v1 =>
  Option.bind (f_X8_abs a1) fun v2 =>
  Option.bind (lpF (l_X8_common_12) n (v1, v2)) fun v7 =>
  some v7
set_option maxRecDepth 100000 in
set_option maxHeartbeats 8000000 in
theorem b_X8_common {p : Program} {l : Launch} {e : Env} {s : State} {m : MethodId} {args : Array Value} {below : List Frame} {meth : Method} {c : Code} {Q : State → Prop} {G : gG} {A : Nat → Prop} {adr : Nat → Nat} (cx : cX p s m args meth c cX8_common (some .long) 10 yX8_common.cls) (hi : adi adr) {n : Nat} {a0 : Int} {a1 : Int} {M : MI} {r : Int} 
    (h : f_X8_common n a0 a1 = some r)
    (kr : ∀ (pc : Nat) (ls : Array Slot) (H : Heap) (locs : List Loc), decode cX8_common pc = .ok (.lreturn, 1) → wH G A s.heap s (LL adr) (wf G adr (tm M)) H locs → W p l e { frames := 1, cells := 0, slots := 0, locals := 21 } s m args below meth c H locs 0 0 Q (F0 m pc ls [.long (Int64.ofInt r)]))
    {ls : Array Slot} {H : Heap} {locs : List Loc} (hl : lv_has ls 10 [(0, .long (Int64.ofInt a0)), (2, .long (Int64.ofInt a1))]) (hw : wH G A s.heap s (LL adr) (wf G adr (tm M)) H locs) : W p l e { frames := 1, cells := 0, slots := 0, locals := 21 } s m args below meth c H locs 0 0 Q (F0 m 0 ls []) := by
  obtain ⟨hx, hb, -, -, hown, hts, -⟩ := id cx
  have hown : s.vm.findClass RX8 = some m.cls := hown
  unfold f_X8_common at h
  refine lv_lload_n hx hb dX8_common_0 rfl (lv_at hl 0 rfl) ?_
  replace h := bnd h
  obtain ⟨v1, e1, h⟩ := h
  refine m_callSl (As := [.long (Int64.ofInt a0)]) (rest := []) cx.fix hw (cc_X8_abs (l := l) (G := G) (sz := H.size) (M := M) hi e1) (w_cS 1 hts q_2 q_3 q_4 q_5 rfl rfl (by decide) (by decide)) hl.1 rfl (lv_room (Nat.le_of_ble_eq_true rfl)) dX8_common_1 (fun H locs hw => ?_)
  refine lv_lstore (lv' := [(4, .long (Int64.ofInt v1)), (0, .long (Int64.ofInt a0)), (2, .long (Int64.ofInt a1))]) hx hb dX8_common_4 hl (by decide) rfl (fun ls hl => ?_)
  refine lv_lload_n hx hb dX8_common_6 rfl (lv_at hl 2 rfl) ?_
  replace h := bnd h
  obtain ⟨v2, e2, h⟩ := h
  refine m_callSl (As := [.long (Int64.ofInt a1)]) (rest := []) cx.fix hw (cc_X8_abs (l := l) (G := G) (sz := H.size) (M := M) hi e2) (w_cS 1 hts q_2 q_3 q_4 q_5 rfl rfl (by decide) (by decide)) hl.1 rfl (lv_room (Nat.le_of_ble_eq_true rfl)) dX8_common_7 (fun H locs hw => ?_)
  refine lv_lstore (lv' := [(6, .long (Int64.ofInt v2)), (4, .long (Int64.ofInt v1)), (0, .long (Int64.ofInt a0)), (2, .long (Int64.ofInt a1))]) hx hb dX8_common_10 hl (by decide) rfl (fun ls hl => ?_)
  replace h := bnd h
  obtain ⟨v7, j6, h⟩ := h
  refine lp_W (Wst := fun (st : Int × Int) => ∀ (ls : Array Slot) (H : Heap) (locs : List Loc), lv_has ls 10 [(4, .long (Int64.ofInt st.1)), (6, .long (Int64.ofInt st.2))] → wH G A s.heap s (LL adr) (wf G adr (tm M)) H locs → W p l e { frames := 1, cells := 0, slots := 0, locals := 21 } s m args below meth c H locs 0 0 Q (F0 m 12 ls [])) (fin := fun (r : Int) => ∀ (ls : Array Slot) (H : Heap) (locs : List Loc), lv_has ls 10 [(4, .long (Int64.ofInt r))] → wH G A s.heap s (LL adr) (wf G adr (tm M)) H locs → W p l e { frames := 1, cells := 0, slots := 0, locals := 21 } s m args below meth c H locs 0 0 Q (F0 m 37 ls [])) ?_ n _ _ j6 ?_ _ _ _ (lv_sub hl [1, 0] rfl) hw
  · clear h j6 hw hl
    intro ⟨v3, v4⟩ x h k1 k2 ls H locs hl hw
    (try dsimp only at k1 k2 hl hw ⊢)
    unfold l_X8_common_12 at h
    (try dsimp only at h)
    refine lv_lload hx hb dX8_common_12 (lv_at hl 1 rfl) ?_
    refine lv_lconst (v := Int64.ofInt (0)) hx hb dX8_common_14 (by decide) ?_
    replace h := bnd h
    obtain ⟨_, hg, h⟩ := h
    refine o_lcmp_eq (tgt := 37) hx hb hg dX8_common_15 dX8_common_16 (by decide) (fun hc => ?_) (fun hc => ?_)
    · replace h := ite_t hc h
      cases h
      exact k1 _ rfl _ _ _ (lv_sub hl [0] rfl) hw
    · replace h := ite_f hc h
      refine lv_lload hx hb dX8_common_19 (lv_at hl 0 rfl) ?_
      refine lv_lload hx hb dX8_common_21 (lv_at hl 1 rfl) ?_
      replace h := bnd h
      obtain ⟨v5, e5, h⟩ := h
      refine o_lrem hx hb e5 dX8_common_23 ?_
      refine lv_lstore (lv' := [(8, .long (Int64.ofInt v5)), (4, .long (Int64.ofInt v3)), (6, .long (Int64.ofInt v4))]) hx hb dX8_common_24 hl (by decide) rfl (fun ls hl => ?_)
      refine lv_lload hx hb dX8_common_26 (lv_at hl 2 rfl) ?_
      refine lv_lstore (lv' := [(4, .long (Int64.ofInt v4)), (8, .long (Int64.ofInt v5)), (6, .long (Int64.ofInt v4))]) hx hb dX8_common_28 hl (by decide) rfl (fun ls hl => ?_)
      refine lv_lload hx hb dX8_common_30 (lv_at hl 1 rfl) ?_
      refine lv_lstore (lv' := [(6, .long (Int64.ofInt v5)), (4, .long (Int64.ofInt v4)), (8, .long (Int64.ofInt v5))]) hx hb dX8_common_32 hl (by decide) rfl (fun ls hl => ?_)
      refine lv_goto (tgt := 12) hx hb dX8_common_34 (by decide) ?_
      cases h
      exact k2 _ rfl _ _ _ (lv_sub hl [1, 0] rfl) hw
  · clear hw hl
    intro ls H locs hl hw
    (try dsimp only at hl hw ⊢)
    refine lv_lload hx hb dX8_common_37 (lv_at hl 0 rfl) ?_
    cases h
    exact kr _ _ _ _ dX8_common_39 hw
theorem cc_X8_common {l : Launch} {G : gG} {adr : Nat → Nat} {sz : Nat} (hi : adi adr) {n : Nat} {a0 : Int} {a1 : Int} {M : MI} {r : Int} (h : f_X8_common n a0 a1 = some r) : mL l yX8_common cX8_common 10 (some .long) { frames := 1, cells := 0, slots := 0, locals := 21 } G adr [.long (Int64.ofInt a0), .long (Int64.ofInt a1)] (tm M) sz (Int64.ofInt r) (tm M) := by
  refine wEnter (by decide) (Nat.le_of_ble_eq_true rfl) ?_
  intro p e s m below meth c ls cx hinit hl hsz hw
  exact b_X8_common cx hi h (fun pc ls H locs hd hw => w_lret (post := fun (r9 : Int64) (u : Mem) => r9 = Int64.ofInt r ∧ u = tm M) (lf := fun u => (LL adr, wf G adr u)) cx.1 cx.2.1 cx.2.2.1 cx.2.2.2.2.2.2 (tm M) hw ⟨rfl, rfl⟩ hd) hl hw
theorem q_6 : Cond.methodLink RX8 53 yX8_common ∈ uU := uU_in (by decide +kernel) (by decide +kernel)
theorem q_7 : Cond.static yX8_common ∈ uU := uU_in (by decide +kernel) (by decide +kernel)
theorem q_8 : Cond.initialized yX8_common.cls ∈ uU := uU_in (by decide +kernel) (by decide +kernel)
theorem q_9 : Cond.code yX8_common cX8_common 10 (some .long) ∈ uU := uU_in (by decide +kernel) (by decide +kernel)
def l_X8_primitive_5 (n : Nat) (a0 : Int) (M : MI) : Int × Int → Option ((Int) ⊕ (Int × Int)) := fun (v1, v2) =>
  Option.bind (odI M 42 a0) fun v3 =>
  Option.bind (gI v2 v3) fun _ =>
  if v3 < v2 then
    some (.inl v1)
  else
    Option.bind (odJ M 41 (((24) * a0) + v2)) fun v4 =>
    Option.bind (f_X8_common n v1 v4) fun v5 =>
    some (.inr (v5, v2 + 1))
def l_X8_primitive_74 (a0 : Int) (v10 : Int) : MI × Int → Option ((MI) ⊕ (MI × Int)) := fun (M11, v12) =>
  Option.bind (odI M11 42 a0) fun v13 =>
  Option.bind (gI v12 v13) fun _ =>
  if v13 < v12 then
    some (.inl M11)
  else
    Option.bind (odJ M11 41 (((24) * a0) + v12)) fun v14 =>
    Option.bind (oqJ v14 v10) fun v15 =>
    Option.bind (osJ M11 41 (((24) * a0) + v12) v15) fun v16 =>
    some (.inr (v16, v12 + 1))
def f_X8_primitive (n : Nat) (a0 : Int) (M : MI) : Option (Int × MI) :=
  Option.bind (lpF (l_X8_primitive_5 n a0 M) n ((0), (0))) fun v7 =>
  Option.bind (gJ v7 (0)) fun _ =>
  if v7 = (0) then
    some ((0), M)
  else
    Option.bind (odI M 42 a0) fun v8 =>
    Option.bind (odJ M 41 (((24) * a0) + v8)) fun v9 =>
    Option.bind (
      Option.bind (gJ v9 (0)) fun _ =>
      if (0) ≤ v9 then
        some v7
      else
        some (-v7)) fun v10 =>
    Option.bind (lpF (l_X8_primitive_74 a0 v10) n (M, (0))) fun M18 =>
    some (v10, M18)
set_option maxRecDepth 100000 in
set_option maxHeartbeats 8000000 in
theorem b_X8_primitive {p : Program} {l : Launch} {e : Env} {s : State} {m : MethodId} {args : Array Value} {below : List Frame} {meth : Method} {c : Code} {Q : State → Prop} {G : gG} {A : Nat → Prop} {adr : Nat → Nat} (cx : cX p s m args meth c cX8_primitive (some .long) 5 yX8_primitive.cls) (hi : adi adr) {n : Nat} {a0 : Int} {M M' : MI} {r : Int} 
    (h : f_X8_primitive n a0 M = some (r, M'))
    (kr : ∀ (pc : Nat) (ls : Array Slot) (H : Heap) (locs : List Loc), decode cX8_primitive pc = .ok (.lreturn, 1) → wH G A s.heap s (LL adr) (wf G adr (tm M')) H locs → W p l e { frames := 2, cells := 0, slots := 0, locals := 50 } s m args below meth c H locs 0 0 Q (F0 m pc ls [.long (Int64.ofInt r)]))
    {ls : Array Slot} {H : Heap} {locs : List Loc} (hl : lv_has ls 5 [(0, .ref (adr 36)), (1, .int (Int32.ofInt a0))]) (hw : wH G A s.heap s (LL adr) (wf G adr (tm M)) H locs) : W p l e { frames := 2, cells := 0, slots := 0, locals := 50 } s m args below meth c H locs 0 0 Q (F0 m 0 ls []) := by
  obtain ⟨hx, hb, -, -, hown, hts, -⟩ := id cx
  have hown : s.vm.findClass RX8 = some m.cls := hown
  unfold f_X8_primitive at h
  refine lv_lconst (v := Int64.ofInt (0)) hx hb dX8_primitive_0 (by decide) ?_
  refine lv_lstore_n (lv' := [(2, .long (Int64.ofInt (0))), (0, .ref (adr 36)), (1, .int (Int32.ofInt a0))]) hx hb dX8_primitive_1 rfl hl (by decide) rfl (fun ls hl => ?_)
  refine lv_iconst (v := Int32.ofInt (0)) hx hb dX8_primitive_2 rfl ?_
  refine lv_istore (lv' := [(4, .int (Int32.ofInt (0))), (2, .long (Int64.ofInt (0))), (0, .ref (adr 36)), (1, .int (Int32.ofInt a0))]) hx hb dX8_primitive_3 hl (by decide) rfl (fun ls hl => ?_)
  replace h := bnd h
  obtain ⟨v7, j6, h⟩ := h
  refine lp_W (Wst := fun (st : Int × Int) => ∀ (ls : Array Slot) (H : Heap) (locs : List Loc), lv_has ls 5 [(0, .ref (adr 36)), (1, .int (Int32.ofInt a0)), (2, .long (Int64.ofInt st.1)), (4, .int (Int32.ofInt st.2))] → wH G A s.heap s (LL adr) (wf G adr (tm M)) H locs → W p l e { frames := 2, cells := 0, slots := 0, locals := 50 } s m args below meth c H locs 0 0 Q (F0 m 5 ls [])) (fin := fun (r : Int) => ∀ (ls : Array Slot) (H : Heap) (locs : List Loc), lv_has ls 5 [(0, .ref (adr 36)), (1, .int (Int32.ofInt a0)), (2, .long (Int64.ofInt r))] → wH G A s.heap s (LL adr) (wf G adr (tm M)) H locs → W p l e { frames := 2, cells := 0, slots := 0, locals := 50 } s m args below meth c H locs 0 0 Q (F0 m 39 ls [])) ?_ n _ _ j6 ?_ _ _ _ (lv_sub hl [2, 3, 1, 0] rfl) hw
  · clear h j6 hw hl
    intro ⟨v1, v2⟩ x h k1 k2 ls H locs hl hw
    (try dsimp only at k1 k2 hl hw ⊢)
    unfold l_X8_primitive_5 at h
    (try dsimp only at h)
    refine lv_iload hx hb dX8_primitive_5 (lv_at hl 3 rfl) ?_
    refine lv_aload_n hx hb dX8_primitive_7 rfl (lv_at hl 0 rfl) ?_
    refine m_get (k := 36) (C := RX8) (T := TX8) (N := 18) (ref := "LiftFactorsModel") (v := .ref (adr 42)) hx hb hi hts inX8_u hown hw (by decide) rfl 8 (by decide) q_1 rfl rfl dX8_primitive_8 ?_
    refine lv_iload_n hx hb dX8_primitive_11 rfl (lv_at hl 1 rfl) ?_
    replace h := bnd h
    obtain ⟨v3, e3, h⟩ := h
    refine o_iald hx hb hi hw e3 dX8_primitive_12 ?_
    replace h := bnd h
    obtain ⟨_, hg, h⟩ := h
    refine o_icmp_gt (tgt := 39) hx hb hg dX8_primitive_13 (by decide) (fun hc => ?_) (fun hc => ?_)
    · replace h := ite_t hc h
      cases h
      exact k1 _ rfl _ _ _ (lv_sub hl [0, 1, 2] rfl) hw
    · replace h := ite_f hc h
      refine lv_lload_n hx hb dX8_primitive_16 rfl (lv_at hl 2 rfl) ?_
      refine lv_aload_n hx hb dX8_primitive_17 rfl (lv_at hl 0 rfl) ?_
      refine m_get (k := 36) (C := RX8) (T := TX8) (N := 18) (ref := "LiftFactorsModel") (v := .ref (adr 41)) hx hb hi hts inX8_u hown hw (by decide) rfl 7 (by decide) q_0 rfl rfl dX8_primitive_18 ?_
      refine lv_bipush (v := Int32.ofInt (24)) hx hb dX8_primitive_21 rfl ?_
      refine lv_iload_n hx hb dX8_primitive_23 rfl (lv_at hl 1 rfl) ?_
      refine o_imul hx hb dX8_primitive_24 ?_
      refine lv_iload hx hb dX8_primitive_25 (lv_at hl 3 rfl) ?_
      refine o_iadd hx hb dX8_primitive_27 ?_
      replace h := bnd h
      obtain ⟨v4, e4, h⟩ := h
      refine o_lald hx hb hi hw e4 dX8_primitive_28 ?_
      replace h := bnd h
      obtain ⟨v5, e5, h⟩ := h
      refine m_callSl (As := [.long (Int64.ofInt v1), .long (Int64.ofInt v4)]) (rest := []) cx.fix hw (cc_X8_common (l := l) (G := G) (sz := H.size) (M := M) hi e5) (w_cS 2 hts q_6 q_7 q_8 q_9 rfl rfl (by decide) (by decide)) hl.1 rfl (lv_room (Nat.le_of_ble_eq_true rfl)) dX8_primitive_29 (fun H locs hw => ?_)
      refine lv_lstore_n (lv' := [(2, .long (Int64.ofInt v5)), (0, .ref (adr 36)), (1, .int (Int32.ofInt a0)), (4, .int (Int32.ofInt v2))]) hx hb dX8_primitive_32 rfl hl (by decide) rfl (fun ls hl => ?_)
      refine lv_iinc (v := Int32.ofInt (v2 + 1)) (lv' := [(4, .int (Int32.ofInt (v2 + 1))), (2, .long (Int64.ofInt v5)), (0, .ref (adr 36)), (1, .int (Int32.ofInt a0))]) hx hb dX8_primitive_33 hl (k := 3) rfl (inc_o _ _) (by decide) rfl (fun ls hl => ?_)
      refine lv_goto (tgt := 5) hx hb dX8_primitive_36 (by decide) ?_
      cases h
      exact k2 _ rfl _ _ _ (lv_sub hl [2, 3, 1, 0] rfl) hw
  · clear hw hl
    intro ls H locs hl hw
    (try dsimp only at hl hw ⊢)
    refine lv_lload_n hx hb dX8_primitive_39 rfl (lv_at hl 2 rfl) ?_
    refine lv_lconst (v := Int64.ofInt (0)) hx hb dX8_primitive_40 (by decide) ?_
    replace h := bnd h
    obtain ⟨_, hg, h⟩ := h
    refine o_lcmp_ne (tgt := 47) hx hb hg dX8_primitive_41 dX8_primitive_42 (by decide) (fun hc => ?_) (fun hc => ?_)
    · replace h := ite_f hc h
      refine lv_aload_n hx hb dX8_primitive_47 rfl (lv_at hl 0 rfl) ?_
      refine m_get (k := 36) (C := RX8) (T := TX8) (N := 18) (ref := "LiftFactorsModel") (v := .ref (adr 41)) hx hb hi hts inX8_u hown hw (by decide) rfl 7 (by decide) q_0 rfl rfl dX8_primitive_48 ?_
      refine lv_bipush (v := Int32.ofInt (24)) hx hb dX8_primitive_51 rfl ?_
      refine lv_iload_n hx hb dX8_primitive_53 rfl (lv_at hl 1 rfl) ?_
      refine o_imul hx hb dX8_primitive_54 ?_
      refine lv_aload_n hx hb dX8_primitive_55 rfl (lv_at hl 0 rfl) ?_
      refine m_get (k := 36) (C := RX8) (T := TX8) (N := 18) (ref := "LiftFactorsModel") (v := .ref (adr 42)) hx hb hi hts inX8_u hown hw (by decide) rfl 8 (by decide) q_1 rfl rfl dX8_primitive_56 ?_
      refine lv_iload_n hx hb dX8_primitive_59 rfl (lv_at hl 1 rfl) ?_
      replace h := bnd h
      obtain ⟨v8, e8, h⟩ := h
      refine o_iald hx hb hi hw e8 dX8_primitive_60 ?_
      refine o_iadd hx hb dX8_primitive_61 ?_
      replace h := bnd h
      obtain ⟨v9, e9, h⟩ := h
      refine o_lald hx hb hi hw e9 dX8_primitive_62 ?_
      refine lv_lconst (v := Int64.ofInt (0)) hx hb dX8_primitive_63 (by decide) ?_
      replace h := bnd h
      obtain ⟨v10, j19, h⟩ := h
      have kj : ∀ (ls : Array Slot) (H : Heap) (locs : List Loc), lv_has ls 5 [(0, .ref (adr 36)), (1, .int (Int32.ofInt a0)), (2, .long (Int64.ofInt v10))] → wH G A s.heap s (LL adr) (wf G adr (tm M)) H locs → W p l e { frames := 2, cells := 0, slots := 0, locals := 50 } s m args below meth c H locs 0 0 Q (F0 m 71 ls []) := by
        intro ls H locs hl hw
        refine lv_iconst (v := Int32.ofInt (0)) hx hb dX8_primitive_71 rfl ?_
        refine lv_istore (lv' := [(4, .int (Int32.ofInt (0))), (0, .ref (adr 36)), (1, .int (Int32.ofInt a0)), (2, .long (Int64.ofInt v10))]) hx hb dX8_primitive_72 hl (by decide) rfl (fun ls hl => ?_)
        replace h := bnd h
        obtain ⟨M18, j17, h⟩ := h
        refine lp_W (Wst := fun (st : MI × Int) => ∀ (ls : Array Slot) (H : Heap) (locs : List Loc), lv_has ls 5 [(0, .ref (adr 36)), (1, .int (Int32.ofInt a0)), (2, .long (Int64.ofInt v10)), (4, .int (Int32.ofInt st.2))] → wH G A s.heap s (LL adr) (wf G adr (tm st.1)) H locs → W p l e { frames := 2, cells := 0, slots := 0, locals := 50 } s m args below meth c H locs 0 0 Q (F0 m 74 ls [])) (fin := fun (r : MI) => ∀ (ls : Array Slot) (H : Heap) (locs : List Loc), lv_has ls 5 [(2, .long (Int64.ofInt v10))] → wH G A s.heap s (LL adr) (wf G adr (tm r)) H locs → W p l e { frames := 2, cells := 0, slots := 0, locals := 50 } s m args below meth c H locs 0 0 Q (F0 m 107 ls [])) ?_ n _ _ j17 ?_ _ _ _ (lv_sub hl [1, 2, 3, 0] rfl) hw
        · clear h j17 hw hl
          intro ⟨M11, v12⟩ x h k1 k2 ls H locs hl hw
          (try dsimp only at k1 k2 hl hw ⊢)
          unfold l_X8_primitive_74 at h
          (try dsimp only at h)
          refine lv_iload hx hb dX8_primitive_74 (lv_at hl 3 rfl) ?_
          refine lv_aload_n hx hb dX8_primitive_76 rfl (lv_at hl 0 rfl) ?_
          refine m_get (k := 36) (C := RX8) (T := TX8) (N := 18) (ref := "LiftFactorsModel") (v := .ref (adr 42)) hx hb hi hts inX8_u hown hw (by decide) rfl 8 (by decide) q_1 rfl rfl dX8_primitive_77 ?_
          refine lv_iload_n hx hb dX8_primitive_80 rfl (lv_at hl 1 rfl) ?_
          replace h := bnd h
          obtain ⟨v13, e13, h⟩ := h
          refine o_iald hx hb hi hw e13 dX8_primitive_81 ?_
          replace h := bnd h
          obtain ⟨_, hg, h⟩ := h
          refine o_icmp_gt (tgt := 107) hx hb hg dX8_primitive_82 (by decide) (fun hc => ?_) (fun hc => ?_)
          · replace h := ite_t hc h
            cases h
            exact k1 _ rfl _ _ _ (lv_sub hl [2] rfl) hw
          · replace h := ite_f hc h
            refine lv_aload_n hx hb dX8_primitive_85 rfl (lv_at hl 0 rfl) ?_
            refine m_get (k := 36) (C := RX8) (T := TX8) (N := 18) (ref := "LiftFactorsModel") (v := .ref (adr 41)) hx hb hi hts inX8_u hown hw (by decide) rfl 7 (by decide) q_0 rfl rfl dX8_primitive_86 ?_
            refine lv_bipush (v := Int32.ofInt (24)) hx hb dX8_primitive_89 rfl ?_
            refine lv_iload_n hx hb dX8_primitive_91 rfl (lv_at hl 1 rfl) ?_
            refine o_imul hx hb dX8_primitive_92 ?_
            refine lv_iload hx hb dX8_primitive_93 (lv_at hl 3 rfl) ?_
            refine o_iadd hx hb dX8_primitive_95 ?_
            refine lv_dup2_11 hx hb dX8_primitive_96 rfl rfl ?_
            replace h := bnd h
            obtain ⟨v14, e14, h⟩ := h
            refine o_lald hx hb hi hw e14 dX8_primitive_97 ?_
            refine lv_lload_n hx hb dX8_primitive_98 rfl (lv_at hl 2 rfl) ?_
            replace h := bnd h
            obtain ⟨v15, e15, h⟩ := h
            refine o_ldiv hx hb e15 dX8_primitive_99 ?_
            replace h := bnd h
            obtain ⟨v16, e16, h⟩ := h
            refine o_last hx hb hi hw e16 dX8_primitive_100 (fun H locs hw => ?_)
            refine lv_iinc (v := Int32.ofInt (v12 + 1)) (lv' := [(4, .int (Int32.ofInt (v12 + 1))), (0, .ref (adr 36)), (1, .int (Int32.ofInt a0)), (2, .long (Int64.ofInt v10))]) hx hb dX8_primitive_101 hl (k := 3) rfl (inc_o _ _) (by decide) rfl (fun ls hl => ?_)
            refine lv_goto (tgt := 74) hx hb dX8_primitive_104 (by decide) ?_
            cases h
            exact k2 _ rfl _ _ _ (lv_sub hl [1, 2, 3, 0] rfl) hw
        · clear hw hl
          intro ls H locs hl hw
          (try dsimp only at hl hw ⊢)
          refine lv_lload_n hx hb dX8_primitive_107 rfl (lv_at hl 0 rfl) ?_
          cases h
          exact kr _ _ _ _ dX8_primitive_108 hw
      clear h
      replace h := j19
      clear j19
      replace h := bnd h
      obtain ⟨_, hg, h⟩ := h
      refine o_lcmp_ge (tgt := 71) hx hb hg dX8_primitive_64 dX8_primitive_65 (by decide) (fun hc => ?_) (fun hc => ?_)
      · replace h := ite_t hc h
        cases h
        exact kj _ _ _ (lv_sub hl [0, 1, 2] rfl) hw
      · replace h := ite_f hc h
        refine lv_lload_n hx hb dX8_primitive_68 rfl (lv_at hl 2 rfl) ?_
        refine o_lneg hx hb dX8_primitive_69 ?_
        refine lv_lstore_n (lv' := [(2, .long (Int64.ofInt (-v7))), (0, .ref (adr 36)), (1, .int (Int32.ofInt a0))]) hx hb dX8_primitive_70 rfl hl (by decide) rfl (fun ls hl => ?_)
        cases h
        exact kj _ _ _ (lv_sub hl [1, 2, 0] rfl) hw
    · replace h := ite_t hc h
      refine lv_lconst (v := Int64.ofInt (0)) hx hb dX8_primitive_45 (by decide) ?_
      cases h
      exact kr _ _ _ _ dX8_primitive_46 hw
theorem cc_X8_primitive {l : Launch} {G : gG} {adr : Nat → Nat} {sz : Nat} (hi : adi adr) {n : Nat} {a0 : Int} {M M' : MI} {r : Int} (h : f_X8_primitive n a0 M = some (r, M')) : mL l yX8_primitive cX8_primitive 5 (some .long) { frames := 2, cells := 0, slots := 0, locals := 50 } G adr [.ref (adr 36), .int (Int32.ofInt a0)] (tm M) sz (Int64.ofInt r) (tm M') := by
  refine wEnter (by decide) (Nat.le_of_ble_eq_true rfl) ?_
  intro p e s m below meth c ls cx hinit hl hsz hw
  exact b_X8_primitive cx hi h (fun pc ls H locs hd hw => w_lret (post := fun (r9 : Int64) (u : Mem) => r9 = Int64.ofInt r ∧ u = tm M') (lf := fun u => (LL adr, wf G adr u)) cx.1 cx.2.1 cx.2.2.1 cx.2.2.2.2.2.2 (tm M') hw ⟨rfl, rfl⟩ hd) hl hw
