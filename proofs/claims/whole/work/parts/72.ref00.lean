theorem q_0 : Cond.fieldLink RX8 22 "LiftFactorsModel" "w" "[J" ∈ uU := uU_in (by decide +kernel) (by decide +kernel)
theorem q_1 : Cond.fieldLink RX8 26 "LiftFactorsModel" "deg" "[I" ∈ uU := uU_in (by decide +kernel) (by decide +kernel)
def l_X8_trim_2 (a0 : Int32) (M : Mem) : Int32 → Option ((Int32) ⊕ (Int32)) := fun v1 =>
  if v1 < 0 then
    some (.inl v1)
  else
    Option.bind (ldJ M 41 (((24 : Int32) * a0) + v1)) fun v2 =>
    if v2 = (0 : Int64) then
      some (.inr (v1 + (-1)))
    else
      some (.inl v1)
def f_X8_trim (n : Nat) (a0 : Int32) (a1 : Int32) (M : Mem) : Option Mem :=
  Option.bind (lpF (l_X8_trim_2 a0 M) n a1) fun v4 =>
  Option.bind (stI M 42 a0 v4) fun v5 =>
  some v5
set_option maxRecDepth 100000 in
set_option maxHeartbeats 8000000 in
theorem b_X8_trim {p : Program} {l : Launch} {e : Env} {s : State} {m : MethodId} {args : Array Value} {below : List Frame} {meth : Method} {c : Code} {Q : State → Prop} {G : gG} {A : Nat → Prop} {adr : Nat → Nat} (cx : cX p s m args meth c cX8_trim none 4 yX8_trim.cls) (hi : adi adr) {n : Nat} {a0 : Int32} {a1 : Int32} {M M' : Mem} 
    (h : f_X8_trim n a0 a1 M = some M')
    (kr : ∀ (pc : Nat) (ls : Array Slot) (H : Heap) (locs : List Loc), decode cX8_trim pc = .ok (.return_, 1) → wH G A s.heap s (LL adr) (wf G adr M') H locs → W p l e { frames := 0, cells := 0, slots := 0, locals := 0 } s m args below meth c H locs 0 0 Q (F0 m pc ls []))
    {ls : Array Slot} {H : Heap} {locs : List Loc} (hl : lv_has ls 4 [(0, .ref (adr 36)), (1, .int a0), (2, .int a1)]) (hw : wH G A s.heap s (LL adr) (wf G adr M) H locs) : W p l e { frames := 0, cells := 0, slots := 0, locals := 0 } s m args below meth c H locs 0 0 Q (F0 m 0 ls []) := by
  obtain ⟨hx, hb, -, -, hown, hts, -⟩ := id cx
  have hown : s.vm.findClass RX8 = some m.cls := hown
  unfold f_X8_trim at h
  refine lv_iload_n hx hb dX8_trim_0 rfl (lv_at hl 2 rfl) ?_
  refine lv_istore_n (lv' := [(3, .int a1), (0, .ref (adr 36)), (1, .int a0), (2, .int a1)]) hx hb dX8_trim_1 rfl hl (by decide) rfl (fun ls hl => ?_)
  replace h := bnd h
  obtain ⟨v4, j3, h⟩ := h
  refine lp_W (Wst := fun (st : Int32) => ∀ (ls : Array Slot) (H : Heap) (locs : List Loc), lv_has ls 4 [(0, .ref (adr 36)), (1, .int a0), (3, .int st)] → wH G A s.heap s (LL adr) (wf G adr M) H locs → W p l e { frames := 0, cells := 0, slots := 0, locals := 0 } s m args below meth c H locs 0 0 Q (F0 m 2 ls [])) (fin := fun (r : Int32) => ∀ (ls : Array Slot) (H : Heap) (locs : List Loc), lv_has ls 4 [(0, .ref (adr 36)), (1, .int a0), (3, .int r)] → wH G A s.heap s (LL adr) (wf G adr M) H locs → W p l e { frames := 0, cells := 0, slots := 0, locals := 0 } s m args below meth c H locs 0 0 Q (F0 m 28 ls [])) ?_ n _ _ j3 ?_ _ _ _ (lv_sub hl [1, 2, 0] rfl) hw
  · clear h j3 hw hl
    intro v1 x h k1 k2 ls H locs hl hw
    (try dsimp only at k1 k2 hl hw ⊢)
    unfold l_X8_trim_2 at h
    (try dsimp only at h)
    refine lv_iload_n hx hb dX8_trim_2 rfl (lv_at hl 2 rfl) ?_
    refine lv_if_lt (tgt := 28) hx hb dX8_trim_3 (by decide) (fun hc => ?_) (fun hc => ?_)
    · replace h := ite_t hc h
      cases h
      exact k1 _ rfl _ _ _ (lv_sub hl [0, 1, 2] rfl) hw
    · replace h := ite_f hc h
      refine lv_aload_n hx hb dX8_trim_6 rfl (lv_at hl 0 rfl) ?_
      refine m_get (k := 36) (C := RX8) (T := TX8) (N := 18) (ref := "LiftFactorsModel") (v := .ref (adr 41)) hx hb hi hts inX8_u hown hw (by decide) rfl 7 (by decide) q_0 rfl rfl dX8_trim_7 ?_
      refine lv_bipush (v := (24 : Int32)) hx hb dX8_trim_10 (by decide) ?_
      refine lv_iload_n hx hb dX8_trim_12 rfl (lv_at hl 1 rfl) ?_
      refine lv_imul hx hb dX8_trim_13 ?_
      refine lv_iload_n hx hb dX8_trim_14 rfl (lv_at hl 2 rfl) ?_
      refine lv_iadd hx hb dX8_trim_15 ?_
      replace h := bnd h
      obtain ⟨v2, e2, h⟩ := h
      refine m_lald hx hb hi hw e2 dX8_trim_16 ?_
      refine lv_lconst (v := (0 : Int64)) hx hb dX8_trim_17 (by decide) ?_
      refine m_lcmp_ne (tgt := 28) hx hb dX8_trim_18 dX8_trim_19 (by decide) (fun hc => ?_) (fun hc => ?_)
      · replace h := ite_f hc h
        cases h
        exact k1 _ rfl _ _ _ (lv_sub hl [0, 1, 2] rfl) hw
      · replace h := ite_t hc h
        refine lv_iinc (v := v1 + (-1)) (lv' := [(3, .int (v1 + (-1))), (0, .ref (adr 36)), (1, .int a0)]) hx hb dX8_trim_22 hl (k := 2) rfl (inc_p _ (by decide)) (by decide) rfl (fun ls hl => ?_)
        refine lv_goto (tgt := 2) hx hb dX8_trim_25 (by decide) ?_
        cases h
        exact k2 _ rfl _ _ _ (lv_sub hl [1, 2, 0] rfl) hw
  · clear hw hl
    intro ls H locs hl hw
    (try dsimp only at hl hw ⊢)
    refine lv_aload_n hx hb dX8_trim_28 rfl (lv_at hl 0 rfl) ?_
    refine m_get (k := 36) (C := RX8) (T := TX8) (N := 18) (ref := "LiftFactorsModel") (v := .ref (adr 42)) hx hb hi hts inX8_u hown hw (by decide) rfl 8 (by decide) q_1 rfl rfl dX8_trim_29 ?_
    refine lv_iload_n hx hb dX8_trim_32 rfl (lv_at hl 1 rfl) ?_
    refine lv_iload_n hx hb dX8_trim_33 rfl (lv_at hl 2 rfl) ?_
    replace h := bnd h
    obtain ⟨v5, e5, h⟩ := h
    refine m_iast hx hb hi hw e5 dX8_trim_34 (fun H locs hw => ?_)
    cases h
    exact kr _ _ _ _ dX8_trim_35 hw
theorem cc_X8_trim {l : Launch} {G : gG} {adr : Nat → Nat} {sz : Nat} (hi : adi adr) {n : Nat} {a0 : Int32} {a1 : Int32} {M M' : Mem} (h : f_X8_trim n a0 a1 M = some M') : mV l yX8_trim cX8_trim 4 none { frames := 0, cells := 0, slots := 0, locals := 0 } G adr [.ref (adr 36), .int a0, .int a1] M sz M' := by
  refine wEnter (by decide) (Nat.le_of_ble_eq_true rfl) ?_
  intro p e s m below meth c ls cx hinit hl hsz hw
  exact b_X8_trim cx hi h (fun pc ls H locs hd hw => w_vret (post := fun (u : Mem) => u = M') (lf := fun u => (LL adr, wf G adr u)) cx.1 cx.2.1 cx.2.2.1 cx.2.2.2.2.2.2 M' hw rfl hd) hl hw
def f_X8_get (a0 : Int32) (a1 : Int32) (M : Mem) : Option Int64 :=
  Option.bind (ldI M 42 a0) fun v1 =>
  Option.bind (
    if a1 ≤ v1 then
      Option.bind (ldJ M 41 (((24 : Int32) * a0) + a1)) fun v2 =>
      some v2
    else
      some (0 : Int64)) fun v3 =>
  some v3
set_option maxRecDepth 100000 in
set_option maxHeartbeats 8000000 in
theorem b_X8_get {p : Program} {l : Launch} {e : Env} {s : State} {m : MethodId} {args : Array Value} {below : List Frame} {meth : Method} {c : Code} {Q : State → Prop} {G : gG} {A : Nat → Prop} {adr : Nat → Nat} (cx : cX p s m args meth c cX8_get (some .long) 3 yX8_get.cls) (hi : adi adr) {a0 : Int32} {a1 : Int32} {M : Mem} {r : Int64} 
    (h : f_X8_get a0 a1 M = some r)
    (kr : ∀ (pc : Nat) (ls : Array Slot) (H : Heap) (locs : List Loc), decode cX8_get pc = .ok (.lreturn, 1) → wH G A s.heap s (LL adr) (wf G adr M) H locs → W p l e { frames := 0, cells := 0, slots := 0, locals := 0 } s m args below meth c H locs 0 0 Q (F0 m pc ls [.long r]))
    {ls : Array Slot} {H : Heap} {locs : List Loc} (hl : lv_has ls 3 [(0, .ref (adr 36)), (1, .int a0), (2, .int a1)]) (hw : wH G A s.heap s (LL adr) (wf G adr M) H locs) : W p l e { frames := 0, cells := 0, slots := 0, locals := 0 } s m args below meth c H locs 0 0 Q (F0 m 0 ls []) := by
  obtain ⟨hx, hb, -, -, hown, hts, -⟩ := id cx
  have hown : s.vm.findClass RX8 = some m.cls := hown
  unfold f_X8_get at h
  refine lv_iload_n hx hb dX8_get_0 rfl (lv_at hl 2 rfl) ?_
  refine lv_aload_n hx hb dX8_get_1 rfl (lv_at hl 0 rfl) ?_
  refine m_get (k := 36) (C := RX8) (T := TX8) (N := 18) (ref := "LiftFactorsModel") (v := .ref (adr 42)) hx hb hi hts inX8_u hown hw (by decide) rfl 8 (by decide) q_1 rfl rfl dX8_get_2 ?_
  refine lv_iload_n hx hb dX8_get_5 rfl (lv_at hl 1 rfl) ?_
  replace h := bnd h
  obtain ⟨v1, e1, h⟩ := h
  refine m_iald hx hb hi hw e1 dX8_get_6 ?_
  replace h := bnd h
  obtain ⟨v3, j4, h⟩ := h
  have kj : ∀ (ls : Array Slot) (H : Heap) (locs : List Loc), lv_has ls 3 [] → wH G A s.heap s (LL adr) (wf G adr M) H locs → W p l e { frames := 0, cells := 0, slots := 0, locals := 0 } s m args below meth c H locs 0 0 Q (F0 m 25 ls [.long v3]) := by
    intro ls H locs hl hw
    cases h
    exact kr _ _ _ _ dX8_get_25 hw
  clear h
  replace h := j4
  clear j4
  refine lv_icmp_le (tgt := 14) hx hb dX8_get_7 (by decide) (fun hc => ?_) (fun hc => ?_)
  · replace h := ite_t hc h
    refine lv_aload_n hx hb dX8_get_14 rfl (lv_at hl 0 rfl) ?_
    refine m_get (k := 36) (C := RX8) (T := TX8) (N := 18) (ref := "LiftFactorsModel") (v := .ref (adr 41)) hx hb hi hts inX8_u hown hw (by decide) rfl 7 (by decide) q_0 rfl rfl dX8_get_15 ?_
    refine lv_bipush (v := (24 : Int32)) hx hb dX8_get_18 (by decide) ?_
    refine lv_iload_n hx hb dX8_get_20 rfl (lv_at hl 1 rfl) ?_
    refine lv_imul hx hb dX8_get_21 ?_
    refine lv_iload_n hx hb dX8_get_22 rfl (lv_at hl 2 rfl) ?_
    refine lv_iadd hx hb dX8_get_23 ?_
    replace h := bnd h
    obtain ⟨v2, e2, h⟩ := h
    refine m_lald hx hb hi hw e2 dX8_get_24 ?_
    cases h
    exact kj _ _ _ (lv_sub hl [] rfl) hw
  · replace h := ite_f hc h
    refine lv_lconst (v := (0 : Int64)) hx hb dX8_get_10 (by decide) ?_
    refine lv_goto (tgt := 25) hx hb dX8_get_11 (by decide) ?_
    cases h
    exact kj _ _ _ (lv_sub hl [] rfl) hw
theorem cc_X8_get {l : Launch} {G : gG} {adr : Nat → Nat} {sz : Nat} (hi : adi adr) {a0 : Int32} {a1 : Int32} {M : Mem} {r : Int64} (h : f_X8_get a0 a1 M = some r) : mL l yX8_get cX8_get 3 (some .long) { frames := 0, cells := 0, slots := 0, locals := 0 } G adr [.ref (adr 36), .int a0, .int a1] M sz r M := by
  refine wEnter (by decide) (Nat.le_of_ble_eq_true rfl) ?_
  intro p e s m below meth c ls cx hinit hl hsz hw
  exact b_X8_get cx hi h (fun pc ls H locs hd hw => w_lret (post := fun (r9 : Int64) (u : Mem) => r9 = r ∧ u = M) (lf := fun u => (LL adr, wf G adr u)) cx.1 cx.2.1 cx.2.2.1 cx.2.2.2.2.2.2 M hw ⟨rfl, rfl⟩ hd) hl hw
def l_X8_copy_2 (a0 : Int32) (a1 : Int32) : Mem × Int32 → Option ((Mem) ⊕ (Mem × Int32)) := fun (M1, v2) =>
  Option.bind (ldI M1 42 a0) fun v3 =>
  if v3 < v2 then
    some (.inl M1)
  else
    Option.bind (ldJ M1 41 (((24 : Int32) * a0) + v2)) fun v4 =>
    Option.bind (stJ M1 41 (((24 : Int32) * a1) + v2) v4) fun v5 =>
    some (.inr (v5, v2 + 1))
def f_X8_copy (n : Nat) (a0 : Int32) (a1 : Int32) (M : Mem) : Option Mem :=
  Option.bind (lpF (l_X8_copy_2 a0 a1) n (M, (0 : Int32))) fun M7 =>
  Option.bind (ldI M7 42 a0) fun v8 =>
  Option.bind (stI M7 42 a1 v8) fun v9 =>
  some v9
set_option maxRecDepth 100000 in
set_option maxHeartbeats 8000000 in
theorem b_X8_copy {p : Program} {l : Launch} {e : Env} {s : State} {m : MethodId} {args : Array Value} {below : List Frame} {meth : Method} {c : Code} {Q : State → Prop} {G : gG} {A : Nat → Prop} {adr : Nat → Nat} (cx : cX p s m args meth c cX8_copy none 4 yX8_copy.cls) (hi : adi adr) {n : Nat} {a0 : Int32} {a1 : Int32} {M M' : Mem} 
    (h : f_X8_copy n a0 a1 M = some M')
    (kr : ∀ (pc : Nat) (ls : Array Slot) (H : Heap) (locs : List Loc), decode cX8_copy pc = .ok (.return_, 1) → wH G A s.heap s (LL adr) (wf G adr M') H locs → W p l e { frames := 0, cells := 0, slots := 0, locals := 0 } s m args below meth c H locs 0 0 Q (F0 m pc ls []))
    {ls : Array Slot} {H : Heap} {locs : List Loc} (hl : lv_has ls 4 [(0, .ref (adr 36)), (1, .int a0), (2, .int a1)]) (hw : wH G A s.heap s (LL adr) (wf G adr M) H locs) : W p l e { frames := 0, cells := 0, slots := 0, locals := 0 } s m args below meth c H locs 0 0 Q (F0 m 0 ls []) := by
  obtain ⟨hx, hb, -, -, hown, hts, -⟩ := id cx
  have hown : s.vm.findClass RX8 = some m.cls := hown
  unfold f_X8_copy at h
  refine lv_iconst (v := (0 : Int32)) hx hb dX8_copy_0 (by decide) ?_
  refine lv_istore_n (lv' := [(3, .int (0 : Int32)), (0, .ref (adr 36)), (1, .int a0), (2, .int a1)]) hx hb dX8_copy_1 rfl hl (by decide) rfl (fun ls hl => ?_)
  replace h := bnd h
  obtain ⟨M7, j6, h⟩ := h
  refine lp_W (Wst := fun (st : Mem × Int32) => ∀ (ls : Array Slot) (H : Heap) (locs : List Loc), lv_has ls 4 [(0, .ref (adr 36)), (1, .int a0), (2, .int a1), (3, .int st.2)] → wH G A s.heap s (LL adr) (wf G adr st.1) H locs → W p l e { frames := 0, cells := 0, slots := 0, locals := 0 } s m args below meth c H locs 0 0 Q (F0 m 2 ls [])) (fin := fun (r : Mem) => ∀ (ls : Array Slot) (H : Heap) (locs : List Loc), lv_has ls 4 [(0, .ref (adr 36)), (1, .int a0), (2, .int a1)] → wH G A s.heap s (LL adr) (wf G adr r) H locs → W p l e { frames := 0, cells := 0, slots := 0, locals := 0 } s m args below meth c H locs 0 0 Q (F0 m 40 ls [])) ?_ n _ _ j6 ?_ _ _ _ (lv_sub hl [1, 2, 3, 0] rfl) hw
  · clear h j6 hw hl
    intro ⟨M1, v2⟩ x h k1 k2 ls H locs hl hw
    (try dsimp only at k1 k2 hl hw ⊢)
    unfold l_X8_copy_2 at h
    (try dsimp only at h)
    refine lv_iload_n hx hb dX8_copy_2 rfl (lv_at hl 3 rfl) ?_
    refine lv_aload_n hx hb dX8_copy_3 rfl (lv_at hl 0 rfl) ?_
    refine m_get (k := 36) (C := RX8) (T := TX8) (N := 18) (ref := "LiftFactorsModel") (v := .ref (adr 42)) hx hb hi hts inX8_u hown hw (by decide) rfl 8 (by decide) q_1 rfl rfl dX8_copy_4 ?_
    refine lv_iload_n hx hb dX8_copy_7 rfl (lv_at hl 1 rfl) ?_
    replace h := bnd h
    obtain ⟨v3, e3, h⟩ := h
    refine m_iald hx hb hi hw e3 dX8_copy_8 ?_
    refine lv_icmp_gt (tgt := 40) hx hb dX8_copy_9 (by decide) (fun hc => ?_) (fun hc => ?_)
    · replace h := ite_t hc h
      cases h
      exact k1 _ rfl _ _ _ (lv_sub hl [0, 1, 2] rfl) hw
    · replace h := ite_f hc h
      refine lv_aload_n hx hb dX8_copy_12 rfl (lv_at hl 0 rfl) ?_
      refine m_get (k := 36) (C := RX8) (T := TX8) (N := 18) (ref := "LiftFactorsModel") (v := .ref (adr 41)) hx hb hi hts inX8_u hown hw (by decide) rfl 7 (by decide) q_0 rfl rfl dX8_copy_13 ?_
      refine lv_bipush (v := (24 : Int32)) hx hb dX8_copy_16 (by decide) ?_
      refine lv_iload_n hx hb dX8_copy_18 rfl (lv_at hl 2 rfl) ?_
      refine lv_imul hx hb dX8_copy_19 ?_
      refine lv_iload_n hx hb dX8_copy_20 rfl (lv_at hl 3 rfl) ?_
      refine lv_iadd hx hb dX8_copy_21 ?_
      refine lv_aload_n hx hb dX8_copy_22 rfl (lv_at hl 0 rfl) ?_
      refine m_get (k := 36) (C := RX8) (T := TX8) (N := 18) (ref := "LiftFactorsModel") (v := .ref (adr 41)) hx hb hi hts inX8_u hown hw (by decide) rfl 7 (by decide) q_0 rfl rfl dX8_copy_23 ?_
      refine lv_bipush (v := (24 : Int32)) hx hb dX8_copy_26 (by decide) ?_
      refine lv_iload_n hx hb dX8_copy_28 rfl (lv_at hl 1 rfl) ?_
      refine lv_imul hx hb dX8_copy_29 ?_
      refine lv_iload_n hx hb dX8_copy_30 rfl (lv_at hl 3 rfl) ?_
      refine lv_iadd hx hb dX8_copy_31 ?_
      replace h := bnd h
      obtain ⟨v4, e4, h⟩ := h
      refine m_lald hx hb hi hw e4 dX8_copy_32 ?_
      replace h := bnd h
      obtain ⟨v5, e5, h⟩ := h
      refine m_last hx hb hi hw e5 dX8_copy_33 (fun H locs hw => ?_)
      refine lv_iinc (v := v2 + 1) (lv' := [(3, .int (v2 + 1)), (0, .ref (adr 36)), (1, .int a0), (2, .int a1)]) hx hb dX8_copy_34 hl (k := 3) rfl (inc_p _ (by decide)) (by decide) rfl (fun ls hl => ?_)
      refine lv_goto (tgt := 2) hx hb dX8_copy_37 (by decide) ?_
      cases h
      exact k2 _ rfl _ _ _ (lv_sub hl [1, 2, 3, 0] rfl) hw
  · clear hw hl
    intro ls H locs hl hw
    (try dsimp only at hl hw ⊢)
    refine lv_aload_n hx hb dX8_copy_40 rfl (lv_at hl 0 rfl) ?_
    refine m_get (k := 36) (C := RX8) (T := TX8) (N := 18) (ref := "LiftFactorsModel") (v := .ref (adr 42)) hx hb hi hts inX8_u hown hw (by decide) rfl 8 (by decide) q_1 rfl rfl dX8_copy_41 ?_
    refine lv_iload_n hx hb dX8_copy_44 rfl (lv_at hl 2 rfl) ?_
    refine lv_aload_n hx hb dX8_copy_45 rfl (lv_at hl 0 rfl) ?_
    refine m_get (k := 36) (C := RX8) (T := TX8) (N := 18) (ref := "LiftFactorsModel") (v := .ref (adr 42)) hx hb hi hts inX8_u hown hw (by decide) rfl 8 (by decide) q_1 rfl rfl dX8_copy_46 ?_
    refine lv_iload_n hx hb dX8_copy_49 rfl (lv_at hl 1 rfl) ?_
    replace h := bnd h
    obtain ⟨v8, e8, h⟩ := h
    refine m_iald hx hb hi hw e8 dX8_copy_50 ?_
    replace h := bnd h
    obtain ⟨v9, e9, h⟩ := h
    refine m_iast hx hb hi hw e9 dX8_copy_51 (fun H locs hw => ?_)
    cases h
    exact kr _ _ _ _ dX8_copy_52 hw
theorem cc_X8_copy {l : Launch} {G : gG} {adr : Nat → Nat} {sz : Nat} (hi : adi adr) {n : Nat} {a0 : Int32} {a1 : Int32} {M M' : Mem} (h : f_X8_copy n a0 a1 M = some M') : mV l yX8_copy cX8_copy 4 none { frames := 0, cells := 0, slots := 0, locals := 0 } G adr [.ref (adr 36), .int a0, .int a1] M sz M' := by
  refine wEnter (by decide) (Nat.le_of_ble_eq_true rfl) ?_
  intro p e s m below meth c ls cx hinit hl hsz hw
  exact b_X8_copy cx hi h (fun pc ls H locs hd hw => w_vret (post := fun (u : Mem) => u = M') (lf := fun u => (LL adr, wf G adr u)) cx.1 cx.2.1 cx.2.2.1 cx.2.2.2.2.2.2 M' hw rfl hd) hl hw
def f_X8_constant (a0 : Int32) (a1 : Int64) (M : Mem) : Option Mem :=
  Option.bind (stJ M 41 ((24 : Int32) * a0) a1) fun v1 =>
  Option.bind (
    if a1 = (0 : Int64) then
      some (-1 : Int32)
    else
      some (0 : Int32)) fun v2 =>
  Option.bind (stI v1 42 a0 v2) fun v3 =>
  some v3
set_option maxRecDepth 100000 in
set_option maxHeartbeats 8000000 in
theorem b_X8_constant {p : Program} {l : Launch} {e : Env} {s : State} {m : MethodId} {args : Array Value} {below : List Frame} {meth : Method} {c : Code} {Q : State → Prop} {G : gG} {A : Nat → Prop} {adr : Nat → Nat} (cx : cX p s m args meth c cX8_constant none 4 yX8_constant.cls) (hi : adi adr) {a0 : Int32} {a1 : Int64} {M M' : Mem} 
    (h : f_X8_constant a0 a1 M = some M')
    (kr : ∀ (pc : Nat) (ls : Array Slot) (H : Heap) (locs : List Loc), decode cX8_constant pc = .ok (.return_, 1) → wH G A s.heap s (LL adr) (wf G adr M') H locs → W p l e { frames := 0, cells := 0, slots := 0, locals := 0 } s m args below meth c H locs 0 0 Q (F0 m pc ls []))
    {ls : Array Slot} {H : Heap} {locs : List Loc} (hl : lv_has ls 4 [(0, .ref (adr 36)), (1, .int a0), (2, .long a1)]) (hw : wH G A s.heap s (LL adr) (wf G adr M) H locs) : W p l e { frames := 0, cells := 0, slots := 0, locals := 0 } s m args below meth c H locs 0 0 Q (F0 m 0 ls []) := by
  obtain ⟨hx, hb, -, -, hown, hts, -⟩ := id cx
  have hown : s.vm.findClass RX8 = some m.cls := hown
  unfold f_X8_constant at h
  refine lv_aload_n hx hb dX8_constant_0 rfl (lv_at hl 0 rfl) ?_
  refine m_get (k := 36) (C := RX8) (T := TX8) (N := 18) (ref := "LiftFactorsModel") (v := .ref (adr 41)) hx hb hi hts inX8_u hown hw (by decide) rfl 7 (by decide) q_0 rfl rfl dX8_constant_1 ?_
  refine lv_bipush (v := (24 : Int32)) hx hb dX8_constant_4 (by decide) ?_
  refine lv_iload_n hx hb dX8_constant_6 rfl (lv_at hl 1 rfl) ?_
  refine lv_imul hx hb dX8_constant_7 ?_
  refine lv_lload_n hx hb dX8_constant_8 rfl (lv_at hl 2 rfl) ?_
  replace h := bnd h
  obtain ⟨v1, e1, h⟩ := h
  refine m_last hx hb hi hw e1 dX8_constant_9 (fun H locs hw => ?_)
  refine lv_aload_n hx hb dX8_constant_10 rfl (lv_at hl 0 rfl) ?_
  refine m_get (k := 36) (C := RX8) (T := TX8) (N := 18) (ref := "LiftFactorsModel") (v := .ref (adr 42)) hx hb hi hts inX8_u hown hw (by decide) rfl 8 (by decide) q_1 rfl rfl dX8_constant_11 ?_
  refine lv_iload_n hx hb dX8_constant_14 rfl (lv_at hl 1 rfl) ?_
  refine lv_lload_n hx hb dX8_constant_15 rfl (lv_at hl 2 rfl) ?_
  refine lv_lconst (v := (0 : Int64)) hx hb dX8_constant_16 (by decide) ?_
  replace h := bnd h
  obtain ⟨v2, j4, h⟩ := h
  have kj : ∀ (ls : Array Slot) (H : Heap) (locs : List Loc), lv_has ls 4 [] → wH G A s.heap s (LL adr) (wf G adr v1) H locs → W p l e { frames := 0, cells := 0, slots := 0, locals := 0 } s m args below meth c H locs 0 0 Q (F0 m 26 ls [.int v2, .int a0, .ref (adr 42)]) := by
    intro ls H locs hl hw
    replace h := bnd h
    obtain ⟨v3, e3, h⟩ := h
    refine m_iast hx hb hi hw e3 dX8_constant_26 (fun H locs hw => ?_)
    cases h
    exact kr _ _ _ _ dX8_constant_27 hw
  clear h
  replace h := j4
  clear j4
  refine m_lcmp_ne (tgt := 25) hx hb dX8_constant_17 dX8_constant_18 (by decide) (fun hc => ?_) (fun hc => ?_)
  · replace h := ite_f hc h
    refine lv_iconst (v := (0 : Int32)) hx hb dX8_constant_25 (by decide) ?_
    cases h
    exact kj _ _ _ (lv_sub hl [] rfl) hw
  · replace h := ite_t hc h
    refine lv_iconst (v := (-1 : Int32)) hx hb dX8_constant_21 (by decide) ?_
    refine lv_goto (tgt := 26) hx hb dX8_constant_22 (by decide) ?_
    cases h
    exact kj _ _ _ (lv_sub hl [] rfl) hw
theorem cc_X8_constant {l : Launch} {G : gG} {adr : Nat → Nat} {sz : Nat} (hi : adi adr) {a0 : Int32} {a1 : Int64} {M M' : Mem} (h : f_X8_constant a0 a1 M = some M') : mV l yX8_constant cX8_constant 4 none { frames := 0, cells := 0, slots := 0, locals := 0 } G adr [.ref (adr 36), .int a0, .long a1] M sz M' := by
  refine wEnter (by decide) (Nat.le_of_ble_eq_true rfl) ?_
  intro p e s m below meth c ls cx hinit hl hsz hw
  exact b_X8_constant cx hi h (fun pc ls H locs hd hw => w_vret (post := fun (u : Mem) => u = M') (lf := fun u => (LL adr, wf G adr u)) cx.1 cx.2.1 cx.2.2.1 cx.2.2.2.2.2.2 M' hw rfl hd) hl hw
def f_X8_abs (a0 : Int64) : Option Int64 :=
  Option.bind (
    if (0 : Int64) ≤ a0 then
      some a0
    else
      some (-a0)) fun v1 =>
  some v1
set_option maxRecDepth 100000 in
set_option maxHeartbeats 8000000 in
theorem b_X8_abs {p : Program} {l : Launch} {e : Env} {s : State} {m : MethodId} {args : Array Value} {below : List Frame} {meth : Method} {c : Code} {Q : State → Prop} {G : gG} {A : Nat → Prop} {adr : Nat → Nat} (cx : cX p s m args meth c cX8_abs (some .long) 2 yX8_abs.cls) (hi : adi adr) {a0 : Int64} {M : Mem} {r : Int64} 
    (h : f_X8_abs a0 = some r)
    (kr : ∀ (pc : Nat) (ls : Array Slot) (H : Heap) (locs : List Loc), decode cX8_abs pc = .ok (.lreturn, 1) → wH G A s.heap s (LL adr) (wf G adr M) H locs → W p l e { frames := 0, cells := 0, slots := 0, locals := 0 } s m args below meth c H locs 0 0 Q (F0 m pc ls [.long r]))
    {ls : Array Slot} {H : Heap} {locs : List Loc} (hl : lv_has ls 2 [(0, .long a0)]) (hw : wH G A s.heap s (LL adr) (wf G adr M) H locs) : W p l e { frames := 0, cells := 0, slots := 0, locals := 0 } s m args below meth c H locs 0 0 Q (F0 m 0 ls []) := by
  obtain ⟨hx, hb, -, -, hown, hts, -⟩ := id cx
  have hown : s.vm.findClass RX8 = some m.cls := hown
  unfold f_X8_abs at h
  refine lv_lload_n hx hb dX8_abs_0 rfl (lv_at hl 0 rfl) ?_
  refine lv_lconst (v := (0 : Int64)) hx hb dX8_abs_1 (by decide) ?_
  replace h := bnd h
  obtain ⟨v1, j2, h⟩ := h
  have kj : ∀ (ls : Array Slot) (H : Heap) (locs : List Loc), lv_has ls 2 [] → wH G A s.heap s (LL adr) (wf G adr M) H locs → W p l e { frames := 0, cells := 0, slots := 0, locals := 0 } s m args below meth c H locs 0 0 Q (F0 m 12 ls [.long v1]) := by
    intro ls H locs hl hw
    cases h
    exact kr _ _ _ _ dX8_abs_12 hw
  clear h
  replace h := j2
  clear j2
  refine m_lcmp_ge (tgt := 11) hx hb dX8_abs_2 dX8_abs_3 (by decide) (fun hc => ?_) (fun hc => ?_)
  · replace h := ite_t hc h
    refine lv_lload_n hx hb dX8_abs_11 rfl (lv_at hl 0 rfl) ?_
    cases h
    exact kj _ _ _ (lv_sub hl [] rfl) hw
  · replace h := ite_f hc h
    refine lv_lload_n hx hb dX8_abs_6 rfl (lv_at hl 0 rfl) ?_
    refine lv_lneg hx hb dX8_abs_7 ?_
    refine lv_goto (tgt := 12) hx hb dX8_abs_8 (by decide) ?_
    cases h
    exact kj _ _ _ (lv_sub hl [] rfl) hw
theorem cc_X8_abs {l : Launch} {G : gG} {adr : Nat → Nat} {sz : Nat} (hi : adi adr) {a0 : Int64} {M : Mem} {r : Int64} (h : f_X8_abs a0 = some r) : mL l yX8_abs cX8_abs 2 (some .long) { frames := 0, cells := 0, slots := 0, locals := 0 } G adr [.long a0] M sz r M := by
  refine wEnter (by decide) (Nat.le_of_ble_eq_true rfl) ?_
  intro p e s m below meth c ls cx hinit hl hsz hw
  exact b_X8_abs cx hi h (fun pc ls H locs hd hw => w_lret (post := fun (r9 : Int64) (u : Mem) => r9 = r ∧ u = M) (lf := fun u => (LL adr, wf G adr u)) cx.1 cx.2.1 cx.2.2.1 cx.2.2.2.2.2.2 M hw ⟨rfl, rfl⟩ hd) hl hw
theorem q_2 : Cond.methodLink RX8 49 yX8_abs ∈ uU := uU_in (by decide +kernel) (by decide +kernel)
theorem q_3 : Cond.static yX8_abs ∈ uU := uU_in (by decide +kernel) (by decide +kernel)
theorem q_4 : Cond.initialized yX8_abs.cls ∈ uU := uU_in (by decide +kernel) (by decide +kernel)
theorem q_5 : Cond.code yX8_abs cX8_abs 2 (some .long) ∈ uU := uU_in (by decide +kernel) (by decide +kernel)
def l_X8_common_12 : Int64 × Int64 → Option ((Int64) ⊕ (Int64 × Int64)) := fun (v3, v4) =>
  if v4 = (0 : Int64) then
    some (.inl v3)
  else
    Option.bind (rmJ v3 v4) fun v5 =>
    some (.inr (v4, v5))
def f_X8_common (n : Nat) (a0 : Int64) (a1 : Int64) : Option Int64 :=
  Option.bind (f_X8_abs a0) fun v1 =>
  Option.bind (f_X8_abs a1) fun v2 =>
  Option.bind (lpF (l_X8_common_12) n (v1, v2)) fun v7 =>
  some v7
set_option maxRecDepth 100000 in
set_option maxHeartbeats 8000000 in
theorem b_X8_common {p : Program} {l : Launch} {e : Env} {s : State} {m : MethodId} {args : Array Value} {below : List Frame} {meth : Method} {c : Code} {Q : State → Prop} {G : gG} {A : Nat → Prop} {adr : Nat → Nat} (cx : cX p s m args meth c cX8_common (some .long) 10 yX8_common.cls) (hi : adi adr) {n : Nat} {a0 : Int64} {a1 : Int64} {M : Mem} {r : Int64} 
    (h : f_X8_common n a0 a1 = some r)
    (kr : ∀ (pc : Nat) (ls : Array Slot) (H : Heap) (locs : List Loc), decode cX8_common pc = .ok (.lreturn, 1) → wH G A s.heap s (LL adr) (wf G adr M) H locs → W p l e { frames := 1, cells := 0, slots := 0, locals := 21 } s m args below meth c H locs 0 0 Q (F0 m pc ls [.long r]))
    {ls : Array Slot} {H : Heap} {locs : List Loc} (hl : lv_has ls 10 [(0, .long a0), (2, .long a1)]) (hw : wH G A s.heap s (LL adr) (wf G adr M) H locs) : W p l e { frames := 1, cells := 0, slots := 0, locals := 21 } s m args below meth c H locs 0 0 Q (F0 m 0 ls []) := by
  obtain ⟨hx, hb, -, -, hown, hts, -⟩ := id cx
  have hown : s.vm.findClass RX8 = some m.cls := hown
  unfold f_X8_common at h
  refine lv_lload_n hx hb dX8_common_0 rfl (lv_at hl 0 rfl) ?_
  replace h := bnd h
  obtain ⟨v1, e1, h⟩ := h
  refine m_callSl (As := [.long a0]) (rest := []) cx.fix hw (cc_X8_abs (l := l) (G := G) (sz := H.size) (M := M) hi e1) (w_cS 1 hts q_2 q_3 q_4 q_5 rfl rfl (by decide) (by decide)) hl.1 rfl (lv_room (Nat.le_of_ble_eq_true rfl)) dX8_common_1 (fun H locs hw => ?_)
  refine lv_lstore (lv' := [(4, .long v1), (0, .long a0), (2, .long a1)]) hx hb dX8_common_4 hl (by decide) rfl (fun ls hl => ?_)
  refine lv_lload_n hx hb dX8_common_6 rfl (lv_at hl 2 rfl) ?_
  replace h := bnd h
  obtain ⟨v2, e2, h⟩ := h
  refine m_callSl (As := [.long a1]) (rest := []) cx.fix hw (cc_X8_abs (l := l) (G := G) (sz := H.size) (M := M) hi e2) (w_cS 1 hts q_2 q_3 q_4 q_5 rfl rfl (by decide) (by decide)) hl.1 rfl (lv_room (Nat.le_of_ble_eq_true rfl)) dX8_common_7 (fun H locs hw => ?_)
  refine lv_lstore (lv' := [(6, .long v2), (4, .long v1), (0, .long a0), (2, .long a1)]) hx hb dX8_common_10 hl (by decide) rfl (fun ls hl => ?_)
  replace h := bnd h
  obtain ⟨v7, j6, h⟩ := h
  refine lp_W (Wst := fun (st : Int64 × Int64) => ∀ (ls : Array Slot) (H : Heap) (locs : List Loc), lv_has ls 10 [(4, .long st.1), (6, .long st.2)] → wH G A s.heap s (LL adr) (wf G adr M) H locs → W p l e { frames := 1, cells := 0, slots := 0, locals := 21 } s m args below meth c H locs 0 0 Q (F0 m 12 ls [])) (fin := fun (r : Int64) => ∀ (ls : Array Slot) (H : Heap) (locs : List Loc), lv_has ls 10 [(4, .long r)] → wH G A s.heap s (LL adr) (wf G adr M) H locs → W p l e { frames := 1, cells := 0, slots := 0, locals := 21 } s m args below meth c H locs 0 0 Q (F0 m 37 ls [])) ?_ n _ _ j6 ?_ _ _ _ (lv_sub hl [1, 0] rfl) hw
  · clear h j6 hw hl
    intro ⟨v3, v4⟩ x h k1 k2 ls H locs hl hw
    (try dsimp only at k1 k2 hl hw ⊢)
    unfold l_X8_common_12 at h
    (try dsimp only at h)
    refine lv_lload hx hb dX8_common_12 (lv_at hl 1 rfl) ?_
    refine lv_lconst (v := (0 : Int64)) hx hb dX8_common_14 (by decide) ?_
    refine m_lcmp_eq (tgt := 37) hx hb dX8_common_15 dX8_common_16 (by decide) (fun hc => ?_) (fun hc => ?_)
    · replace h := ite_t hc h
      cases h
      exact k1 _ rfl _ _ _ (lv_sub hl [0] rfl) hw
    · replace h := ite_f hc h
      refine lv_lload hx hb dX8_common_19 (lv_at hl 0 rfl) ?_
      refine lv_lload hx hb dX8_common_21 (lv_at hl 1 rfl) ?_
      replace h := bnd h
      obtain ⟨v5, e5, h⟩ := h
      obtain ⟨ne5, rfl⟩ := rmJ_ok e5
      refine lv_lrem hx hb dX8_common_23 ne5 ?_
      obtain ⟨v5, e5⟩ : ∃ z9, z9 = v3 - v3 / v4 * v4 := ⟨_, rfl⟩
      rw [← e5] at h ⊢
      refine lv_lstore (lv' := [(8, .long v5), (4, .long v3), (6, .long v4)]) hx hb dX8_common_24 hl (by decide) rfl (fun ls hl => ?_)
      refine lv_lload hx hb dX8_common_26 (lv_at hl 2 rfl) ?_
      refine lv_lstore (lv' := [(4, .long v4), (8, .long v5), (6, .long v4)]) hx hb dX8_common_28 hl (by decide) rfl (fun ls hl => ?_)
      refine lv_lload hx hb dX8_common_30 (lv_at hl 1 rfl) ?_
      refine lv_lstore (lv' := [(6, .long v5), (4, .long v4), (8, .long v5)]) hx hb dX8_common_32 hl (by decide) rfl (fun ls hl => ?_)
      refine lv_goto (tgt := 12) hx hb dX8_common_34 (by decide) ?_
      cases h
      exact k2 _ rfl _ _ _ (lv_sub hl [1, 0] rfl) hw
  · clear hw hl
    intro ls H locs hl hw
    (try dsimp only at hl hw ⊢)
    refine lv_lload hx hb dX8_common_37 (lv_at hl 0 rfl) ?_
    cases h
    exact kr _ _ _ _ dX8_common_39 hw
theorem cc_X8_common {l : Launch} {G : gG} {adr : Nat → Nat} {sz : Nat} (hi : adi adr) {n : Nat} {a0 : Int64} {a1 : Int64} {M : Mem} {r : Int64} (h : f_X8_common n a0 a1 = some r) : mL l yX8_common cX8_common 10 (some .long) { frames := 1, cells := 0, slots := 0, locals := 21 } G adr [.long a0, .long a1] M sz r M := by
  refine wEnter (by decide) (Nat.le_of_ble_eq_true rfl) ?_
  intro p e s m below meth c ls cx hinit hl hsz hw
  exact b_X8_common cx hi h (fun pc ls H locs hd hw => w_lret (post := fun (r9 : Int64) (u : Mem) => r9 = r ∧ u = M) (lf := fun u => (LL adr, wf G adr u)) cx.1 cx.2.1 cx.2.2.1 cx.2.2.2.2.2.2 M hw ⟨rfl, rfl⟩ hd) hl hw
theorem q_6 : Cond.methodLink RX8 53 yX8_common ∈ uU := uU_in (by decide +kernel) (by decide +kernel)
theorem q_7 : Cond.static yX8_common ∈ uU := uU_in (by decide +kernel) (by decide +kernel)
theorem q_8 : Cond.initialized yX8_common.cls ∈ uU := uU_in (by decide +kernel) (by decide +kernel)
theorem q_9 : Cond.code yX8_common cX8_common 10 (some .long) ∈ uU := uU_in (by decide +kernel) (by decide +kernel)
def l_X8_primitive_5 (n : Nat) (a0 : Int32) (M : Mem) : Int64 × Int32 → Option ((Int64) ⊕ (Int64 × Int32)) := fun (v1, v2) =>
  Option.bind (ldI M 42 a0) fun v3 =>
  if v3 < v2 then
    some (.inl v1)
  else
    Option.bind (ldJ M 41 (((24 : Int32) * a0) + v2)) fun v4 =>
    Option.bind (f_X8_common n v1 v4) fun v5 =>
    some (.inr (v5, v2 + 1))
def l_X8_primitive_74 (a0 : Int32) (v10 : Int64) : Mem × Int32 → Option ((Mem) ⊕ (Mem × Int32)) := fun (M11, v12) =>
  Option.bind (ldI M11 42 a0) fun v13 =>
  if v13 < v12 then
    some (.inl M11)
  else
    Option.bind (ldJ M11 41 (((24 : Int32) * a0) + v12)) fun v14 =>
    Option.bind (dvJ v14 v10) fun v15 =>
    Option.bind (stJ M11 41 (((24 : Int32) * a0) + v12) v15) fun v16 =>
    some (.inr (v16, v12 + 1))
def f_X8_primitive (n : Nat) (a0 : Int32) (M : Mem) : Option (Int64 × Mem) :=
  Option.bind (lpF (l_X8_primitive_5 n a0 M) n ((0 : Int64), (0 : Int32))) fun v7 =>
  if v7 = (0 : Int64) then
    some ((0 : Int64), M)
  else
    Option.bind (ldI M 42 a0) fun v8 =>
    Option.bind (ldJ M 41 (((24 : Int32) * a0) + v8)) fun v9 =>
    Option.bind (
      if (0 : Int64) ≤ v9 then
        some v7
      else
        some (-v7)) fun v10 =>
    Option.bind (lpF (l_X8_primitive_74 a0 v10) n (M, (0 : Int32))) fun M18 =>
    some (v10, M18)
set_option maxRecDepth 100000 in
set_option maxHeartbeats 8000000 in
theorem b_X8_primitive {p : Program} {l : Launch} {e : Env} {s : State} {m : MethodId} {args : Array Value} {below : List Frame} {meth : Method} {c : Code} {Q : State → Prop} {G : gG} {A : Nat → Prop} {adr : Nat → Nat} (cx : cX p s m args meth c cX8_primitive (some .long) 5 yX8_primitive.cls) (hi : adi adr) {n : Nat} {a0 : Int32} {M M' : Mem} {r : Int64} 
    (h : f_X8_primitive n a0 M = some (r, M'))
    (kr : ∀ (pc : Nat) (ls : Array Slot) (H : Heap) (locs : List Loc), decode cX8_primitive pc = .ok (.lreturn, 1) → wH G A s.heap s (LL adr) (wf G adr M') H locs → W p l e { frames := 2, cells := 0, slots := 0, locals := 50 } s m args below meth c H locs 0 0 Q (F0 m pc ls [.long r]))
    {ls : Array Slot} {H : Heap} {locs : List Loc} (hl : lv_has ls 5 [(0, .ref (adr 36)), (1, .int a0)]) (hw : wH G A s.heap s (LL adr) (wf G adr M) H locs) : W p l e { frames := 2, cells := 0, slots := 0, locals := 50 } s m args below meth c H locs 0 0 Q (F0 m 0 ls []) := by
  obtain ⟨hx, hb, -, -, hown, hts, -⟩ := id cx
  have hown : s.vm.findClass RX8 = some m.cls := hown
  unfold f_X8_primitive at h
  refine lv_lconst (v := (0 : Int64)) hx hb dX8_primitive_0 (by decide) ?_
  refine lv_lstore_n (lv' := [(2, .long (0 : Int64)), (0, .ref (adr 36)), (1, .int a0)]) hx hb dX8_primitive_1 rfl hl (by decide) rfl (fun ls hl => ?_)
  refine lv_iconst (v := (0 : Int32)) hx hb dX8_primitive_2 (by decide) ?_
  refine lv_istore (lv' := [(4, .int (0 : Int32)), (2, .long (0 : Int64)), (0, .ref (adr 36)), (1, .int a0)]) hx hb dX8_primitive_3 hl (by decide) rfl (fun ls hl => ?_)
  replace h := bnd h
  obtain ⟨v7, j6, h⟩ := h
  refine lp_W (Wst := fun (st : Int64 × Int32) => ∀ (ls : Array Slot) (H : Heap) (locs : List Loc), lv_has ls 5 [(0, .ref (adr 36)), (1, .int a0), (2, .long st.1), (4, .int st.2)] → wH G A s.heap s (LL adr) (wf G adr M) H locs → W p l e { frames := 2, cells := 0, slots := 0, locals := 50 } s m args below meth c H locs 0 0 Q (F0 m 5 ls [])) (fin := fun (r : Int64) => ∀ (ls : Array Slot) (H : Heap) (locs : List Loc), lv_has ls 5 [(0, .ref (adr 36)), (1, .int a0), (2, .long r)] → wH G A s.heap s (LL adr) (wf G adr M) H locs → W p l e { frames := 2, cells := 0, slots := 0, locals := 50 } s m args below meth c H locs 0 0 Q (F0 m 39 ls [])) ?_ n _ _ j6 ?_ _ _ _ (lv_sub hl [2, 3, 1, 0] rfl) hw
  · clear h j6 hw hl
    intro ⟨v1, v2⟩ x h k1 k2 ls H locs hl hw
    (try dsimp only at k1 k2 hl hw ⊢)
    unfold l_X8_primitive_5 at h
    (try dsimp only at h)
    refine lv_iload hx hb dX8_primitive_5 (lv_at hl 3 rfl) ?_
    refine lv_aload_n hx hb dX8_primitive_7 rfl (lv_at hl 0 rfl) ?_
    refine m_get (k := 36) (C := RX8) (T := TX8) (N := 18) (ref := "LiftFactorsModel") (v := .ref (adr 42)) hx hb hi hts inX8_u hown hw (by decide) rfl 8 (by decide) q_1 rfl rfl dX8_primitive_8 ?_
    refine lv_iload_n hx hb dX8_primitive_11 rfl (lv_at hl 1 rfl) ?_
    replace h := bnd h
    obtain ⟨v3, e3, h⟩ := h
    refine m_iald hx hb hi hw e3 dX8_primitive_12 ?_
    refine lv_icmp_gt (tgt := 39) hx hb dX8_primitive_13 (by decide) (fun hc => ?_) (fun hc => ?_)
    · replace h := ite_t hc h
      cases h
      exact k1 _ rfl _ _ _ (lv_sub hl [0, 1, 2] rfl) hw
    · replace h := ite_f hc h
      refine lv_lload_n hx hb dX8_primitive_16 rfl (lv_at hl 2 rfl) ?_
      refine lv_aload_n hx hb dX8_primitive_17 rfl (lv_at hl 0 rfl) ?_
      refine m_get (k := 36) (C := RX8) (T := TX8) (N := 18) (ref := "LiftFactorsModel") (v := .ref (adr 41)) hx hb hi hts inX8_u hown hw (by decide) rfl 7 (by decide) q_0 rfl rfl dX8_primitive_18 ?_
      refine lv_bipush (v := (24 : Int32)) hx hb dX8_primitive_21 (by decide) ?_
      refine lv_iload_n hx hb dX8_primitive_23 rfl (lv_at hl 1 rfl) ?_
      refine lv_imul hx hb dX8_primitive_24 ?_
      refine lv_iload hx hb dX8_primitive_25 (lv_at hl 3 rfl) ?_
      refine lv_iadd hx hb dX8_primitive_27 ?_
      replace h := bnd h
      obtain ⟨v4, e4, h⟩ := h
      refine m_lald hx hb hi hw e4 dX8_primitive_28 ?_
      replace h := bnd h
      obtain ⟨v5, e5, h⟩ := h
      refine m_callSl (As := [.long v1, .long v4]) (rest := []) cx.fix hw (cc_X8_common (l := l) (G := G) (sz := H.size) (M := M) hi e5) (w_cS 2 hts q_6 q_7 q_8 q_9 rfl rfl (by decide) (by decide)) hl.1 rfl (lv_room (Nat.le_of_ble_eq_true rfl)) dX8_primitive_29 (fun H locs hw => ?_)
      refine lv_lstore_n (lv' := [(2, .long v5), (0, .ref (adr 36)), (1, .int a0), (4, .int v2)]) hx hb dX8_primitive_32 rfl hl (by decide) rfl (fun ls hl => ?_)
      refine lv_iinc (v := v2 + 1) (lv' := [(4, .int (v2 + 1)), (2, .long v5), (0, .ref (adr 36)), (1, .int a0)]) hx hb dX8_primitive_33 hl (k := 3) rfl (inc_p _ (by decide)) (by decide) rfl (fun ls hl => ?_)
      refine lv_goto (tgt := 5) hx hb dX8_primitive_36 (by decide) ?_
      cases h
      exact k2 _ rfl _ _ _ (lv_sub hl [2, 3, 1, 0] rfl) hw
  · clear hw hl
    intro ls H locs hl hw
    (try dsimp only at hl hw ⊢)
    refine lv_lload_n hx hb dX8_primitive_39 rfl (lv_at hl 2 rfl) ?_
    refine lv_lconst (v := (0 : Int64)) hx hb dX8_primitive_40 (by decide) ?_
    refine m_lcmp_ne (tgt := 47) hx hb dX8_primitive_41 dX8_primitive_42 (by decide) (fun hc => ?_) (fun hc => ?_)
    · replace h := ite_f hc h
      refine lv_aload_n hx hb dX8_primitive_47 rfl (lv_at hl 0 rfl) ?_
      refine m_get (k := 36) (C := RX8) (T := TX8) (N := 18) (ref := "LiftFactorsModel") (v := .ref (adr 41)) hx hb hi hts inX8_u hown hw (by decide) rfl 7 (by decide) q_0 rfl rfl dX8_primitive_48 ?_
      refine lv_bipush (v := (24 : Int32)) hx hb dX8_primitive_51 (by decide) ?_
      refine lv_iload_n hx hb dX8_primitive_53 rfl (lv_at hl 1 rfl) ?_
      refine lv_imul hx hb dX8_primitive_54 ?_
      refine lv_aload_n hx hb dX8_primitive_55 rfl (lv_at hl 0 rfl) ?_
      refine m_get (k := 36) (C := RX8) (T := TX8) (N := 18) (ref := "LiftFactorsModel") (v := .ref (adr 42)) hx hb hi hts inX8_u hown hw (by decide) rfl 8 (by decide) q_1 rfl rfl dX8_primitive_56 ?_
      refine lv_iload_n hx hb dX8_primitive_59 rfl (lv_at hl 1 rfl) ?_
      replace h := bnd h
      obtain ⟨v8, e8, h⟩ := h
      refine m_iald hx hb hi hw e8 dX8_primitive_60 ?_
      refine lv_iadd hx hb dX8_primitive_61 ?_
      replace h := bnd h
      obtain ⟨v9, e9, h⟩ := h
      refine m_lald hx hb hi hw e9 dX8_primitive_62 ?_
      refine lv_lconst (v := (0 : Int64)) hx hb dX8_primitive_63 (by decide) ?_
      replace h := bnd h
      obtain ⟨v10, j19, h⟩ := h
      have kj : ∀ (ls : Array Slot) (H : Heap) (locs : List Loc), lv_has ls 5 [(0, .ref (adr 36)), (1, .int a0), (2, .long v10)] → wH G A s.heap s (LL adr) (wf G adr M) H locs → W p l e { frames := 2, cells := 0, slots := 0, locals := 50 } s m args below meth c H locs 0 0 Q (F0 m 71 ls []) := by
        intro ls H locs hl hw
        refine lv_iconst (v := (0 : Int32)) hx hb dX8_primitive_71 (by decide) ?_
        refine lv_istore (lv' := [(4, .int (0 : Int32)), (0, .ref (adr 36)), (1, .int a0), (2, .long v10)]) hx hb dX8_primitive_72 hl (by decide) rfl (fun ls hl => ?_)
        replace h := bnd h
        obtain ⟨M18, j17, h⟩ := h
        refine lp_W (Wst := fun (st : Mem × Int32) => ∀ (ls : Array Slot) (H : Heap) (locs : List Loc), lv_has ls 5 [(0, .ref (adr 36)), (1, .int a0), (2, .long v10), (4, .int st.2)] → wH G A s.heap s (LL adr) (wf G adr st.1) H locs → W p l e { frames := 2, cells := 0, slots := 0, locals := 50 } s m args below meth c H locs 0 0 Q (F0 m 74 ls [])) (fin := fun (r : Mem) => ∀ (ls : Array Slot) (H : Heap) (locs : List Loc), lv_has ls 5 [(2, .long v10)] → wH G A s.heap s (LL adr) (wf G adr r) H locs → W p l e { frames := 2, cells := 0, slots := 0, locals := 50 } s m args below meth c H locs 0 0 Q (F0 m 107 ls [])) ?_ n _ _ j17 ?_ _ _ _ (lv_sub hl [1, 2, 3, 0] rfl) hw
        · clear h j17 hw hl
          intro ⟨M11, v12⟩ x h k1 k2 ls H locs hl hw
          (try dsimp only at k1 k2 hl hw ⊢)
          unfold l_X8_primitive_74 at h
          (try dsimp only at h)
          refine lv_iload hx hb dX8_primitive_74 (lv_at hl 3 rfl) ?_
          refine lv_aload_n hx hb dX8_primitive_76 rfl (lv_at hl 0 rfl) ?_
          refine m_get (k := 36) (C := RX8) (T := TX8) (N := 18) (ref := "LiftFactorsModel") (v := .ref (adr 42)) hx hb hi hts inX8_u hown hw (by decide) rfl 8 (by decide) q_1 rfl rfl dX8_primitive_77 ?_
          refine lv_iload_n hx hb dX8_primitive_80 rfl (lv_at hl 1 rfl) ?_
          replace h := bnd h
          obtain ⟨v13, e13, h⟩ := h
          refine m_iald hx hb hi hw e13 dX8_primitive_81 ?_
          refine lv_icmp_gt (tgt := 107) hx hb dX8_primitive_82 (by decide) (fun hc => ?_) (fun hc => ?_)
          · replace h := ite_t hc h
            cases h
            exact k1 _ rfl _ _ _ (lv_sub hl [2] rfl) hw
          · replace h := ite_f hc h
            refine lv_aload_n hx hb dX8_primitive_85 rfl (lv_at hl 0 rfl) ?_
            refine m_get (k := 36) (C := RX8) (T := TX8) (N := 18) (ref := "LiftFactorsModel") (v := .ref (adr 41)) hx hb hi hts inX8_u hown hw (by decide) rfl 7 (by decide) q_0 rfl rfl dX8_primitive_86 ?_
            refine lv_bipush (v := (24 : Int32)) hx hb dX8_primitive_89 (by decide) ?_
            refine lv_iload_n hx hb dX8_primitive_91 rfl (lv_at hl 1 rfl) ?_
            refine lv_imul hx hb dX8_primitive_92 ?_
            refine lv_iload hx hb dX8_primitive_93 (lv_at hl 3 rfl) ?_
            refine lv_iadd hx hb dX8_primitive_95 ?_
            refine lv_dup2_11 hx hb dX8_primitive_96 rfl rfl ?_
            replace h := bnd h
            obtain ⟨v14, e14, h⟩ := h
            refine m_lald hx hb hi hw e14 dX8_primitive_97 ?_
            refine lv_lload_n hx hb dX8_primitive_98 rfl (lv_at hl 2 rfl) ?_
            replace h := bnd h
            obtain ⟨v15, e15, h⟩ := h
            obtain ⟨ne15, rfl⟩ := dvJ_ok e15
            refine lv_ldiv hx hb dX8_primitive_99 ne15 ?_
            obtain ⟨v15, e15⟩ : ∃ z9, z9 = v14 / v10 := ⟨_, rfl⟩
            rw [← e15] at h ⊢
            replace h := bnd h
            obtain ⟨v16, e16, h⟩ := h
            refine m_last hx hb hi hw e16 dX8_primitive_100 (fun H locs hw => ?_)
            refine lv_iinc (v := v12 + 1) (lv' := [(4, .int (v12 + 1)), (0, .ref (adr 36)), (1, .int a0), (2, .long v10)]) hx hb dX8_primitive_101 hl (k := 3) rfl (inc_p _ (by decide)) (by decide) rfl (fun ls hl => ?_)
            refine lv_goto (tgt := 74) hx hb dX8_primitive_104 (by decide) ?_
            cases h
            exact k2 _ rfl _ _ _ (lv_sub hl [1, 2, 3, 0] rfl) hw
        · clear hw hl
          intro ls H locs hl hw
          (try dsimp only at hl hw ⊢)
          refine lv_lload_n hx hb dX8_primitive_107 rfl (lv_at hl 0 rfl) ?_
          cases h
          exact kr _ _ _ _ dX8_primitive_108 hw
      clear h
      replace h := j19
      clear j19
      refine m_lcmp_ge (tgt := 71) hx hb dX8_primitive_64 dX8_primitive_65 (by decide) (fun hc => ?_) (fun hc => ?_)
      · replace h := ite_t hc h
        cases h
        exact kj _ _ _ (lv_sub hl [0, 1, 2] rfl) hw
      · replace h := ite_f hc h
        refine lv_lload_n hx hb dX8_primitive_68 rfl (lv_at hl 2 rfl) ?_
        refine lv_lneg hx hb dX8_primitive_69 ?_
        refine lv_lstore_n (lv' := [(2, .long (-v7)), (0, .ref (adr 36)), (1, .int a0)]) hx hb dX8_primitive_70 rfl hl (by decide) rfl (fun ls hl => ?_)
        cases h
        exact kj _ _ _ (lv_sub hl [1, 2, 0] rfl) hw
    · replace h := ite_t hc h
      refine lv_lconst (v := (0 : Int64)) hx hb dX8_primitive_45 (by decide) ?_
      cases h
      exact kr _ _ _ _ dX8_primitive_46 hw
theorem cc_X8_primitive {l : Launch} {G : gG} {adr : Nat → Nat} {sz : Nat} (hi : adi adr) {n : Nat} {a0 : Int32} {M M' : Mem} {r : Int64} (h : f_X8_primitive n a0 M = some (r, M')) : mL l yX8_primitive cX8_primitive 5 (some .long) { frames := 2, cells := 0, slots := 0, locals := 50 } G adr [.ref (adr 36), .int a0] M sz r M' := by
  refine wEnter (by decide) (Nat.le_of_ble_eq_true rfl) ?_
  intro p e s m below meth c ls cx hinit hl hsz hw
  exact b_X8_primitive cx hi h (fun pc ls H locs hd hw => w_lret (post := fun (r9 : Int64) (u : Mem) => r9 = r ∧ u = M') (lf := fun u => (LL adr, wf G adr u)) cx.1 cx.2.1 cx.2.2.1 cx.2.2.2.2.2.2 M' hw ⟨rfl, rfl⟩ hd) hl hw
